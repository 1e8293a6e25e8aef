/-! ===== L3: a night (by program: mk21.py) ===== -/
/-- the cells from n on hold the night of the row w -/
def NR (s : Mem) (n : Nat) (w : Int → Int) : Prop :=
  (s n 8 = w 58 ∧ s n 9 = w 5 ∧ s n 10 = w 3 ∧ s n 11 = w 1 ∧ s n 12 = w 2 ∧ s n 13 = w 57 ∧ s n 14 = w 0 ∧ s n 15 = w 4 ∧ s n 16 = w 6) ∧
  (∀ b : Int, 0 ≤ b → b < 10 → s (n + 1) b = w (65 + b) ∧ s (n + 2) b = w (75 + b) ∧ s (n + 3) b = w (7 + b) ∧ s (n + 4) b = w (17 + b) ∧ s (n + 5) b = w (27 + b) ∧ s (n + 6) b = w (37 + b) ∧ s (n + 7) b = w (47 + b)) ∧
  (∀ r : Int, 0 ≤ r → r < 16 → s (n + 8) r = w (85 + r))
def WN (w : Int → Int) : Prop :=
  ((0 ≤ w 58 ∧ w 58 ≤ 10) ∧ InR (w 5) ∧ (0 ≤ w 3 ∧ w 3 ≤ 99) ∧ (0 ≤ w 1 ∧ w 1 ≤ 9) ∧ (0 ≤ w 2 ∧ w 2 ≤ 9) ∧ (0 ≤ w 57 ∧ w 57 ≤ 1000) ∧ (0 ≤ w 0 ∧ w 0 ≤ 20000) ∧ InR (w 4) ∧ (0 ≤ w 6 ∧ w 6 ≤ 150)) ∧
  (∀ b : Int, 0 ≤ b → b < 10 → (0 ≤ w (65 + b) ∧ w (65 + b) ≤ 40) ∧ (0 ≤ w (75 + b) ∧ w (75 + b) ≤ 2) ∧ (0 ≤ w (7 + b) ∧ w (7 + b) ≤ 15) ∧ (0 ≤ w (17 + b) ∧ w (17 + b) ≤ 999) ∧ (0 ≤ w (27 + b) ∧ w (27 + b) ≤ 999) ∧ (0 ≤ w (37 + b) ∧ w (37 + b) ≤ 1) ∧ (0 ≤ w (47 + b) ∧ w (47 + b) ≤ 2)) ∧
  (∀ r : Int, 0 ≤ r → r < 16 → 0 ≤ w (85 + r) ∧ w (85 + r) ≤ 99)
theorem NR.boats {s : Mem} {n : Nat} {w : Int → Int} (h : NR s n w) : s n 8 = w 58 := h.1.1
theorem WN.boats {w : Int → Int} (h : WN w) : 0 ≤ w 58 ∧ w 58 ≤ 10 := h.1.1
theorem NR.draws {s : Mem} {n : Nat} {w : Int → Int} (h : NR s n w) : s n 9 = w 5 := h.1.2.1
theorem WN.draws {w : Int → Int} (h : WN w) : InR (w 5) := h.1.2.1
theorem NR.alarm {s : Mem} {n : Nat} {w : Int → Int} (h : NR s n w) : s n 10 = w 3 := h.1.2.2.1
theorem WN.alarm {w : Int → Int} (h : WN w) : 0 ≤ w 3 ∧ w 3 ≤ 99 := h.1.2.2.1
theorem NR.fog {s : Mem} {n : Nat} {w : Int → Int} (h : NR s n w) : s n 11 = w 1 := h.1.2.2.2.1
theorem WN.fog {w : Int → Int} (h : WN w) : 0 ≤ w 1 ∧ w 1 ≤ 9 := h.1.2.2.2.1
theorem NR.drums {s : Mem} {n : Nat} {w : Int → Int} (h : NR s n w) : s n 12 = w 2 := h.1.2.2.2.2.1
theorem WN.drums {w : Int → Int} (h : WN w) : 0 ≤ w 2 ∧ w 2 ≤ 9 := h.1.2.2.2.2.1
theorem NR.fire {s : Mem} {n : Nat} {w : Int → Int} (h : NR s n w) : s n 13 = w 57 := h.1.2.2.2.2.2.1
theorem WN.fire {w : Int → Int} (h : WN w) : 0 ≤ w 57 ∧ w 57 ≤ 1000 := h.1.2.2.2.2.2.1
theorem NR.hour {s : Mem} {n : Nat} {w : Int → Int} (h : NR s n w) : s n 14 = w 0 := h.1.2.2.2.2.2.2.1
theorem WN.hour {w : Int → Int} (h : WN w) : 0 ≤ w 0 ∧ w 0 ≤ 20000 := h.1.2.2.2.2.2.2.1
theorem NR.arrows {s : Mem} {n : Nat} {w : Int → Int} (h : NR s n w) : s n 15 = w 4 := h.1.2.2.2.2.2.2.2.1
theorem WN.arrows {w : Int → Int} (h : WN w) : InR (w 4) := h.1.2.2.2.2.2.2.2.1
theorem NR.written {s : Mem} {n : Nat} {w : Int → Int} (h : NR s n w) : s n 16 = w 6 := h.1.2.2.2.2.2.2.2.2
theorem WN.written {w : Int → Int} (h : WN w) : 0 ≤ w 6 ∧ w 6 ≤ 150 := h.1.2.2.2.2.2.2.2.2
theorem NR.straw {s : Mem} {n : Nat} {w : Int → Int} (h : NR s n w) {b : Int} (hb : 0 ≤ b ∧ b < 10) : s (n + 1) b = w (65 + b) := (h.2.1 b hb.1 hb.2).1
theorem WN.straw {w : Int → Int} (h : WN w) {b : Int} (hb : 0 ≤ b ∧ b < 10) : 0 ≤ w (65 + b) ∧ w (65 + b) ≤ 40 := (h.2.1 b hb.1 hb.2).1
theorem NR.kind {s : Mem} {n : Nat} {w : Int → Int} (h : NR s n w) {b : Int} (hb : 0 ≤ b ∧ b < 10) : s (n + 2) b = w (75 + b) := (h.2.1 b hb.1 hb.2).2.1
theorem WN.kind {w : Int → Int} (h : WN w) {b : Int} (hb : 0 ≤ b ∧ b < 10) : 0 ≤ w (75 + b) ∧ w (75 + b) ≤ 2 := (h.2.1 b hb.1 hb.2).2.1
theorem NR.reach {s : Mem} {n : Nat} {w : Int → Int} (h : NR s n w) {b : Int} (hb : 0 ≤ b ∧ b < 10) : s (n + 3) b = w (7 + b) := (h.2.1 b hb.1 hb.2).2.2.1
theorem WN.reach {w : Int → Int} (h : WN w) {b : Int} (hb : 0 ≤ b ∧ b < 10) : 0 ≤ w (7 + b) ∧ w (7 + b) ≤ 15 := (h.2.1 b hb.1 hb.2).2.2.1
theorem NR.left {s : Mem} {n : Nat} {w : Int → Int} (h : NR s n w) {b : Int} (hb : 0 ≤ b ∧ b < 10) : s (n + 4) b = w (17 + b) := (h.2.1 b hb.1 hb.2).2.2.2.1
theorem WN.left {w : Int → Int} (h : WN w) {b : Int} (hb : 0 ≤ b ∧ b < 10) : 0 ≤ w (17 + b) ∧ w (17 + b) ≤ 999 := (h.2.1 b hb.1 hb.2).2.2.2.1
theorem NR.right {s : Mem} {n : Nat} {w : Int → Int} (h : NR s n w) {b : Int} (hb : 0 ≤ b ∧ b < 10) : s (n + 5) b = w (27 + b) := (h.2.1 b hb.1 hb.2).2.2.2.2.1
theorem WN.right {w : Int → Int} (h : WN w) {b : Int} (hb : 0 ≤ b ∧ b < 10) : 0 ≤ w (27 + b) ∧ w (27 + b) ≤ 999 := (h.2.1 b hb.1 hb.2).2.2.2.2.1
theorem NR.turned {s : Mem} {n : Nat} {w : Int → Int} (h : NR s n w) {b : Int} (hb : 0 ≤ b ∧ b < 10) : s (n + 6) b = w (37 + b) := (h.2.1 b hb.1 hb.2).2.2.2.2.2.1
theorem WN.turned {w : Int → Int} (h : WN w) {b : Int} (hb : 0 ≤ b ∧ b < 10) : 0 ≤ w (37 + b) ∧ w (37 + b) ≤ 1 := (h.2.1 b hb.1 hb.2).2.2.2.2.2.1
theorem NR.lost {s : Mem} {n : Nat} {w : Int → Int} (h : NR s n w) {b : Int} (hb : 0 ≤ b ∧ b < 10) : s (n + 7) b = w (47 + b) := (h.2.1 b hb.1 hb.2).2.2.2.2.2.2
theorem WN.lost {w : Int → Int} (h : WN w) {b : Int} (hb : 0 ≤ b ∧ b < 10) : 0 ≤ w (47 + b) ∧ w (47 + b) ≤ 2 := (h.2.1 b hb.1 hb.2).2.2.2.2.2.2
theorem NR.archers {s : Mem} {n : Nat} {w : Int → Int} (h : NR s n w) {r : Int} (hr : 0 ≤ r ∧ r < 16) : s (n + 8) r = w (85 + r) := h.2.2 r hr.1 hr.2
theorem WN.archers {w : Int → Int} (h : WN w) {r : Int} (hr : 0 ≤ r ∧ r < 16) : 0 ≤ w (85 + r) ∧ w (85 + r) ≤ 99 := h.2.2 r hr.1 hr.2
theorem NR.of {s s' : Mem} {n : Nat} {w : Int → Int} (h : NR s n w) (q : ∀ a : Nat, n ≤ a → a ≤ n + 8 → s' a = s a) : NR s' n w := by
  obtain ⟨h1, h2, h3⟩ := h
  have e := fun k (hk : k ≤ 8) => q (n + k) (Nat.le_add_right _ _) (Nat.add_le_add_left hk n)
  have e0 : s' n = s n := e 0 (by decide)
  refine ⟨?_, fun b hb1 hb2 => ?_, fun r hr1 hr2 => ?_⟩
  · rw [e0]
    exact h1
  · rw [e 1 (by decide), e 2 (by decide), e 3 (by decide), e 4 (by decide), e 5 (by decide), e 6 (by decide), e 7 (by decide)]
    exact h2 b hb1 hb2
  · rw [e 8 (by decide)]
    exact h3 r hr1 hr2
/-- of the row only the night's places count -/
theorem NR.cg {s : Mem} {n : Nat} {w w' : Int → Int} (h : NR s n w) (q : ∀ i : Int, 0 ≤ i → i < 101 → w' i = w i) : NR s n w' := by
  obtain ⟨⟨a0, a1, a2, a3, a4, a5, a6, a7, a8⟩, h2, h3⟩ := h
  refine ⟨⟨by rw [q _ (by omega) (by omega)]; exact a0, by rw [q _ (by omega) (by omega)]; exact a1, by rw [q _ (by omega) (by omega)]; exact a2, by rw [q _ (by omega) (by omega)]; exact a3, by rw [q _ (by omega) (by omega)]; exact a4, by rw [q _ (by omega) (by omega)]; exact a5, by rw [q _ (by omega) (by omega)]; exact a6, by rw [q _ (by omega) (by omega)]; exact a7, by rw [q _ (by omega) (by omega)]; exact a8⟩, fun b hb1 hb2 => ?_, fun r hr1 hr2 => ?_⟩
  · obtain ⟨b0, b1, b2, b3, b4, b5, b6⟩ := h2 b hb1 hb2
    exact ⟨by rw [q _ (by omega) (by omega)]; exact b0, by rw [q _ (by omega) (by omega)]; exact b1, by rw [q _ (by omega) (by omega)]; exact b2, by rw [q _ (by omega) (by omega)]; exact b3, by rw [q _ (by omega) (by omega)]; exact b4, by rw [q _ (by omega) (by omega)]; exact b5, by rw [q _ (by omega) (by omega)]; exact b6⟩
  · rw [q _ (by omega) (by omega)]
    exact h3 r hr1 hr2
theorem WN.cg {w w' : Int → Int} (h : WN w) (q : ∀ i : Int, 0 ≤ i → i < 101 → w' i = w i) : WN w' := by
  obtain ⟨⟨a0, a1, a2, a3, a4, a5, a6, a7, a8⟩, h2, h3⟩ := h
  refine ⟨⟨by rw [q _ (by omega) (by omega)]; exact a0, by rw [q _ (by omega) (by omega)]; exact a1, by rw [q _ (by omega) (by omega)]; exact a2, by rw [q _ (by omega) (by omega)]; exact a3, by rw [q _ (by omega) (by omega)]; exact a4, by rw [q _ (by omega) (by omega)]; exact a5, by rw [q _ (by omega) (by omega)]; exact a6, by rw [q _ (by omega) (by omega)]; exact a7, by rw [q _ (by omega) (by omega)]; exact a8⟩, fun b hb1 hb2 => ?_, fun r hr1 hr2 => ?_⟩
  · obtain ⟨b0, b1, b2, b3, b4, b5, b6⟩ := h2 b hb1 hb2
    exact ⟨by rw [q _ (by omega) (by omega)]; exact b0, by rw [q _ (by omega) (by omega)]; exact b1, by rw [q _ (by omega) (by omega)]; exact b2, by rw [q _ (by omega) (by omega)]; exact b3, by rw [q _ (by omega) (by omega)]; exact b4, by rw [q _ (by omega) (by omega)]; exact b5, by rw [q _ (by omega) (by omega)]; exact b6⟩
  · rw [q _ (by omega) (by omega)]
    exact h3 r hr1 hr2
theorem NR.u_boats {s : Mem} {n : Nat} {w : Int → Int} (h : NR s n w) (v : Int) : NR (mup s n 8 v) n (up w 58 v) := by
  obtain ⟨⟨a0, a1, a2, a3, a4, a5, a6, a7, a8⟩, h2, h3⟩ := h
  refine ⟨⟨by rw [mup_e rfl rfl, up_eq rfl], by rw [mup_n (by omega), up_ne (by omega)]; exact a1, by rw [mup_n (by omega), up_ne (by omega)]; exact a2, by rw [mup_n (by omega), up_ne (by omega)]; exact a3, by rw [mup_n (by omega), up_ne (by omega)]; exact a4, by rw [mup_n (by omega), up_ne (by omega)]; exact a5, by rw [mup_n (by omega), up_ne (by omega)]; exact a6, by rw [mup_n (by omega), up_ne (by omega)]; exact a7, by rw [mup_n (by omega), up_ne (by omega)]; exact a8⟩, fun b hb1 hb2 => ?_, fun r hr1 hr2 => ?_⟩
  · obtain ⟨b0, b1, b2, b3, b4, b5, b6⟩ := h2 b hb1 hb2
    exact ⟨by rw [mup_n (by omega), up_ne (by omega)]; exact b0, by rw [mup_n (by omega), up_ne (by omega)]; exact b1, by rw [mup_n (by omega), up_ne (by omega)]; exact b2, by rw [mup_n (by omega), up_ne (by omega)]; exact b3, by rw [mup_n (by omega), up_ne (by omega)]; exact b4, by rw [mup_n (by omega), up_ne (by omega)]; exact b5, by rw [mup_n (by omega), up_ne (by omega)]; exact b6⟩
  · rw [mup_n (by omega), up_ne (by omega)]
    exact h3 r hr1 hr2
theorem NR.u_draws {s : Mem} {n : Nat} {w : Int → Int} (h : NR s n w) (v : Int) : NR (mup s n 9 v) n (up w 5 v) := by
  obtain ⟨⟨a0, a1, a2, a3, a4, a5, a6, a7, a8⟩, h2, h3⟩ := h
  refine ⟨⟨by rw [mup_n (by omega), up_ne (by omega)]; exact a0, by rw [mup_e rfl rfl, up_eq rfl], by rw [mup_n (by omega), up_ne (by omega)]; exact a2, by rw [mup_n (by omega), up_ne (by omega)]; exact a3, by rw [mup_n (by omega), up_ne (by omega)]; exact a4, by rw [mup_n (by omega), up_ne (by omega)]; exact a5, by rw [mup_n (by omega), up_ne (by omega)]; exact a6, by rw [mup_n (by omega), up_ne (by omega)]; exact a7, by rw [mup_n (by omega), up_ne (by omega)]; exact a8⟩, fun b hb1 hb2 => ?_, fun r hr1 hr2 => ?_⟩
  · obtain ⟨b0, b1, b2, b3, b4, b5, b6⟩ := h2 b hb1 hb2
    exact ⟨by rw [mup_n (by omega), up_ne (by omega)]; exact b0, by rw [mup_n (by omega), up_ne (by omega)]; exact b1, by rw [mup_n (by omega), up_ne (by omega)]; exact b2, by rw [mup_n (by omega), up_ne (by omega)]; exact b3, by rw [mup_n (by omega), up_ne (by omega)]; exact b4, by rw [mup_n (by omega), up_ne (by omega)]; exact b5, by rw [mup_n (by omega), up_ne (by omega)]; exact b6⟩
  · rw [mup_n (by omega), up_ne (by omega)]
    exact h3 r hr1 hr2
theorem NR.u_alarm {s : Mem} {n : Nat} {w : Int → Int} (h : NR s n w) (v : Int) : NR (mup s n 10 v) n (up w 3 v) := by
  obtain ⟨⟨a0, a1, a2, a3, a4, a5, a6, a7, a8⟩, h2, h3⟩ := h
  refine ⟨⟨by rw [mup_n (by omega), up_ne (by omega)]; exact a0, by rw [mup_n (by omega), up_ne (by omega)]; exact a1, by rw [mup_e rfl rfl, up_eq rfl], by rw [mup_n (by omega), up_ne (by omega)]; exact a3, by rw [mup_n (by omega), up_ne (by omega)]; exact a4, by rw [mup_n (by omega), up_ne (by omega)]; exact a5, by rw [mup_n (by omega), up_ne (by omega)]; exact a6, by rw [mup_n (by omega), up_ne (by omega)]; exact a7, by rw [mup_n (by omega), up_ne (by omega)]; exact a8⟩, fun b hb1 hb2 => ?_, fun r hr1 hr2 => ?_⟩
  · obtain ⟨b0, b1, b2, b3, b4, b5, b6⟩ := h2 b hb1 hb2
    exact ⟨by rw [mup_n (by omega), up_ne (by omega)]; exact b0, by rw [mup_n (by omega), up_ne (by omega)]; exact b1, by rw [mup_n (by omega), up_ne (by omega)]; exact b2, by rw [mup_n (by omega), up_ne (by omega)]; exact b3, by rw [mup_n (by omega), up_ne (by omega)]; exact b4, by rw [mup_n (by omega), up_ne (by omega)]; exact b5, by rw [mup_n (by omega), up_ne (by omega)]; exact b6⟩
  · rw [mup_n (by omega), up_ne (by omega)]
    exact h3 r hr1 hr2
theorem NR.u_fog {s : Mem} {n : Nat} {w : Int → Int} (h : NR s n w) (v : Int) : NR (mup s n 11 v) n (up w 1 v) := by
  obtain ⟨⟨a0, a1, a2, a3, a4, a5, a6, a7, a8⟩, h2, h3⟩ := h
  refine ⟨⟨by rw [mup_n (by omega), up_ne (by omega)]; exact a0, by rw [mup_n (by omega), up_ne (by omega)]; exact a1, by rw [mup_n (by omega), up_ne (by omega)]; exact a2, by rw [mup_e rfl rfl, up_eq rfl], by rw [mup_n (by omega), up_ne (by omega)]; exact a4, by rw [mup_n (by omega), up_ne (by omega)]; exact a5, by rw [mup_n (by omega), up_ne (by omega)]; exact a6, by rw [mup_n (by omega), up_ne (by omega)]; exact a7, by rw [mup_n (by omega), up_ne (by omega)]; exact a8⟩, fun b hb1 hb2 => ?_, fun r hr1 hr2 => ?_⟩
  · obtain ⟨b0, b1, b2, b3, b4, b5, b6⟩ := h2 b hb1 hb2
    exact ⟨by rw [mup_n (by omega), up_ne (by omega)]; exact b0, by rw [mup_n (by omega), up_ne (by omega)]; exact b1, by rw [mup_n (by omega), up_ne (by omega)]; exact b2, by rw [mup_n (by omega), up_ne (by omega)]; exact b3, by rw [mup_n (by omega), up_ne (by omega)]; exact b4, by rw [mup_n (by omega), up_ne (by omega)]; exact b5, by rw [mup_n (by omega), up_ne (by omega)]; exact b6⟩
  · rw [mup_n (by omega), up_ne (by omega)]
    exact h3 r hr1 hr2
theorem NR.u_drums {s : Mem} {n : Nat} {w : Int → Int} (h : NR s n w) (v : Int) : NR (mup s n 12 v) n (up w 2 v) := by
  obtain ⟨⟨a0, a1, a2, a3, a4, a5, a6, a7, a8⟩, h2, h3⟩ := h
  refine ⟨⟨by rw [mup_n (by omega), up_ne (by omega)]; exact a0, by rw [mup_n (by omega), up_ne (by omega)]; exact a1, by rw [mup_n (by omega), up_ne (by omega)]; exact a2, by rw [mup_n (by omega), up_ne (by omega)]; exact a3, by rw [mup_e rfl rfl, up_eq rfl], by rw [mup_n (by omega), up_ne (by omega)]; exact a5, by rw [mup_n (by omega), up_ne (by omega)]; exact a6, by rw [mup_n (by omega), up_ne (by omega)]; exact a7, by rw [mup_n (by omega), up_ne (by omega)]; exact a8⟩, fun b hb1 hb2 => ?_, fun r hr1 hr2 => ?_⟩
  · obtain ⟨b0, b1, b2, b3, b4, b5, b6⟩ := h2 b hb1 hb2
    exact ⟨by rw [mup_n (by omega), up_ne (by omega)]; exact b0, by rw [mup_n (by omega), up_ne (by omega)]; exact b1, by rw [mup_n (by omega), up_ne (by omega)]; exact b2, by rw [mup_n (by omega), up_ne (by omega)]; exact b3, by rw [mup_n (by omega), up_ne (by omega)]; exact b4, by rw [mup_n (by omega), up_ne (by omega)]; exact b5, by rw [mup_n (by omega), up_ne (by omega)]; exact b6⟩
  · rw [mup_n (by omega), up_ne (by omega)]
    exact h3 r hr1 hr2
theorem NR.u_fire {s : Mem} {n : Nat} {w : Int → Int} (h : NR s n w) (v : Int) : NR (mup s n 13 v) n (up w 57 v) := by
  obtain ⟨⟨a0, a1, a2, a3, a4, a5, a6, a7, a8⟩, h2, h3⟩ := h
  refine ⟨⟨by rw [mup_n (by omega), up_ne (by omega)]; exact a0, by rw [mup_n (by omega), up_ne (by omega)]; exact a1, by rw [mup_n (by omega), up_ne (by omega)]; exact a2, by rw [mup_n (by omega), up_ne (by omega)]; exact a3, by rw [mup_n (by omega), up_ne (by omega)]; exact a4, by rw [mup_e rfl rfl, up_eq rfl], by rw [mup_n (by omega), up_ne (by omega)]; exact a6, by rw [mup_n (by omega), up_ne (by omega)]; exact a7, by rw [mup_n (by omega), up_ne (by omega)]; exact a8⟩, fun b hb1 hb2 => ?_, fun r hr1 hr2 => ?_⟩
  · obtain ⟨b0, b1, b2, b3, b4, b5, b6⟩ := h2 b hb1 hb2
    exact ⟨by rw [mup_n (by omega), up_ne (by omega)]; exact b0, by rw [mup_n (by omega), up_ne (by omega)]; exact b1, by rw [mup_n (by omega), up_ne (by omega)]; exact b2, by rw [mup_n (by omega), up_ne (by omega)]; exact b3, by rw [mup_n (by omega), up_ne (by omega)]; exact b4, by rw [mup_n (by omega), up_ne (by omega)]; exact b5, by rw [mup_n (by omega), up_ne (by omega)]; exact b6⟩
  · rw [mup_n (by omega), up_ne (by omega)]
    exact h3 r hr1 hr2
theorem NR.u_hour {s : Mem} {n : Nat} {w : Int → Int} (h : NR s n w) (v : Int) : NR (mup s n 14 v) n (up w 0 v) := by
  obtain ⟨⟨a0, a1, a2, a3, a4, a5, a6, a7, a8⟩, h2, h3⟩ := h
  refine ⟨⟨by rw [mup_n (by omega), up_ne (by omega)]; exact a0, by rw [mup_n (by omega), up_ne (by omega)]; exact a1, by rw [mup_n (by omega), up_ne (by omega)]; exact a2, by rw [mup_n (by omega), up_ne (by omega)]; exact a3, by rw [mup_n (by omega), up_ne (by omega)]; exact a4, by rw [mup_n (by omega), up_ne (by omega)]; exact a5, by rw [mup_e rfl rfl, up_eq rfl], by rw [mup_n (by omega), up_ne (by omega)]; exact a7, by rw [mup_n (by omega), up_ne (by omega)]; exact a8⟩, fun b hb1 hb2 => ?_, fun r hr1 hr2 => ?_⟩
  · obtain ⟨b0, b1, b2, b3, b4, b5, b6⟩ := h2 b hb1 hb2
    exact ⟨by rw [mup_n (by omega), up_ne (by omega)]; exact b0, by rw [mup_n (by omega), up_ne (by omega)]; exact b1, by rw [mup_n (by omega), up_ne (by omega)]; exact b2, by rw [mup_n (by omega), up_ne (by omega)]; exact b3, by rw [mup_n (by omega), up_ne (by omega)]; exact b4, by rw [mup_n (by omega), up_ne (by omega)]; exact b5, by rw [mup_n (by omega), up_ne (by omega)]; exact b6⟩
  · rw [mup_n (by omega), up_ne (by omega)]
    exact h3 r hr1 hr2
theorem NR.u_arrows {s : Mem} {n : Nat} {w : Int → Int} (h : NR s n w) (v : Int) : NR (mup s n 15 v) n (up w 4 v) := by
  obtain ⟨⟨a0, a1, a2, a3, a4, a5, a6, a7, a8⟩, h2, h3⟩ := h
  refine ⟨⟨by rw [mup_n (by omega), up_ne (by omega)]; exact a0, by rw [mup_n (by omega), up_ne (by omega)]; exact a1, by rw [mup_n (by omega), up_ne (by omega)]; exact a2, by rw [mup_n (by omega), up_ne (by omega)]; exact a3, by rw [mup_n (by omega), up_ne (by omega)]; exact a4, by rw [mup_n (by omega), up_ne (by omega)]; exact a5, by rw [mup_n (by omega), up_ne (by omega)]; exact a6, by rw [mup_e rfl rfl, up_eq rfl], by rw [mup_n (by omega), up_ne (by omega)]; exact a8⟩, fun b hb1 hb2 => ?_, fun r hr1 hr2 => ?_⟩
  · obtain ⟨b0, b1, b2, b3, b4, b5, b6⟩ := h2 b hb1 hb2
    exact ⟨by rw [mup_n (by omega), up_ne (by omega)]; exact b0, by rw [mup_n (by omega), up_ne (by omega)]; exact b1, by rw [mup_n (by omega), up_ne (by omega)]; exact b2, by rw [mup_n (by omega), up_ne (by omega)]; exact b3, by rw [mup_n (by omega), up_ne (by omega)]; exact b4, by rw [mup_n (by omega), up_ne (by omega)]; exact b5, by rw [mup_n (by omega), up_ne (by omega)]; exact b6⟩
  · rw [mup_n (by omega), up_ne (by omega)]
    exact h3 r hr1 hr2
theorem NR.u_written {s : Mem} {n : Nat} {w : Int → Int} (h : NR s n w) (v : Int) : NR (mup s n 16 v) n (up w 6 v) := by
  obtain ⟨⟨a0, a1, a2, a3, a4, a5, a6, a7, a8⟩, h2, h3⟩ := h
  refine ⟨⟨by rw [mup_n (by omega), up_ne (by omega)]; exact a0, by rw [mup_n (by omega), up_ne (by omega)]; exact a1, by rw [mup_n (by omega), up_ne (by omega)]; exact a2, by rw [mup_n (by omega), up_ne (by omega)]; exact a3, by rw [mup_n (by omega), up_ne (by omega)]; exact a4, by rw [mup_n (by omega), up_ne (by omega)]; exact a5, by rw [mup_n (by omega), up_ne (by omega)]; exact a6, by rw [mup_n (by omega), up_ne (by omega)]; exact a7, by rw [mup_e rfl rfl, up_eq rfl]⟩, fun b hb1 hb2 => ?_, fun r hr1 hr2 => ?_⟩
  · obtain ⟨b0, b1, b2, b3, b4, b5, b6⟩ := h2 b hb1 hb2
    exact ⟨by rw [mup_n (by omega), up_ne (by omega)]; exact b0, by rw [mup_n (by omega), up_ne (by omega)]; exact b1, by rw [mup_n (by omega), up_ne (by omega)]; exact b2, by rw [mup_n (by omega), up_ne (by omega)]; exact b3, by rw [mup_n (by omega), up_ne (by omega)]; exact b4, by rw [mup_n (by omega), up_ne (by omega)]; exact b5, by rw [mup_n (by omega), up_ne (by omega)]; exact b6⟩
  · rw [mup_n (by omega), up_ne (by omega)]
    exact h3 r hr1 hr2
theorem NR.u_straw {s : Mem} {n : Nat} {w : Int → Int} (h : NR s n w) {x : Int} (hx : 0 ≤ x ∧ x < 10) (v : Int) : NR (mup s (n + 1) x v) n (up w (65 + x) v) := by
  obtain ⟨⟨a0, a1, a2, a3, a4, a5, a6, a7, a8⟩, h2, h3⟩ := h
  refine ⟨⟨by rw [mup_n (by omega), up_ne (by omega)]; exact a0, by rw [mup_n (by omega), up_ne (by omega)]; exact a1, by rw [mup_n (by omega), up_ne (by omega)]; exact a2, by rw [mup_n (by omega), up_ne (by omega)]; exact a3, by rw [mup_n (by omega), up_ne (by omega)]; exact a4, by rw [mup_n (by omega), up_ne (by omega)]; exact a5, by rw [mup_n (by omega), up_ne (by omega)]; exact a6, by rw [mup_n (by omega), up_ne (by omega)]; exact a7, by rw [mup_n (by omega), up_ne (by omega)]; exact a8⟩, fun b hb1 hb2 => ?_, fun r hr1 hr2 => ?_⟩
  · obtain ⟨b0, b1, b2, b3, b4, b5, b6⟩ := h2 b hb1 hb2
    by_cases e : b = x
    · subst e
      exact ⟨by rw [mup_e rfl rfl, up_eq rfl], by rw [mup_n (by omega), up_ne (by omega)]; exact b1, by rw [mup_n (by omega), up_ne (by omega)]; exact b2, by rw [mup_n (by omega), up_ne (by omega)]; exact b3, by rw [mup_n (by omega), up_ne (by omega)]; exact b4, by rw [mup_n (by omega), up_ne (by omega)]; exact b5, by rw [mup_n (by omega), up_ne (by omega)]; exact b6⟩
    · exact ⟨by rw [mup_n (by omega), up_ne (by omega)]; exact b0, by rw [mup_n (by omega), up_ne (by omega)]; exact b1, by rw [mup_n (by omega), up_ne (by omega)]; exact b2, by rw [mup_n (by omega), up_ne (by omega)]; exact b3, by rw [mup_n (by omega), up_ne (by omega)]; exact b4, by rw [mup_n (by omega), up_ne (by omega)]; exact b5, by rw [mup_n (by omega), up_ne (by omega)]; exact b6⟩
  · rw [mup_n (by omega), up_ne (by omega)]
    exact h3 r hr1 hr2
theorem NR.u_kind {s : Mem} {n : Nat} {w : Int → Int} (h : NR s n w) {x : Int} (hx : 0 ≤ x ∧ x < 10) (v : Int) : NR (mup s (n + 2) x v) n (up w (75 + x) v) := by
  obtain ⟨⟨a0, a1, a2, a3, a4, a5, a6, a7, a8⟩, h2, h3⟩ := h
  refine ⟨⟨by rw [mup_n (by omega), up_ne (by omega)]; exact a0, by rw [mup_n (by omega), up_ne (by omega)]; exact a1, by rw [mup_n (by omega), up_ne (by omega)]; exact a2, by rw [mup_n (by omega), up_ne (by omega)]; exact a3, by rw [mup_n (by omega), up_ne (by omega)]; exact a4, by rw [mup_n (by omega), up_ne (by omega)]; exact a5, by rw [mup_n (by omega), up_ne (by omega)]; exact a6, by rw [mup_n (by omega), up_ne (by omega)]; exact a7, by rw [mup_n (by omega), up_ne (by omega)]; exact a8⟩, fun b hb1 hb2 => ?_, fun r hr1 hr2 => ?_⟩
  · obtain ⟨b0, b1, b2, b3, b4, b5, b6⟩ := h2 b hb1 hb2
    by_cases e : b = x
    · subst e
      exact ⟨by rw [mup_n (by omega), up_ne (by omega)]; exact b0, by rw [mup_e rfl rfl, up_eq rfl], by rw [mup_n (by omega), up_ne (by omega)]; exact b2, by rw [mup_n (by omega), up_ne (by omega)]; exact b3, by rw [mup_n (by omega), up_ne (by omega)]; exact b4, by rw [mup_n (by omega), up_ne (by omega)]; exact b5, by rw [mup_n (by omega), up_ne (by omega)]; exact b6⟩
    · exact ⟨by rw [mup_n (by omega), up_ne (by omega)]; exact b0, by rw [mup_n (by omega), up_ne (by omega)]; exact b1, by rw [mup_n (by omega), up_ne (by omega)]; exact b2, by rw [mup_n (by omega), up_ne (by omega)]; exact b3, by rw [mup_n (by omega), up_ne (by omega)]; exact b4, by rw [mup_n (by omega), up_ne (by omega)]; exact b5, by rw [mup_n (by omega), up_ne (by omega)]; exact b6⟩
  · rw [mup_n (by omega), up_ne (by omega)]
    exact h3 r hr1 hr2
theorem NR.u_reach {s : Mem} {n : Nat} {w : Int → Int} (h : NR s n w) {x : Int} (hx : 0 ≤ x ∧ x < 10) (v : Int) : NR (mup s (n + 3) x v) n (up w (7 + x) v) := by
  obtain ⟨⟨a0, a1, a2, a3, a4, a5, a6, a7, a8⟩, h2, h3⟩ := h
  refine ⟨⟨by rw [mup_n (by omega), up_ne (by omega)]; exact a0, by rw [mup_n (by omega), up_ne (by omega)]; exact a1, by rw [mup_n (by omega), up_ne (by omega)]; exact a2, by rw [mup_n (by omega), up_ne (by omega)]; exact a3, by rw [mup_n (by omega), up_ne (by omega)]; exact a4, by rw [mup_n (by omega), up_ne (by omega)]; exact a5, by rw [mup_n (by omega), up_ne (by omega)]; exact a6, by rw [mup_n (by omega), up_ne (by omega)]; exact a7, by rw [mup_n (by omega), up_ne (by omega)]; exact a8⟩, fun b hb1 hb2 => ?_, fun r hr1 hr2 => ?_⟩
  · obtain ⟨b0, b1, b2, b3, b4, b5, b6⟩ := h2 b hb1 hb2
    by_cases e : b = x
    · subst e
      exact ⟨by rw [mup_n (by omega), up_ne (by omega)]; exact b0, by rw [mup_n (by omega), up_ne (by omega)]; exact b1, by rw [mup_e rfl rfl, up_eq rfl], by rw [mup_n (by omega), up_ne (by omega)]; exact b3, by rw [mup_n (by omega), up_ne (by omega)]; exact b4, by rw [mup_n (by omega), up_ne (by omega)]; exact b5, by rw [mup_n (by omega), up_ne (by omega)]; exact b6⟩
    · exact ⟨by rw [mup_n (by omega), up_ne (by omega)]; exact b0, by rw [mup_n (by omega), up_ne (by omega)]; exact b1, by rw [mup_n (by omega), up_ne (by omega)]; exact b2, by rw [mup_n (by omega), up_ne (by omega)]; exact b3, by rw [mup_n (by omega), up_ne (by omega)]; exact b4, by rw [mup_n (by omega), up_ne (by omega)]; exact b5, by rw [mup_n (by omega), up_ne (by omega)]; exact b6⟩
  · rw [mup_n (by omega), up_ne (by omega)]
    exact h3 r hr1 hr2
theorem NR.u_left {s : Mem} {n : Nat} {w : Int → Int} (h : NR s n w) {x : Int} (hx : 0 ≤ x ∧ x < 10) (v : Int) : NR (mup s (n + 4) x v) n (up w (17 + x) v) := by
  obtain ⟨⟨a0, a1, a2, a3, a4, a5, a6, a7, a8⟩, h2, h3⟩ := h
  refine ⟨⟨by rw [mup_n (by omega), up_ne (by omega)]; exact a0, by rw [mup_n (by omega), up_ne (by omega)]; exact a1, by rw [mup_n (by omega), up_ne (by omega)]; exact a2, by rw [mup_n (by omega), up_ne (by omega)]; exact a3, by rw [mup_n (by omega), up_ne (by omega)]; exact a4, by rw [mup_n (by omega), up_ne (by omega)]; exact a5, by rw [mup_n (by omega), up_ne (by omega)]; exact a6, by rw [mup_n (by omega), up_ne (by omega)]; exact a7, by rw [mup_n (by omega), up_ne (by omega)]; exact a8⟩, fun b hb1 hb2 => ?_, fun r hr1 hr2 => ?_⟩
  · obtain ⟨b0, b1, b2, b3, b4, b5, b6⟩ := h2 b hb1 hb2
    by_cases e : b = x
    · subst e
      exact ⟨by rw [mup_n (by omega), up_ne (by omega)]; exact b0, by rw [mup_n (by omega), up_ne (by omega)]; exact b1, by rw [mup_n (by omega), up_ne (by omega)]; exact b2, by rw [mup_e rfl rfl, up_eq rfl], by rw [mup_n (by omega), up_ne (by omega)]; exact b4, by rw [mup_n (by omega), up_ne (by omega)]; exact b5, by rw [mup_n (by omega), up_ne (by omega)]; exact b6⟩
    · exact ⟨by rw [mup_n (by omega), up_ne (by omega)]; exact b0, by rw [mup_n (by omega), up_ne (by omega)]; exact b1, by rw [mup_n (by omega), up_ne (by omega)]; exact b2, by rw [mup_n (by omega), up_ne (by omega)]; exact b3, by rw [mup_n (by omega), up_ne (by omega)]; exact b4, by rw [mup_n (by omega), up_ne (by omega)]; exact b5, by rw [mup_n (by omega), up_ne (by omega)]; exact b6⟩
  · rw [mup_n (by omega), up_ne (by omega)]
    exact h3 r hr1 hr2
theorem NR.u_right {s : Mem} {n : Nat} {w : Int → Int} (h : NR s n w) {x : Int} (hx : 0 ≤ x ∧ x < 10) (v : Int) : NR (mup s (n + 5) x v) n (up w (27 + x) v) := by
  obtain ⟨⟨a0, a1, a2, a3, a4, a5, a6, a7, a8⟩, h2, h3⟩ := h
  refine ⟨⟨by rw [mup_n (by omega), up_ne (by omega)]; exact a0, by rw [mup_n (by omega), up_ne (by omega)]; exact a1, by rw [mup_n (by omega), up_ne (by omega)]; exact a2, by rw [mup_n (by omega), up_ne (by omega)]; exact a3, by rw [mup_n (by omega), up_ne (by omega)]; exact a4, by rw [mup_n (by omega), up_ne (by omega)]; exact a5, by rw [mup_n (by omega), up_ne (by omega)]; exact a6, by rw [mup_n (by omega), up_ne (by omega)]; exact a7, by rw [mup_n (by omega), up_ne (by omega)]; exact a8⟩, fun b hb1 hb2 => ?_, fun r hr1 hr2 => ?_⟩
  · obtain ⟨b0, b1, b2, b3, b4, b5, b6⟩ := h2 b hb1 hb2
    by_cases e : b = x
    · subst e
      exact ⟨by rw [mup_n (by omega), up_ne (by omega)]; exact b0, by rw [mup_n (by omega), up_ne (by omega)]; exact b1, by rw [mup_n (by omega), up_ne (by omega)]; exact b2, by rw [mup_n (by omega), up_ne (by omega)]; exact b3, by rw [mup_e rfl rfl, up_eq rfl], by rw [mup_n (by omega), up_ne (by omega)]; exact b5, by rw [mup_n (by omega), up_ne (by omega)]; exact b6⟩
    · exact ⟨by rw [mup_n (by omega), up_ne (by omega)]; exact b0, by rw [mup_n (by omega), up_ne (by omega)]; exact b1, by rw [mup_n (by omega), up_ne (by omega)]; exact b2, by rw [mup_n (by omega), up_ne (by omega)]; exact b3, by rw [mup_n (by omega), up_ne (by omega)]; exact b4, by rw [mup_n (by omega), up_ne (by omega)]; exact b5, by rw [mup_n (by omega), up_ne (by omega)]; exact b6⟩
  · rw [mup_n (by omega), up_ne (by omega)]
    exact h3 r hr1 hr2
theorem NR.u_turned {s : Mem} {n : Nat} {w : Int → Int} (h : NR s n w) {x : Int} (hx : 0 ≤ x ∧ x < 10) (v : Int) : NR (mup s (n + 6) x v) n (up w (37 + x) v) := by
  obtain ⟨⟨a0, a1, a2, a3, a4, a5, a6, a7, a8⟩, h2, h3⟩ := h
  refine ⟨⟨by rw [mup_n (by omega), up_ne (by omega)]; exact a0, by rw [mup_n (by omega), up_ne (by omega)]; exact a1, by rw [mup_n (by omega), up_ne (by omega)]; exact a2, by rw [mup_n (by omega), up_ne (by omega)]; exact a3, by rw [mup_n (by omega), up_ne (by omega)]; exact a4, by rw [mup_n (by omega), up_ne (by omega)]; exact a5, by rw [mup_n (by omega), up_ne (by omega)]; exact a6, by rw [mup_n (by omega), up_ne (by omega)]; exact a7, by rw [mup_n (by omega), up_ne (by omega)]; exact a8⟩, fun b hb1 hb2 => ?_, fun r hr1 hr2 => ?_⟩
  · obtain ⟨b0, b1, b2, b3, b4, b5, b6⟩ := h2 b hb1 hb2
    by_cases e : b = x
    · subst e
      exact ⟨by rw [mup_n (by omega), up_ne (by omega)]; exact b0, by rw [mup_n (by omega), up_ne (by omega)]; exact b1, by rw [mup_n (by omega), up_ne (by omega)]; exact b2, by rw [mup_n (by omega), up_ne (by omega)]; exact b3, by rw [mup_n (by omega), up_ne (by omega)]; exact b4, by rw [mup_e rfl rfl, up_eq rfl], by rw [mup_n (by omega), up_ne (by omega)]; exact b6⟩
    · exact ⟨by rw [mup_n (by omega), up_ne (by omega)]; exact b0, by rw [mup_n (by omega), up_ne (by omega)]; exact b1, by rw [mup_n (by omega), up_ne (by omega)]; exact b2, by rw [mup_n (by omega), up_ne (by omega)]; exact b3, by rw [mup_n (by omega), up_ne (by omega)]; exact b4, by rw [mup_n (by omega), up_ne (by omega)]; exact b5, by rw [mup_n (by omega), up_ne (by omega)]; exact b6⟩
  · rw [mup_n (by omega), up_ne (by omega)]
    exact h3 r hr1 hr2
theorem NR.u_lost {s : Mem} {n : Nat} {w : Int → Int} (h : NR s n w) {x : Int} (hx : 0 ≤ x ∧ x < 10) (v : Int) : NR (mup s (n + 7) x v) n (up w (47 + x) v) := by
  obtain ⟨⟨a0, a1, a2, a3, a4, a5, a6, a7, a8⟩, h2, h3⟩ := h
  refine ⟨⟨by rw [mup_n (by omega), up_ne (by omega)]; exact a0, by rw [mup_n (by omega), up_ne (by omega)]; exact a1, by rw [mup_n (by omega), up_ne (by omega)]; exact a2, by rw [mup_n (by omega), up_ne (by omega)]; exact a3, by rw [mup_n (by omega), up_ne (by omega)]; exact a4, by rw [mup_n (by omega), up_ne (by omega)]; exact a5, by rw [mup_n (by omega), up_ne (by omega)]; exact a6, by rw [mup_n (by omega), up_ne (by omega)]; exact a7, by rw [mup_n (by omega), up_ne (by omega)]; exact a8⟩, fun b hb1 hb2 => ?_, fun r hr1 hr2 => ?_⟩
  · obtain ⟨b0, b1, b2, b3, b4, b5, b6⟩ := h2 b hb1 hb2
    by_cases e : b = x
    · subst e
      exact ⟨by rw [mup_n (by omega), up_ne (by omega)]; exact b0, by rw [mup_n (by omega), up_ne (by omega)]; exact b1, by rw [mup_n (by omega), up_ne (by omega)]; exact b2, by rw [mup_n (by omega), up_ne (by omega)]; exact b3, by rw [mup_n (by omega), up_ne (by omega)]; exact b4, by rw [mup_n (by omega), up_ne (by omega)]; exact b5, by rw [mup_e rfl rfl, up_eq rfl]⟩
    · exact ⟨by rw [mup_n (by omega), up_ne (by omega)]; exact b0, by rw [mup_n (by omega), up_ne (by omega)]; exact b1, by rw [mup_n (by omega), up_ne (by omega)]; exact b2, by rw [mup_n (by omega), up_ne (by omega)]; exact b3, by rw [mup_n (by omega), up_ne (by omega)]; exact b4, by rw [mup_n (by omega), up_ne (by omega)]; exact b5, by rw [mup_n (by omega), up_ne (by omega)]; exact b6⟩
  · rw [mup_n (by omega), up_ne (by omega)]
    exact h3 r hr1 hr2
theorem NR.u_archers {s : Mem} {n : Nat} {w : Int → Int} (h : NR s n w) {x : Int} (hx : 0 ≤ x ∧ x < 16) (v : Int) : NR (mup s (n + 8) x v) n (up w (85 + x) v) := by
  obtain ⟨⟨a0, a1, a2, a3, a4, a5, a6, a7, a8⟩, h2, h3⟩ := h
  refine ⟨⟨by rw [mup_n (by omega), up_ne (by omega)]; exact a0, by rw [mup_n (by omega), up_ne (by omega)]; exact a1, by rw [mup_n (by omega), up_ne (by omega)]; exact a2, by rw [mup_n (by omega), up_ne (by omega)]; exact a3, by rw [mup_n (by omega), up_ne (by omega)]; exact a4, by rw [mup_n (by omega), up_ne (by omega)]; exact a5, by rw [mup_n (by omega), up_ne (by omega)]; exact a6, by rw [mup_n (by omega), up_ne (by omega)]; exact a7, by rw [mup_n (by omega), up_ne (by omega)]; exact a8⟩, fun b hb1 hb2 => ?_, fun r hr1 hr2 => ?_⟩
  · obtain ⟨b0, b1, b2, b3, b4, b5, b6⟩ := h2 b hb1 hb2
    exact ⟨by rw [mup_n (by omega), up_ne (by omega)]; exact b0, by rw [mup_n (by omega), up_ne (by omega)]; exact b1, by rw [mup_n (by omega), up_ne (by omega)]; exact b2, by rw [mup_n (by omega), up_ne (by omega)]; exact b3, by rw [mup_n (by omega), up_ne (by omega)]; exact b4, by rw [mup_n (by omega), up_ne (by omega)]; exact b5, by rw [mup_n (by omega), up_ne (by omega)]; exact b6⟩
  · by_cases e : r = x
    · subst e
      rw [mup_e rfl rfl, up_eq rfl]
    · rw [mup_n (Or.inr e), up_ne (by omega)]
      exact h3 r hr1 hr2
theorem WN.u_boats {w : Int → Int} (h : WN w) {v : Int} (hv : 0 ≤ v ∧ v ≤ 10) : WN (up w 58 v) := by
  obtain ⟨⟨a0, a1, a2, a3, a4, a5, a6, a7, a8⟩, h2, h3⟩ := h
  refine ⟨⟨by rw [up_eq rfl]; exact hv, by rw [up_ne (by omega)]; exact a1, by rw [up_ne (by omega)]; exact a2, by rw [up_ne (by omega)]; exact a3, by rw [up_ne (by omega)]; exact a4, by rw [up_ne (by omega)]; exact a5, by rw [up_ne (by omega)]; exact a6, by rw [up_ne (by omega)]; exact a7, by rw [up_ne (by omega)]; exact a8⟩, fun b hb1 hb2 => ?_, fun r hr1 hr2 => ?_⟩
  · obtain ⟨b0, b1, b2, b3, b4, b5, b6⟩ := h2 b hb1 hb2
    exact ⟨by rw [up_ne (by omega)]; exact b0, by rw [up_ne (by omega)]; exact b1, by rw [up_ne (by omega)]; exact b2, by rw [up_ne (by omega)]; exact b3, by rw [up_ne (by omega)]; exact b4, by rw [up_ne (by omega)]; exact b5, by rw [up_ne (by omega)]; exact b6⟩
  · rw [up_ne (by omega)]
    exact h3 r hr1 hr2
theorem WN.u_draws {w : Int → Int} (h : WN w) {v : Int} (hv : InR v) : WN (up w 5 v) := by
  obtain ⟨⟨a0, a1, a2, a3, a4, a5, a6, a7, a8⟩, h2, h3⟩ := h
  refine ⟨⟨by rw [up_ne (by omega)]; exact a0, by rw [up_eq rfl]; exact hv, by rw [up_ne (by omega)]; exact a2, by rw [up_ne (by omega)]; exact a3, by rw [up_ne (by omega)]; exact a4, by rw [up_ne (by omega)]; exact a5, by rw [up_ne (by omega)]; exact a6, by rw [up_ne (by omega)]; exact a7, by rw [up_ne (by omega)]; exact a8⟩, fun b hb1 hb2 => ?_, fun r hr1 hr2 => ?_⟩
  · obtain ⟨b0, b1, b2, b3, b4, b5, b6⟩ := h2 b hb1 hb2
    exact ⟨by rw [up_ne (by omega)]; exact b0, by rw [up_ne (by omega)]; exact b1, by rw [up_ne (by omega)]; exact b2, by rw [up_ne (by omega)]; exact b3, by rw [up_ne (by omega)]; exact b4, by rw [up_ne (by omega)]; exact b5, by rw [up_ne (by omega)]; exact b6⟩
  · rw [up_ne (by omega)]
    exact h3 r hr1 hr2
theorem WN.u_alarm {w : Int → Int} (h : WN w) {v : Int} (hv : 0 ≤ v ∧ v ≤ 99) : WN (up w 3 v) := by
  obtain ⟨⟨a0, a1, a2, a3, a4, a5, a6, a7, a8⟩, h2, h3⟩ := h
  refine ⟨⟨by rw [up_ne (by omega)]; exact a0, by rw [up_ne (by omega)]; exact a1, by rw [up_eq rfl]; exact hv, by rw [up_ne (by omega)]; exact a3, by rw [up_ne (by omega)]; exact a4, by rw [up_ne (by omega)]; exact a5, by rw [up_ne (by omega)]; exact a6, by rw [up_ne (by omega)]; exact a7, by rw [up_ne (by omega)]; exact a8⟩, fun b hb1 hb2 => ?_, fun r hr1 hr2 => ?_⟩
  · obtain ⟨b0, b1, b2, b3, b4, b5, b6⟩ := h2 b hb1 hb2
    exact ⟨by rw [up_ne (by omega)]; exact b0, by rw [up_ne (by omega)]; exact b1, by rw [up_ne (by omega)]; exact b2, by rw [up_ne (by omega)]; exact b3, by rw [up_ne (by omega)]; exact b4, by rw [up_ne (by omega)]; exact b5, by rw [up_ne (by omega)]; exact b6⟩
  · rw [up_ne (by omega)]
    exact h3 r hr1 hr2
theorem WN.u_fog {w : Int → Int} (h : WN w) {v : Int} (hv : 0 ≤ v ∧ v ≤ 9) : WN (up w 1 v) := by
  obtain ⟨⟨a0, a1, a2, a3, a4, a5, a6, a7, a8⟩, h2, h3⟩ := h
  refine ⟨⟨by rw [up_ne (by omega)]; exact a0, by rw [up_ne (by omega)]; exact a1, by rw [up_ne (by omega)]; exact a2, by rw [up_eq rfl]; exact hv, by rw [up_ne (by omega)]; exact a4, by rw [up_ne (by omega)]; exact a5, by rw [up_ne (by omega)]; exact a6, by rw [up_ne (by omega)]; exact a7, by rw [up_ne (by omega)]; exact a8⟩, fun b hb1 hb2 => ?_, fun r hr1 hr2 => ?_⟩
  · obtain ⟨b0, b1, b2, b3, b4, b5, b6⟩ := h2 b hb1 hb2
    exact ⟨by rw [up_ne (by omega)]; exact b0, by rw [up_ne (by omega)]; exact b1, by rw [up_ne (by omega)]; exact b2, by rw [up_ne (by omega)]; exact b3, by rw [up_ne (by omega)]; exact b4, by rw [up_ne (by omega)]; exact b5, by rw [up_ne (by omega)]; exact b6⟩
  · rw [up_ne (by omega)]
    exact h3 r hr1 hr2
theorem WN.u_drums {w : Int → Int} (h : WN w) {v : Int} (hv : 0 ≤ v ∧ v ≤ 9) : WN (up w 2 v) := by
  obtain ⟨⟨a0, a1, a2, a3, a4, a5, a6, a7, a8⟩, h2, h3⟩ := h
  refine ⟨⟨by rw [up_ne (by omega)]; exact a0, by rw [up_ne (by omega)]; exact a1, by rw [up_ne (by omega)]; exact a2, by rw [up_ne (by omega)]; exact a3, by rw [up_eq rfl]; exact hv, by rw [up_ne (by omega)]; exact a5, by rw [up_ne (by omega)]; exact a6, by rw [up_ne (by omega)]; exact a7, by rw [up_ne (by omega)]; exact a8⟩, fun b hb1 hb2 => ?_, fun r hr1 hr2 => ?_⟩
  · obtain ⟨b0, b1, b2, b3, b4, b5, b6⟩ := h2 b hb1 hb2
    exact ⟨by rw [up_ne (by omega)]; exact b0, by rw [up_ne (by omega)]; exact b1, by rw [up_ne (by omega)]; exact b2, by rw [up_ne (by omega)]; exact b3, by rw [up_ne (by omega)]; exact b4, by rw [up_ne (by omega)]; exact b5, by rw [up_ne (by omega)]; exact b6⟩
  · rw [up_ne (by omega)]
    exact h3 r hr1 hr2
theorem WN.u_fire {w : Int → Int} (h : WN w) {v : Int} (hv : 0 ≤ v ∧ v ≤ 1000) : WN (up w 57 v) := by
  obtain ⟨⟨a0, a1, a2, a3, a4, a5, a6, a7, a8⟩, h2, h3⟩ := h
  refine ⟨⟨by rw [up_ne (by omega)]; exact a0, by rw [up_ne (by omega)]; exact a1, by rw [up_ne (by omega)]; exact a2, by rw [up_ne (by omega)]; exact a3, by rw [up_ne (by omega)]; exact a4, by rw [up_eq rfl]; exact hv, by rw [up_ne (by omega)]; exact a6, by rw [up_ne (by omega)]; exact a7, by rw [up_ne (by omega)]; exact a8⟩, fun b hb1 hb2 => ?_, fun r hr1 hr2 => ?_⟩
  · obtain ⟨b0, b1, b2, b3, b4, b5, b6⟩ := h2 b hb1 hb2
    exact ⟨by rw [up_ne (by omega)]; exact b0, by rw [up_ne (by omega)]; exact b1, by rw [up_ne (by omega)]; exact b2, by rw [up_ne (by omega)]; exact b3, by rw [up_ne (by omega)]; exact b4, by rw [up_ne (by omega)]; exact b5, by rw [up_ne (by omega)]; exact b6⟩
  · rw [up_ne (by omega)]
    exact h3 r hr1 hr2
theorem WN.u_hour {w : Int → Int} (h : WN w) {v : Int} (hv : 0 ≤ v ∧ v ≤ 20000) : WN (up w 0 v) := by
  obtain ⟨⟨a0, a1, a2, a3, a4, a5, a6, a7, a8⟩, h2, h3⟩ := h
  refine ⟨⟨by rw [up_ne (by omega)]; exact a0, by rw [up_ne (by omega)]; exact a1, by rw [up_ne (by omega)]; exact a2, by rw [up_ne (by omega)]; exact a3, by rw [up_ne (by omega)]; exact a4, by rw [up_ne (by omega)]; exact a5, by rw [up_eq rfl]; exact hv, by rw [up_ne (by omega)]; exact a7, by rw [up_ne (by omega)]; exact a8⟩, fun b hb1 hb2 => ?_, fun r hr1 hr2 => ?_⟩
  · obtain ⟨b0, b1, b2, b3, b4, b5, b6⟩ := h2 b hb1 hb2
    exact ⟨by rw [up_ne (by omega)]; exact b0, by rw [up_ne (by omega)]; exact b1, by rw [up_ne (by omega)]; exact b2, by rw [up_ne (by omega)]; exact b3, by rw [up_ne (by omega)]; exact b4, by rw [up_ne (by omega)]; exact b5, by rw [up_ne (by omega)]; exact b6⟩
  · rw [up_ne (by omega)]
    exact h3 r hr1 hr2
theorem WN.u_arrows {w : Int → Int} (h : WN w) {v : Int} (hv : InR v) : WN (up w 4 v) := by
  obtain ⟨⟨a0, a1, a2, a3, a4, a5, a6, a7, a8⟩, h2, h3⟩ := h
  refine ⟨⟨by rw [up_ne (by omega)]; exact a0, by rw [up_ne (by omega)]; exact a1, by rw [up_ne (by omega)]; exact a2, by rw [up_ne (by omega)]; exact a3, by rw [up_ne (by omega)]; exact a4, by rw [up_ne (by omega)]; exact a5, by rw [up_ne (by omega)]; exact a6, by rw [up_eq rfl]; exact hv, by rw [up_ne (by omega)]; exact a8⟩, fun b hb1 hb2 => ?_, fun r hr1 hr2 => ?_⟩
  · obtain ⟨b0, b1, b2, b3, b4, b5, b6⟩ := h2 b hb1 hb2
    exact ⟨by rw [up_ne (by omega)]; exact b0, by rw [up_ne (by omega)]; exact b1, by rw [up_ne (by omega)]; exact b2, by rw [up_ne (by omega)]; exact b3, by rw [up_ne (by omega)]; exact b4, by rw [up_ne (by omega)]; exact b5, by rw [up_ne (by omega)]; exact b6⟩
  · rw [up_ne (by omega)]
    exact h3 r hr1 hr2
theorem WN.u_written {w : Int → Int} (h : WN w) {v : Int} (hv : 0 ≤ v ∧ v ≤ 150) : WN (up w 6 v) := by
  obtain ⟨⟨a0, a1, a2, a3, a4, a5, a6, a7, a8⟩, h2, h3⟩ := h
  refine ⟨⟨by rw [up_ne (by omega)]; exact a0, by rw [up_ne (by omega)]; exact a1, by rw [up_ne (by omega)]; exact a2, by rw [up_ne (by omega)]; exact a3, by rw [up_ne (by omega)]; exact a4, by rw [up_ne (by omega)]; exact a5, by rw [up_ne (by omega)]; exact a6, by rw [up_ne (by omega)]; exact a7, by rw [up_eq rfl]; exact hv⟩, fun b hb1 hb2 => ?_, fun r hr1 hr2 => ?_⟩
  · obtain ⟨b0, b1, b2, b3, b4, b5, b6⟩ := h2 b hb1 hb2
    exact ⟨by rw [up_ne (by omega)]; exact b0, by rw [up_ne (by omega)]; exact b1, by rw [up_ne (by omega)]; exact b2, by rw [up_ne (by omega)]; exact b3, by rw [up_ne (by omega)]; exact b4, by rw [up_ne (by omega)]; exact b5, by rw [up_ne (by omega)]; exact b6⟩
  · rw [up_ne (by omega)]
    exact h3 r hr1 hr2
theorem WN.u_straw {w : Int → Int} (h : WN w) {x v : Int} (hx : 0 ≤ x ∧ x < 10) (hv : 0 ≤ v ∧ v ≤ 40) : WN (up w (65 + x) v) := by
  obtain ⟨⟨a0, a1, a2, a3, a4, a5, a6, a7, a8⟩, h2, h3⟩ := h
  refine ⟨⟨by rw [up_ne (by omega)]; exact a0, by rw [up_ne (by omega)]; exact a1, by rw [up_ne (by omega)]; exact a2, by rw [up_ne (by omega)]; exact a3, by rw [up_ne (by omega)]; exact a4, by rw [up_ne (by omega)]; exact a5, by rw [up_ne (by omega)]; exact a6, by rw [up_ne (by omega)]; exact a7, by rw [up_ne (by omega)]; exact a8⟩, fun b hb1 hb2 => ?_, fun r hr1 hr2 => ?_⟩
  · obtain ⟨b0, b1, b2, b3, b4, b5, b6⟩ := h2 b hb1 hb2
    by_cases e : b = x
    · subst e
      exact ⟨by rw [up_eq rfl]; exact hv, by rw [up_ne (by omega)]; exact b1, by rw [up_ne (by omega)]; exact b2, by rw [up_ne (by omega)]; exact b3, by rw [up_ne (by omega)]; exact b4, by rw [up_ne (by omega)]; exact b5, by rw [up_ne (by omega)]; exact b6⟩
    · exact ⟨by rw [up_ne (by omega)]; exact b0, by rw [up_ne (by omega)]; exact b1, by rw [up_ne (by omega)]; exact b2, by rw [up_ne (by omega)]; exact b3, by rw [up_ne (by omega)]; exact b4, by rw [up_ne (by omega)]; exact b5, by rw [up_ne (by omega)]; exact b6⟩
  · rw [up_ne (by omega)]
    exact h3 r hr1 hr2
theorem WN.u_kind {w : Int → Int} (h : WN w) {x v : Int} (hx : 0 ≤ x ∧ x < 10) (hv : 0 ≤ v ∧ v ≤ 2) : WN (up w (75 + x) v) := by
  obtain ⟨⟨a0, a1, a2, a3, a4, a5, a6, a7, a8⟩, h2, h3⟩ := h
  refine ⟨⟨by rw [up_ne (by omega)]; exact a0, by rw [up_ne (by omega)]; exact a1, by rw [up_ne (by omega)]; exact a2, by rw [up_ne (by omega)]; exact a3, by rw [up_ne (by omega)]; exact a4, by rw [up_ne (by omega)]; exact a5, by rw [up_ne (by omega)]; exact a6, by rw [up_ne (by omega)]; exact a7, by rw [up_ne (by omega)]; exact a8⟩, fun b hb1 hb2 => ?_, fun r hr1 hr2 => ?_⟩
  · obtain ⟨b0, b1, b2, b3, b4, b5, b6⟩ := h2 b hb1 hb2
    by_cases e : b = x
    · subst e
      exact ⟨by rw [up_ne (by omega)]; exact b0, by rw [up_eq rfl]; exact hv, by rw [up_ne (by omega)]; exact b2, by rw [up_ne (by omega)]; exact b3, by rw [up_ne (by omega)]; exact b4, by rw [up_ne (by omega)]; exact b5, by rw [up_ne (by omega)]; exact b6⟩
    · exact ⟨by rw [up_ne (by omega)]; exact b0, by rw [up_ne (by omega)]; exact b1, by rw [up_ne (by omega)]; exact b2, by rw [up_ne (by omega)]; exact b3, by rw [up_ne (by omega)]; exact b4, by rw [up_ne (by omega)]; exact b5, by rw [up_ne (by omega)]; exact b6⟩
  · rw [up_ne (by omega)]
    exact h3 r hr1 hr2
theorem WN.u_reach {w : Int → Int} (h : WN w) {x v : Int} (hx : 0 ≤ x ∧ x < 10) (hv : 0 ≤ v ∧ v ≤ 15) : WN (up w (7 + x) v) := by
  obtain ⟨⟨a0, a1, a2, a3, a4, a5, a6, a7, a8⟩, h2, h3⟩ := h
  refine ⟨⟨by rw [up_ne (by omega)]; exact a0, by rw [up_ne (by omega)]; exact a1, by rw [up_ne (by omega)]; exact a2, by rw [up_ne (by omega)]; exact a3, by rw [up_ne (by omega)]; exact a4, by rw [up_ne (by omega)]; exact a5, by rw [up_ne (by omega)]; exact a6, by rw [up_ne (by omega)]; exact a7, by rw [up_ne (by omega)]; exact a8⟩, fun b hb1 hb2 => ?_, fun r hr1 hr2 => ?_⟩
  · obtain ⟨b0, b1, b2, b3, b4, b5, b6⟩ := h2 b hb1 hb2
    by_cases e : b = x
    · subst e
      exact ⟨by rw [up_ne (by omega)]; exact b0, by rw [up_ne (by omega)]; exact b1, by rw [up_eq rfl]; exact hv, by rw [up_ne (by omega)]; exact b3, by rw [up_ne (by omega)]; exact b4, by rw [up_ne (by omega)]; exact b5, by rw [up_ne (by omega)]; exact b6⟩
    · exact ⟨by rw [up_ne (by omega)]; exact b0, by rw [up_ne (by omega)]; exact b1, by rw [up_ne (by omega)]; exact b2, by rw [up_ne (by omega)]; exact b3, by rw [up_ne (by omega)]; exact b4, by rw [up_ne (by omega)]; exact b5, by rw [up_ne (by omega)]; exact b6⟩
  · rw [up_ne (by omega)]
    exact h3 r hr1 hr2
theorem WN.u_left {w : Int → Int} (h : WN w) {x v : Int} (hx : 0 ≤ x ∧ x < 10) (hv : 0 ≤ v ∧ v ≤ 999) : WN (up w (17 + x) v) := by
  obtain ⟨⟨a0, a1, a2, a3, a4, a5, a6, a7, a8⟩, h2, h3⟩ := h
  refine ⟨⟨by rw [up_ne (by omega)]; exact a0, by rw [up_ne (by omega)]; exact a1, by rw [up_ne (by omega)]; exact a2, by rw [up_ne (by omega)]; exact a3, by rw [up_ne (by omega)]; exact a4, by rw [up_ne (by omega)]; exact a5, by rw [up_ne (by omega)]; exact a6, by rw [up_ne (by omega)]; exact a7, by rw [up_ne (by omega)]; exact a8⟩, fun b hb1 hb2 => ?_, fun r hr1 hr2 => ?_⟩
  · obtain ⟨b0, b1, b2, b3, b4, b5, b6⟩ := h2 b hb1 hb2
    by_cases e : b = x
    · subst e
      exact ⟨by rw [up_ne (by omega)]; exact b0, by rw [up_ne (by omega)]; exact b1, by rw [up_ne (by omega)]; exact b2, by rw [up_eq rfl]; exact hv, by rw [up_ne (by omega)]; exact b4, by rw [up_ne (by omega)]; exact b5, by rw [up_ne (by omega)]; exact b6⟩
    · exact ⟨by rw [up_ne (by omega)]; exact b0, by rw [up_ne (by omega)]; exact b1, by rw [up_ne (by omega)]; exact b2, by rw [up_ne (by omega)]; exact b3, by rw [up_ne (by omega)]; exact b4, by rw [up_ne (by omega)]; exact b5, by rw [up_ne (by omega)]; exact b6⟩
  · rw [up_ne (by omega)]
    exact h3 r hr1 hr2
theorem WN.u_right {w : Int → Int} (h : WN w) {x v : Int} (hx : 0 ≤ x ∧ x < 10) (hv : 0 ≤ v ∧ v ≤ 999) : WN (up w (27 + x) v) := by
  obtain ⟨⟨a0, a1, a2, a3, a4, a5, a6, a7, a8⟩, h2, h3⟩ := h
  refine ⟨⟨by rw [up_ne (by omega)]; exact a0, by rw [up_ne (by omega)]; exact a1, by rw [up_ne (by omega)]; exact a2, by rw [up_ne (by omega)]; exact a3, by rw [up_ne (by omega)]; exact a4, by rw [up_ne (by omega)]; exact a5, by rw [up_ne (by omega)]; exact a6, by rw [up_ne (by omega)]; exact a7, by rw [up_ne (by omega)]; exact a8⟩, fun b hb1 hb2 => ?_, fun r hr1 hr2 => ?_⟩
  · obtain ⟨b0, b1, b2, b3, b4, b5, b6⟩ := h2 b hb1 hb2
    by_cases e : b = x
    · subst e
      exact ⟨by rw [up_ne (by omega)]; exact b0, by rw [up_ne (by omega)]; exact b1, by rw [up_ne (by omega)]; exact b2, by rw [up_ne (by omega)]; exact b3, by rw [up_eq rfl]; exact hv, by rw [up_ne (by omega)]; exact b5, by rw [up_ne (by omega)]; exact b6⟩
    · exact ⟨by rw [up_ne (by omega)]; exact b0, by rw [up_ne (by omega)]; exact b1, by rw [up_ne (by omega)]; exact b2, by rw [up_ne (by omega)]; exact b3, by rw [up_ne (by omega)]; exact b4, by rw [up_ne (by omega)]; exact b5, by rw [up_ne (by omega)]; exact b6⟩
  · rw [up_ne (by omega)]
    exact h3 r hr1 hr2
theorem WN.u_turned {w : Int → Int} (h : WN w) {x v : Int} (hx : 0 ≤ x ∧ x < 10) (hv : 0 ≤ v ∧ v ≤ 1) : WN (up w (37 + x) v) := by
  obtain ⟨⟨a0, a1, a2, a3, a4, a5, a6, a7, a8⟩, h2, h3⟩ := h
  refine ⟨⟨by rw [up_ne (by omega)]; exact a0, by rw [up_ne (by omega)]; exact a1, by rw [up_ne (by omega)]; exact a2, by rw [up_ne (by omega)]; exact a3, by rw [up_ne (by omega)]; exact a4, by rw [up_ne (by omega)]; exact a5, by rw [up_ne (by omega)]; exact a6, by rw [up_ne (by omega)]; exact a7, by rw [up_ne (by omega)]; exact a8⟩, fun b hb1 hb2 => ?_, fun r hr1 hr2 => ?_⟩
  · obtain ⟨b0, b1, b2, b3, b4, b5, b6⟩ := h2 b hb1 hb2
    by_cases e : b = x
    · subst e
      exact ⟨by rw [up_ne (by omega)]; exact b0, by rw [up_ne (by omega)]; exact b1, by rw [up_ne (by omega)]; exact b2, by rw [up_ne (by omega)]; exact b3, by rw [up_ne (by omega)]; exact b4, by rw [up_eq rfl]; exact hv, by rw [up_ne (by omega)]; exact b6⟩
    · exact ⟨by rw [up_ne (by omega)]; exact b0, by rw [up_ne (by omega)]; exact b1, by rw [up_ne (by omega)]; exact b2, by rw [up_ne (by omega)]; exact b3, by rw [up_ne (by omega)]; exact b4, by rw [up_ne (by omega)]; exact b5, by rw [up_ne (by omega)]; exact b6⟩
  · rw [up_ne (by omega)]
    exact h3 r hr1 hr2
theorem WN.u_lost {w : Int → Int} (h : WN w) {x v : Int} (hx : 0 ≤ x ∧ x < 10) (hv : 0 ≤ v ∧ v ≤ 2) : WN (up w (47 + x) v) := by
  obtain ⟨⟨a0, a1, a2, a3, a4, a5, a6, a7, a8⟩, h2, h3⟩ := h
  refine ⟨⟨by rw [up_ne (by omega)]; exact a0, by rw [up_ne (by omega)]; exact a1, by rw [up_ne (by omega)]; exact a2, by rw [up_ne (by omega)]; exact a3, by rw [up_ne (by omega)]; exact a4, by rw [up_ne (by omega)]; exact a5, by rw [up_ne (by omega)]; exact a6, by rw [up_ne (by omega)]; exact a7, by rw [up_ne (by omega)]; exact a8⟩, fun b hb1 hb2 => ?_, fun r hr1 hr2 => ?_⟩
  · obtain ⟨b0, b1, b2, b3, b4, b5, b6⟩ := h2 b hb1 hb2
    by_cases e : b = x
    · subst e
      exact ⟨by rw [up_ne (by omega)]; exact b0, by rw [up_ne (by omega)]; exact b1, by rw [up_ne (by omega)]; exact b2, by rw [up_ne (by omega)]; exact b3, by rw [up_ne (by omega)]; exact b4, by rw [up_ne (by omega)]; exact b5, by rw [up_eq rfl]; exact hv⟩
    · exact ⟨by rw [up_ne (by omega)]; exact b0, by rw [up_ne (by omega)]; exact b1, by rw [up_ne (by omega)]; exact b2, by rw [up_ne (by omega)]; exact b3, by rw [up_ne (by omega)]; exact b4, by rw [up_ne (by omega)]; exact b5, by rw [up_ne (by omega)]; exact b6⟩
  · rw [up_ne (by omega)]
    exact h3 r hr1 hr2
theorem WN.u_archers {w : Int → Int} (h : WN w) {x v : Int} (hx : 0 ≤ x ∧ x < 16) (hv : 0 ≤ v ∧ v ≤ 99) : WN (up w (85 + x) v) := by
  obtain ⟨⟨a0, a1, a2, a3, a4, a5, a6, a7, a8⟩, h2, h3⟩ := h
  refine ⟨⟨by rw [up_ne (by omega)]; exact a0, by rw [up_ne (by omega)]; exact a1, by rw [up_ne (by omega)]; exact a2, by rw [up_ne (by omega)]; exact a3, by rw [up_ne (by omega)]; exact a4, by rw [up_ne (by omega)]; exact a5, by rw [up_ne (by omega)]; exact a6, by rw [up_ne (by omega)]; exact a7, by rw [up_ne (by omega)]; exact a8⟩, fun b hb1 hb2 => ?_, fun r hr1 hr2 => ?_⟩
  · obtain ⟨b0, b1, b2, b3, b4, b5, b6⟩ := h2 b hb1 hb2
    exact ⟨by rw [up_ne (by omega)]; exact b0, by rw [up_ne (by omega)]; exact b1, by rw [up_ne (by omega)]; exact b2, by rw [up_ne (by omega)]; exact b3, by rw [up_ne (by omega)]; exact b4, by rw [up_ne (by omega)]; exact b5, by rw [up_ne (by omega)]; exact b6⟩
  · by_cases e : r = x
    · subst e
      rw [up_eq rfl]
      exact hv
    · rw [up_ne (by omega)]
      exact h3 r hr1 hr2

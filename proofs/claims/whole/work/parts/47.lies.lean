/-! ===== L3: lies ===== -/
def gPl (r b : Int) (w : Int → Int) : Int → Int := if afl w b then up w (7 + b) r else w
def sPl (w0 : Int → Int) (r : Int) : Int → Int := fo (gPl r) (w0 58).toNat 0 w0
def sLi (w0 : Int → Int) (lw : List Lin) (n r : Int) : Int → Int := sItr lw n.toNat (sPl w0 r)
def gLi (w0 : Int → Int) (lw : List Lin) (n r : Int) (p : Int × Int × Int) : Int × Int × Int := if r = 0 ∨ sMany (sLi w0 lw n r) < p.2.1 ∨ (sMany (sLi w0 lw n r) = p.2.1 ∧ p.2.2 < sHad (sLi w0 lw n r)) then (r, sMany (sLi w0 lw n r), sHad (sLi w0 lw n r)) else p
theorem sMany_in {w : Int → Int} (hw : WN w) : 0 ≤ sMany w ∧ sMany w ≤ 10 := by
  have h58 := hw.boats
  have h := fo_in (g := sManyG w) (fun i x => 0 ≤ x ∧ x ≤ i) (N := w 58) (fun x i h1 h2 hx => by unfold sManyG; split <;> omega) (w 58).toNat 0 0 (by decide) (by omega) ⟨by decide, by decide⟩
  unfold sMany
  omega
theorem WT_pl {w0 w : Int → Int} {r b : Int} {k : Int} (hr : 0 ≤ r ∧ r ≤ 15) (h : WT w0 w k) (hb : 0 ≤ b ∧ b < 10) : WT w0 (up w (7 + b) r) k := ⟨fun i hi => by rw [up_ne (by omega)]; exact h.1 i hi, by rw [up_ne (by omega)]; exact h.2.1, h.2.2.u_reach hb hr⟩
section
variable {s t s0 t0 : Mem} {w0 : Int → Int} {lw : List Lin}
theorem c_pl {k : Mem → Res} {r : Int} (hr : 0 ≤ r ∧ r ≤ 15) (h58 : 0 ≤ w0 58 ∧ w0 58 ≤ 10) : ∀ (j fu : Nat) (b : Int) (s : Mem) (w : Int → Int), j < fu → 0 ≤ b → b + j = w0 58 → NR s 137 w → WT w0 w 0 → FrT s0 s → ∃ s1 : Mem, f_X8_bestReach_28 1 r 137 k fu b s = k s1 ∧ NR s1 137 (fo (gPl r) j b w) ∧ WT w0 (fo (gPl r) j b w) 0 ∧ FrT s0 s1 := by
  intro j
  induction j with
  | zero =>
    intro fu b s w h1 h2 h3 h4 h5 h6
    have e58 : w 58 = w0 58 := h5.1 58 (by omega)
    cases fu with
    | zero => exact absurd h1 (Nat.not_lt_zero _)
    | succ fu =>
      rw [f_X8_bestReach_28, h4.boats, if_neg (by omega)]
      exact ⟨s, rfl, h4, h5, h6⟩
  | succ j ih =>
    intro fu b s w h1 h2 h3 h4 h5 h6
    have e58 : w 58 = w0 58 := h5.1 58 (by omega)
    cases fu with
    | zero => exact absurd h1 (Nat.not_lt_zero _)
    | succ fu =>
      have hs : fo (gPl r) (j + 1) b w = fo (gPl r) j (b + 1) (gPl r b w) := rfl
      rw [f_X8_bestReach_28, h4.boats, if_pos (by omega), bd_e (e_afloat h4 h5.2.2 b), jn_s, bI_z, wr_n (x := b + 1) (by omega), hs]
      unfold gPl
      by_cases c : afl w b
      · have hb := afl_10 h5.2.2 c
        obtain ⟨s1, a1, a2, a3⟩ := c_bringTo (real := 0) (s := s) (w := w) (n := 137) ⟨h4, fun z => absurd rfl z⟩ h5.2.2 (Or.inr (by decide)) hb hr
        have em : sMove 0 w b r = up w (7 + b) r := by
          unfold sMove sNote
          rw [if_pos (Or.inl rfl)]
        rw [em] at a2
        rw [if_pos c, if_pos c, bd_e a1]
        exact ih fu (b + 1) s1 _ (by omega) (by omega) (by omega) a2.1 (WT_pl hr h5 hb) (fun c g1 g2 g3 => (a3 c (by omega) g1 g2 (Or.inl rfl)).trans (h6 c g1 g2 g3))
      · rw [if_neg c, if_neg c]
        exact ih fu (b + 1) s w (by omega) (by omega) (by omega) h4 h5 h6
theorem m_pl {k : Mem → Res} {r : Int} (hr : 0 ≤ r ∧ r ≤ 15) (h58 : 0 ≤ t0 1 58 ∧ t0 1 58 ≤ 10) : ∀ (j fu : Nat) (b : Int) (t : Mem) (w : Int → Int), j < fu → 0 ≤ b → b + j = t0 1 58 → TM t0 t w → WT (t0 1) w 0 → ∃ t1 : Mem, f_X12_lies_38 0 r k fu b t = k t1 ∧ TM t0 t1 (fo (gPl r) j b w) ∧ WT (t0 1) (fo (gPl r) j b w) 0 := by
  intro j
  induction j with
  | zero =>
    intro fu b t w h1 h2 h3 h4 h5
    have e58 : w 58 = t0 1 58 := h5.1 58 (by omega)
    cases fu with
    | zero => exact absurd h1 (Nat.not_lt_zero _)
    | succ fu =>
      rw [f_X12_lies_38, gd_t (by decide), Nat.zero_add, h4.1, if_neg (by omega)]
      exact ⟨t, rfl, h4, h5⟩
  | succ j ih =>
    intro fu b t w h1 h2 h3 h4 h5
    have e58 : w 58 = t0 1 58 := h5.1 58 (by omega)
    cases fu with
    | zero => exact absurd h1 (Nat.not_lt_zero _)
    | succ fu =>
      have hs : fo (gPl r) (j + 1) b w = fo (gPl r) j (b + 1) (gPl r b w) := rfl
      have ea := e_isAfloat (t := t) (by rw [h4.1]; exact h5.2.2) b
      rw [h4.1] at ea
      rw [f_X12_lies_38, gd_t (by decide), Nat.zero_add, h4.1, if_pos (by omega), bd_e ea, jn_s, bI_z, wr_n (x := b + 1) (by omega), hs]
      unfold gPl
      by_cases c : afl w b
      · have hb := afl_10 h5.2.2 c
        rw [if_pos c, if_pos c, wr_n (x := 7 + b) (by omega), gd_t (by omega), lm_s]
        obtain ⟨m1, m2, m3, m4⟩ := h4
        exact ih fu (b + 1) (mup t 1 (7 + b) r) _ (by omega) (by omega) (by omega) ⟨by rw [mup_row, m1], by rw [mup_o (by decide)]; exact m2, fun i g1 g2 => by rw [mup_o (by decide)]; exact m3 i g1 g2, fun c a0 a1 a4 a9 a10 => by rw [mup_o a1]; exact m4 c a0 a1 a4 a9 a10⟩ (WT_pl hr h5 hb)
      · rw [if_neg c, if_neg c]
        exact ih fu (b + 1) t w (by omega) (by omega) (by omega) h4 h5
theorem TM.base {t0 t1 t : Mem} {w : Int → Int} (h : TM t1 t w) (e1 : t1 1 = t0 1) (e0 : t1 0 = up (t0 0) 26 0) (q : ∀ c : Nat, c ≠ 0 → c ≠ 1 → c ≠ 4 → c ≠ 9 → c ≠ 10 → t1 c = t0 c) : TM t0 t w := by
  obtain ⟨m1, m2, m3, m4⟩ := h
  refine ⟨m1, ?_, fun i g1 g2 => by rw [m3 i g1 g2, e1], fun c a0 a1 a4 a9 a10 => (m4 c a0 a1 a4 a9 a10).trans (q c a0 a1 a4 a9 a10)⟩
  rw [m2, e0]
  funext i
  unfold up
  split
  · rfl
  · rfl
/-- the model is back where it was, but for what it wrote aside -/
def Bk (t0 t : Mem) : Prop := t 1 = t0 1 ∧ (∀ i : Int, i ≠ 26 → t 0 i = t0 0 i) ∧ ∀ c : Nat, c ≠ 0 → c ≠ 1 → c ≠ 4 → c ≠ 9 → c ≠ 10 → t c = t0 c
theorem m_lays2 {t : Mem} (h : Bk t0 t) : ∃ t1 : Mem, f_X12_lays 0 t = some (0, t1) ∧ TM t0 t1 (t0 1) := by
  obtain ⟨t1, l1, m1, m2, m3, m4⟩ := m_lays (t := t)
  obtain ⟨b1, b2, b3⟩ := h
  refine ⟨t1, l1, m1.trans b1, ?_, fun i g1 g2 => by rw [m3 i g1 g2, b1], fun c a0 a1 a4 a9 a10 => (m4 c a0 a1 a4 a9 a10).trans (b3 c a0 a1 a4 a9 a10)⟩
  rw [m2]
  funext i
  by_cases e : i = 26
  · rw [up_eq e, up_eq e]
  · rw [up_ne e, up_ne e]
    exact b2 i e
theorem m_back2 {t : Mem} {w : Int → Int} {k : Int} (hT : TM t0 t w) (hw : WT (t0 1) w k) : ∃ t1 : Mem, f_X12_putsBack 0 t = some (0, t1) ∧ Bk t0 t1 := by
  obtain ⟨t1, b1, b2, b3, b4⟩ := m_back hT hw
  exact ⟨t1, b1, b2, fun i hi => by rw [b3, up_ne hi], b4⟩
theorem th_end2 {s t s1 t1 : Mem} (h : IV s t) (hF : FrT s s1) (hB : Bk t t1) : IV s1 t1 := by
  have hT := h.2.2.2.2
  refine h.sct3 ?_ (fun c a1 a2 _ _ a5 => hF c a1 a2 (by omega)) (fun i _ _ => by rw [hB.1]) (fun c a0 a1 a4 a9 => hB.2.2 c a0 a1 a4 (by omega) (by omega)) (fun i hi => hB.2.1 i (by omega))
  unfold ThC at hT ⊢
  rw [hF 133 (by decide) (by decide) (by decide)]
  exact hT
theorem Bk.rf (t : Mem) : Bk t t := ⟨rfl, fun _ _ => rfl, fun _ _ _ _ _ _ => rfl⟩
theorem c_lies (hN : NR s0 2 w0) (hw : WN w0) (hh : HW s0 w0 lw) {n : Int} (hn : 1 ≤ n ∧ n ≤ 20) : ∀ (j fu : Nat) (r : Int) (p : Int × Int × Int) (s : Mem), j < fu → 0 ≤ r → r + j = 16 → FrT s0 s → ∃ s1 : Mem, f_X8_bestReach_11 133 1 n (fun v1 s2 => some (v1, s2)) fu p.1 p.2.1 p.2.2 r s = some ((fo (gLi w0 lw n) j r p).1, s1) ∧ FrT s0 s1 := by
  have h58 := hw.boats
  intro j
  induction j with
  | zero =>
    intro fu r p s h1 h2 h3 h4
    cases fu with
    | zero => exact absurd h1 (Nat.not_lt_zero _)
    | succ fu =>
      rw [f_X8_bestReach_11, if_neg (by omega)]
      exact ⟨s, rfl, h4⟩
  | succ j ih =>
    intro fu r p s h1 h2 h3 h4
    cases fu with
    | zero => exact absurd h1 (Nat.not_lt_zero _)
    | succ fu =>
      have n2 : NR s 2 w0 := hN.of (fun c q1 q2 => h4 c (by omega) (by omega) (by omega))
      obtain ⟨e1, e2, e3⟩ := th_begin n2
      have hs : fo (gLi w0 lw n) (j + 1) r p = fo (gLi w0 lw n) j (r + 1) (gLi w0 lw n r p) := rfl
      have ep : fo (gPl r) (w0 58).toNat 0 w0 = sPl w0 r := rfl
      have ei : sItr lw n.toNat (sPl w0 r) = sLi w0 lw n r := rfl
      rw [hs, f_X8_bestReach_11, if_pos (by omega), bd_e e1, gd_t isN137, e137, jn_s]
      -- the boats, then the hours
      have fin : ∀ (k : Mem → Res), (∀ s3 : Mem, NR s3 137 (sLi w0 lw n r) → WT w0 (sLi w0 lw n r) n → FrT s0 s3 → ∃ s1 : Mem, k s3 = some ((fo (gLi w0 lw n) j (r + 1) (gLi w0 lw n r p)).1, s1) ∧ FrT s0 s1) → ∃ s1 : Mem, f_X8_bestReach_28 1 r 137 (fun s7 => jn k fun j88 => f_X8_bestReach_68 1 n 137 j88 FU 0 s7) FU 0 (cpN s 2 137) = some ((fo (gLi w0 lw n) j (r + 1) (gLi w0 lw n r p)).1, s1) ∧ FrT s0 s1 := by
        intro k hk
        obtain ⟨s2, a1, a2, a3, a4⟩ := c_pl (k := fun s7 => jn k fun j88 => f_X8_bestReach_68 1 n 137 j88 FU 0 s7) (r := r) (by omega) h58 (w0 58).toNat FU 0 _ w0 (fu_lt (by omega)) (by decide) (by omega) e2 (WT.rf hw) (fun c g1 g2 g3 => (e3 c g1 g2 g3).trans (h4 c g1 g2 g3))
        rw [ep] at a2 a3
        obtain ⟨s3, b1, b2, b3, b4⟩ := th_itr (F := f_X8_bestReach_68 1 n 137 k) (k := k) (N := n) (n := 137) hh (by decide) (by omega) (fun m i r s s1 hi hp => by rw [f_X8_bestReach_68, if_pos hi, bd_e hp]) (fun m i s hi => by rw [f_X8_bestReach_68, if_neg hi]) n.toNat FU 0 s2 _ (fu_lt (by omega)) (by decide) (by omega) a2 a3 a4
        rw [ei] at b2 b3
        obtain ⟨s1, d1, d2⟩ := hk s3 b2 b3 b4
        refine ⟨s1, ?_, d2⟩
        rw [a1, jn_s, b1]
        exact d1
      refine fin _ (fun s3 n3 w3 f3 => ?_)
      rw [bd_e (c_howMany n3 w3.2.2), bd_e (c_had n3 w3.2.2), jn_s, jn_s, wr_n (x := r + 1) (by omega)]
      unfold gLi
      by_cases c0 : r = 0
      · rw [if_pos c0, if_pos (Or.inl c0)]
        exact ih fu (r + 1) (r, sMany (sLi w0 lw n r), sHad (sLi w0 lw n r)) s3 (by omega) (by omega) (by omega) f3
      · rw [if_neg c0]
        by_cases c1 : sMany (sLi w0 lw n r) < p.2.1
        · rw [if_pos c1, if_pos (Or.inr (Or.inl c1))]
          exact ih fu (r + 1) (r, sMany (sLi w0 lw n r), sHad (sLi w0 lw n r)) s3 (by omega) (by omega) (by omega) f3
        · rw [if_neg c1]
          by_cases c2 : sMany (sLi w0 lw n r) = p.2.1
          · rw [if_pos c2]
            by_cases c3 : p.2.2 < sHad (sLi w0 lw n r)
            · rw [if_pos c3, if_pos (Or.inr (Or.inr ⟨c2, c3⟩))]
              exact ih fu (r + 1) (r, sMany (sLi w0 lw n r), sHad (sLi w0 lw n r)) s3 (by omega) (by omega) (by omega) f3
            · rw [if_neg c3, if_neg (fun z => z.elim c0 (fun z => z.elim c1 (fun z => c3 z.2)))]
              exact ih fu (r + 1) p s3 (by omega) (by omega) (by omega) f3
          · rw [if_neg c2, if_neg (fun z => z.elim c0 (fun z => z.elim c1 (fun z => c2 z.1)))]
            exact ih fu (r + 1) p s3 (by omega) (by omega) (by omega) f3
theorem m_lies (hw : WN (t0 1)) (hh : HW s0 (t0 1) lw) {n : Int} (hn : 1 ≤ n ∧ n ≤ 20) : ∀ (j fu : Nat) (r : Int) (p : Int × Int × Int) (t : Mem), j < fu → 0 ≤ r → r + j = 16 → Bk t0 t → (r = 0 → p = (-1, 100000000, -1)) → ∃ t1 : Mem, f_X12_lies_24 0 n (fun v1 s2 => some (v1, s2)) fu p.1 p.2.1 p.2.2 r t = some ((fo (gLi (t0 1) lw n) j r p).1, t1) ∧ Bk t0 t1 := by
  have h58 := hw.boats
  intro j
  induction j with
  | zero =>
    intro fu r p t h1 h2 h3 h4 h0
    cases fu with
    | zero => exact absurd h1 (Nat.not_lt_zero _)
    | succ fu =>
      rw [f_X12_lies_24, if_neg (by omega)]
      exact ⟨t, rfl, h4⟩
  | succ j ih =>
    intro fu r p t h1 h2 h3 h4 h0
    cases fu with
    | zero => exact absurd h1 (Nat.not_lt_zero _)
    | succ fu =>
      obtain ⟨t1, l1, l2⟩ := m_lays2 h4
      have hs : fo (gLi (t0 1) lw n) (j + 1) r p = fo (gLi (t0 1) lw n) j (r + 1) (gLi (t0 1) lw n r p) := rfl
      have ep : fo (gPl r) (t0 1 58).toNat 0 (t0 1) = sPl (t0 1) r := rfl
      have ei : sItr lw n.toNat (sPl (t0 1) r) = sLi (t0 1) lw n r := rfl
      rw [hs, f_X12_lies_24, if_pos (by omega), bd_e l1, jn_s]
      have fin : ∀ (k : Mem → Res), (∀ t3 : Mem, TM t0 t3 (sLi (t0 1) lw n r) → WT (t0 1) (sLi (t0 1) lw n r) n → ∃ t1 : Mem, k t3 = some ((fo (gLi (t0 1) lw n) j (r + 1) (gLi (t0 1) lw n r p)).1, t1) ∧ Bk t0 t1) → ∃ t4 : Mem, f_X12_lies_38 0 r (fun s9 => jn k fun j97 => f_X12_lies_80 0 n j97 FU 0 s9) FU 0 t1 = some ((fo (gLi (t0 1) lw n) j (r + 1) (gLi (t0 1) lw n r p)).1, t4) ∧ Bk t0 t4 := by
        intro k hk
        obtain ⟨t2, a1, a2, a3⟩ := m_pl (t0 := t0) (k := fun s9 => jn k fun j97 => f_X12_lies_80 0 n j97 FU 0 s9) (r := r) (by omega) h58 (t0 1 58).toNat FU 0 t1 (t0 1) (fu_lt (by omega)) (by decide) (by omega) l2 (WT.rf hw)
        rw [ep] at a2 a3
        obtain ⟨t3, b1, b2, b3⟩ := tm_itr (t0 := t0) (F := f_X12_lies_80 0 n k) (k := k) (N := n) hh (by omega) (fun m i r s s1 hi hp => by rw [f_X12_lies_80, if_pos hi, bd_e hp]) (fun m i s hi => by rw [f_X12_lies_80, if_neg hi]) n.toNat FU 0 t2 _ (fu_lt (by omega)) (by decide) (by omega) a2 a3
        rw [ei] at b2 b3
        obtain ⟨t4, d1, d2⟩ := hk t3 b2 b3
        refine ⟨t4, ?_, d2⟩
        rw [a1, jn_s, b1]
        exact d1
      refine fin _ (fun t3 m3 w3 => ?_)
      have e1 := m_lostMany (t := t3) (by rw [m3.1]; exact w3.2.2)
      have e2 := m_allArrows (t := t3) (by rw [m3.1]; exact w3.2.2)
      rw [m3.1] at e1 e2
      obtain ⟨t4, b1, b2⟩ := m_back2 m3 w3
      have hM := sMany_in w3.2.2
      rw [bd_e e1, bd_e e2, bd_e b1, jn_s, jn_s, wr_n (x := r + 1) (by omega)]
      unfold gLi
      by_cases c0 : r = 0
      · have hp := h0 c0
        have p21 : p.2.1 = 100000000 := by rw [hp]
        rw [if_neg (by omega), if_neg (by omega), if_pos (Or.inl c0)]
        exact ih fu (r + 1) (r, sMany (sLi (t0 1) lw n r), sHad (sLi (t0 1) lw n r)) t4 (by omega) (by omega) (by omega) b2 (by omega)
      · by_cases c1 : p.2.1 < sMany (sLi (t0 1) lw n r)
        · rw [if_pos c1, if_neg (by omega)]
          exact ih fu (r + 1) p t4 (by omega) (by omega) (by omega) b2 (by omega)
        · rw [if_neg c1]
          by_cases c2 : sMany (sLi (t0 1) lw n r) = p.2.1
          · rw [if_pos c2]
            by_cases c3 : p.2.2 < sHad (sLi (t0 1) lw n r)
            · rw [if_pos c3, if_pos (Or.inr (Or.inr ⟨c2, c3⟩))]
              exact ih fu (r + 1) (r, sMany (sLi (t0 1) lw n r), sHad (sLi (t0 1) lw n r)) t4 (by omega) (by omega) (by omega) b2 (by omega)
            · rw [if_neg c3, if_neg (by omega)]
              exact ih fu (r + 1) p t4 (by omega) (by omega) (by omega) b2 (by omega)
          · rw [if_neg c2, if_pos (Or.inr (Or.inl (by omega)))]
            exact ih fu (r + 1) (r, sMany (sLi (t0 1) lw n r), sHad (sLi (t0 1) lw n r)) t4 (by omega) (by omega) (by omega) b2 (by omega)
theorem k_lies (h : IV s t) (n : Int) : Sim (f_X11_lies 0 n s) (f_X12_lies 0 n t) := by
  obtain ⟨lw, hh⟩ := h.hw
  unfold f_X11_lies f_X12_lies f_X8_bestReach
  simp only [Nat.zero_add, Nat.reduceAdd]
  rw [bd_e (e_within _ _ _ _), bd_e (e_isIn _ _ _ _), bI_z, bI_z]
  by_cases c : 1 ≤ n ∧ n ≤ 20
  · obtain ⟨s1, a1, a2⟩ := c_lies h.nr h.wn hh c 16 FU 0 (0, 0, 0) s (fu_lt (by omega)) (by decide) (by decide) (fun _ _ _ _ => rfl)
    obtain ⟨t1, b1, b2⟩ := m_lies (t0 := t) h.wn hh c 16 FU 0 (-1, 100000000, -1) t (fu_lt (by omega)) (by decide) (by decide) (Bk.rf t) (fun _ => rfl)
    have g0 : ∀ p : Int × Int × Int, gLi (t 1) lw n 0 p = (0, sMany (sLi (t 1) lw n 0), sHad (sLi (t 1) lw n 0)) := fun p => if_pos (Or.inl rfl)
    have ef : ∀ p : Int × Int × Int, fo (gLi (t 1) lw n) 16 0 p = fo (gLi (t 1) lw n) 15 (0 + 1) (gLi (t 1) lw n 0 p) := fun p => rfl
    rw [if_pos c, if_pos c, jn_s, bd_e a1, jn_s]
    refine Sim.eq rfl b1 ?_ (th_end2 h a2 b2)
    rw [ef, ef, g0, g0]
  · rw [if_neg c, if_neg c]
    exact Sim.rf h _
end

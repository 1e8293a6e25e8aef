/-! ===== L3: what is done to a BOAT, with THE BOOK ===== -/
def nBook (w : Int → Int) (what b many : Int) : Int → Int := up (up (up (up w (248 + 4 * w 6) (w 0)) (248 + 4 * w 6 + 1) what) (248 + 4 * w 6 + 2) b) (248 + 4 * w 6 + 3) many
def sNote (real : Int) (w : Int → Int) (what b many : Int) : Int → Int := if real = 0 ∨ w 6 = 150 then w else up (nBook w what b many) 6 (w 6 + 1)
def sTurn (real : Int) (w : Int → Int) (b : Int) : Int → Int := sNote real (up w (37 + b) (1 - w (37 + b))) 1 b 0
def sOff (w : Int → Int) (b : Int) : Int → Int := up (up w (17 + b) 0) (27 + b) 0
def sHome (real : Int) (w : Int → Int) (b : Int) : Int → Int := sNote real (up (sOff w b) 4 (wr (w 4 + sStk w b))) 2 b (sStk w b)
def sMove (real : Int) (w : Int → Int) (b r : Int) : Int → Int := sNote real (up w (7 + b) r) 5 b r
def sLose (real : Int) (w : Int → Int) (b how : Int) : Int → Int := sNote real (sOff (up w (47 + b) how) b) (2 + how) b (sStk w b)
def sDo (real : Int) (w : Int → Int) (l : Int) : Int → Int :=
  if w (l + 1) = 12 then up w 2 (w (l + 2)) else if afl w (w (l + 2)) then (if w (l + 1) = 11 then sTurn real w (w (l + 2)) else if w (l + 1) = 13 then sHome real w (w (l + 2)) else sMove real w (w (l + 2)) (w (l + 3))) else w
/-- what an HOUR never changes -/
def St (real : Int) (w w' : Int → Int) : Prop := ∀ i : Int, (i ≤ 0 ∨ 57 ≤ i) → (real = 0 ∨ i < 248 ∨ 848 ≤ i) → w' i = w i
theorem St.rf (real : Int) (w : Int → Int) : St real w w := fun _ _ _ => rfl
theorem St.tr {real : Int} {w w' w'' : Int → Int} (h : St real w w') (h2 : St real w' w'') : St real w w'' := fun i hi h3 => (h2 i hi h3).trans (h i hi h3)
theorem St.up {real : Int} {w w' : Int → Int} (h : St real w w') {i v : Int} (hi : 0 < i ∧ i < 57) : St real w (up w' i v) := fun j hj h3 => (up_ne (by omega)).trans (h j hj h3)
theorem up_comm {w : Int → Int} {i j x y : Int} (h : i ≠ j) : up (up w i x) j y = up (up w j y) i x := by
  funext k
  unfold up
  by_cases h1 : k = i
  · by_cases h2 : k = j
    · exact absurd (h1.symm.trans h2) h
    · rw [if_neg h2, if_pos h1, if_pos h1]
  · by_cases h2 : k = j
    · rw [if_pos h2, if_neg h1, if_pos h2]
    · rw [if_neg h2, if_neg h1, if_neg h1, if_neg h2]
theorem up_same {w : Int → Int} {i : Int} : up w i (w i) = w := by
  funext k
  unfold up
  by_cases h : k = i
  · rw [if_pos h, h]
  · rw [if_neg h]
theorem sr_same (t : Mem) (a : Nat) : sr t a (t a) = t := by
  funext b
  by_cases h : b = a
  · rw [h, sr_e]
  · rw [sr_o h]
theorem sr_sr (t : Mem) (a : Nat) (f g : Int → Int) : sr (sr t a f) a g = sr t a g := by
  funext b
  by_cases h : b = a
  · rw [h, sr_e, sr_e]
  · rw [sr_o h, sr_o h, sr_o h]
theorem nBook_lo {w : Int → Int} (hw : WN w) {what b many i : Int} (h : i < 248) : nBook w what b many i = w i := by
  have := hw.written
  unfold nBook
  rw [up_ne (by omega), up_ne (by omega), up_ne (by omega), up_ne (by omega)]
theorem nBook_hi {w : Int → Int} (hw : WN w) (h6 : w 6 ≠ 150) {what b many i : Int} (h : 848 ≤ i) : nBook w what b many i = w i := by
  have := hw.written
  unfold nBook
  rw [up_ne (by omega), up_ne (by omega), up_ne (by omega), up_ne (by omega)]
theorem sNote_lo {w : Int → Int} (hw : WN w) {real what b many i : Int} (h : i < 248) (h6 : i ≠ 6) : sNote real w what b many i = w i := by
  unfold sNote
  split
  · rfl
  · rw [up_ne h6, nBook_lo hw h]
theorem WN_nBook {w : Int → Int} (hw : WN w) {what b many : Int} : WN (nBook w what b many) := hw.cg (fun i _ h => nBook_lo hw (by omega))
theorem WN_note {w : Int → Int} (hw : WN w) {real what b many : Int} : WN (sNote real w what b many) := by
  unfold sNote
  split
  · exact hw
  · rename_i h
    have h6 := hw.written
    have hh : w 6 ≠ 150 := fun q => h (Or.inr q)
    exact (WN_nBook hw).u_written (by omega)
theorem St_note {w0 w : Int → Int} {real : Int} (h : St real w0 w) (hw : WN w) {what b many : Int} : St real w0 (sNote real w what b many) := by
  unfold sNote
  split
  · exact h
  · rename_i h2
    have hh : w 6 ≠ 150 := fun q => h2 (Or.inr q)
    have hr : real ≠ 0 := fun q => h2 (Or.inl q)
    refine St.up ?_ (by decide)
    intro i h57 hi
    rcases hi with hi | hi | hi
    · exact absurd hi hr
    · rw [nBook_lo hw hi]
      exact h i h57 (Or.inr (Or.inl hi))
    · rw [nBook_hi hw hh hi]
      exact h i h57 (Or.inr (Or.inr hi))
theorem WN_off {w : Int → Int} (hw : WN w) {b : Int} (hb : 0 ≤ b ∧ b < 10) : WN (sOff w b) := (hw.u_left hb (by decide)).u_right hb (by decide)
theorem St_off {w0 w : Int → Int} {real : Int} (h : St real w0 w) {b : Int} (hb : 0 ≤ b ∧ b < 10) : St real w0 (sOff w b) := (h.up (by omega)).up (by omega)
theorem WN_turn {w : Int → Int} (hw : WN w) {real b : Int} (hb : 0 ≤ b ∧ b < 10) : WN (sTurn real w b) := WN_note (hw.u_turned hb (by have := hw.turned hb; omega))
theorem WN_home {w : Int → Int} (hw : WN w) {real b : Int} (hb : 0 ≤ b ∧ b < 10) : WN (sHome real w b) := WN_note ((WN_off hw hb).u_arrows (inr_wr _))
theorem WN_move {w : Int → Int} (hw : WN w) {real b r : Int} (hb : 0 ≤ b ∧ b < 10) (hr : 0 ≤ r ∧ r ≤ 15) : WN (sMove real w b r) := WN_note (hw.u_reach hb hr)
theorem WN_lose {w : Int → Int} (hw : WN w) {real b how : Int} (hb : 0 ≤ b ∧ b < 10) (hh : 0 ≤ how ∧ how ≤ 2) : WN (sLose real w b how) := WN_note (WN_off (hw.u_lost hb hh) hb)
theorem St_turn {w0 w : Int → Int} {real : Int} (h : St real w0 w) (hw : WN w) {b : Int} (hb : 0 ≤ b ∧ b < 10) : St real w0 (sTurn real w b) := St_note (h.up (by omega)) (hw.u_turned hb (by have := hw.turned hb; omega))
theorem St_home {w0 w : Int → Int} {real : Int} (h : St real w0 w) (hw : WN w) {b : Int} (hb : 0 ≤ b ∧ b < 10) : St real w0 (sHome real w b) := St_note ((St_off h hb).up (by decide)) ((WN_off hw hb).u_arrows (inr_wr _))
theorem St_move {w0 w : Int → Int} {real : Int} (h : St real w0 w) (hw : WN w) {b r : Int} (hb : 0 ≤ b ∧ b < 10) (hr : 0 ≤ r ∧ r ≤ 15) : St real w0 (sMove real w b r) := St_note (h.up (by omega)) (hw.u_reach hb hr)
theorem St_lose {w0 w : Int → Int} {real : Int} (h : St real w0 w) (hw : WN w) {b how : Int} (hb : 0 ≤ b ∧ b < 10) (hh : 0 ≤ how ∧ how ≤ 2) : St real w0 (sLose real w b how) := St_note (St_off (h.up (by omega)) hb) (WN_off (hw.u_lost hb hh) hb)
/-! the model's -/
section
variable {t : Mem}
theorem m_notes (hw : WN (t 1)) (what b many : Int) : f_X12_notes 0 what b many t = some (0, sr t 1 (sNote (t 0 26) (t 1) what b many)) := by
  have h6 := hw.written
  unfold f_X12_notes sNote
  by_cases h1 : t 0 26 = 0
  · rw [if_pos h1, if_pos (Or.inl h1), sr_same]
  · rw [if_neg h1, gd_t (by decide), Nat.zero_add]
    by_cases h2 : t 1 6 = 150
    · rw [if_pos h2, if_pos (Or.inr h2), sr_same]
    · rw [if_neg h2, if_neg (fun q => q.elim h1 h2)]
      have W0 : wr (4 * t 1 6) = 4 * t 1 6 := wr_n (by omega)
      have W1 : wr (248 + 4 * t 1 6) = 248 + 4 * t 1 6 := wr_n (by omega)
      have W2 : wr (248 + 4 * t 1 6 + 1) = 248 + 4 * t 1 6 + 1 := wr_n (by omega)
      have W3 : wr (248 + 4 * t 1 6 + 2) = 248 + 4 * t 1 6 + 2 := wr_n (by omega)
      have W4 : wr (248 + 4 * t 1 6 + 3) = 248 + 4 * t 1 6 + 3 := wr_n (by omega)
      rw [gd_t (by decide), gd_t (by decide), W0, W1, W2, W3, W4, gd_t (by omega), lm_s, gd_t (by omega), lm_s, gd_t (by omega), lm_s, gd_t (by omega), lm_s, gd_t (by decide), gd_t (by decide), lm_s]
      have e : mup (mup (mup (mup t 1 (248 + 4 * t 1 6) (t 1 0)) 1 (248 + 4 * t 1 6 + 1) what) 1 (248 + 4 * t 1 6 + 2) b) 1 (248 + 4 * t 1 6 + 3) many = sr t 1 (nBook (t 1) what b many) := by
        rw [mup_to_sr t 1, mup_sr, mup_sr, mup_sr]
        rfl
      rw [e, mup_sr, sr_e, nBook_lo hw (by decide), wr_n (by omega)]
theorem m_turns0 (hw : WN (t 1)) {b : Int} (hb : 0 ≤ b ∧ b < 10) : f_X12_turns0 0 b t = some (0, sr t 1 (sTurn (t 0 26) (t 1) b)) := by
  have ht := hw.turned hb
  unfold f_X12_turns0
  rw [Nat.zero_add, wr_n (x := 37 + b) (by omega), gd_t (by omega), gd_t (by omega), lm_s, wr_n (by omega), mup_to_sr t 1]
  have h := m_notes (t := sr t 1 (up (t 1) (37 + b) (1 - t 1 (37 + b)))) (by rw [sr_e]; exact hw.u_turned hb (by omega)) 1 b 0
  rw [bd_e h, sr_sr, sr_e, sr_o (by decide)]
  rfl
theorem off_m (w : Int → Int) {b : Int} (hb : 0 ≤ b ∧ b < 10) (v : Int) : up (up (up w 4 v) (17 + b) 0) (27 + b) 0 = up (sOff w b) 4 v := by
  unfold sOff
  rw [up_comm (i := 4) (j := 17 + b) (by omega), up_comm (i := 4) (j := 27 + b) (by omega)]
theorem m_brings (hw : WN (t 1)) {b : Int} (hb : 0 ≤ b ∧ b < 10) : f_X12_brings 0 b t = some (sStk (t 1) b, sr t 1 (sHome (t 0 26) (t 1) b)) := by
  unfold f_X12_brings
  rw [bd_e (e_mStuckIn hw hb), Nat.zero_add, gd_t (by decide), gd_t (by decide), lm_s, wr_n (x := 17 + b) (by omega), gd_t (by omega), lm_s, wr_n (x := 27 + b) (by omega), gd_t (by omega), lm_s, mup_to_sr t 1, mup_sr, mup_sr, off_m (t 1) hb]
  have h := m_notes (t := sr t 1 (up (sOff (t 1) b) 4 (wr (t 1 4 + sStk (t 1) b)))) (by rw [sr_e]; exact (WN_off hw hb).u_arrows (inr_wr _)) 2 b (sStk (t 1) b)
  rw [bd_e h, sr_sr, sr_e, sr_o (by decide)]
  rfl
theorem m_movesTo (hw : WN (t 1)) {b r : Int} (hb : 0 ≤ b ∧ b < 10) (hr : 0 ≤ r ∧ r ≤ 15) : f_X12_movesTo 0 b r t = some (0, sr t 1 (sMove (t 0 26) (t 1) b r)) := by
  unfold f_X12_movesTo
  rw [Nat.zero_add, wr_n (x := 7 + b) (by omega), gd_t (by omega), lm_s, mup_to_sr t 1]
  have h := m_notes (t := sr t 1 (up (t 1) (7 + b) r)) (by rw [sr_e]; exact hw.u_reach hb hr) 5 b r
  rw [bd_e h, sr_sr, sr_e, sr_o (by decide)]
  rfl
theorem m_goesDown (hw : WN (t 1)) {b how : Int} (hb : 0 ≤ b ∧ b < 10) (hh : how = 1 ∨ how = 2) : f_X12_goesDown 0 b how t = some (0, sr t 1 (sLose (t 0 26) (t 1) b how)) := by
  unfold f_X12_goesDown
  rw [bd_e (e_mStuckIn hw hb), Nat.zero_add, wr_n (x := 47 + b) (by omega), gd_t (by omega), lm_s, wr_n (x := 17 + b) (by omega), gd_t (by omega), lm_s, wr_n (x := 27 + b) (by omega), gd_t (by omega), lm_s, mup_to_sr t 1, mup_sr, mup_sr]
  have h := fun what => m_notes (t := sr t 1 (sOff (up (t 1) (47 + b) how) b)) (by rw [sr_e]; exact WN_off (hw.u_lost hb (by omega)) hb) what b (sStk (t 1) b)
  rcases hh with rfl | rfl
  · rw [jn_s, if_pos rfl]
    refine (bd_e (h 3)).trans ?_
    rw [sr_sr, sr_e, sr_o (by decide)]
    rfl
  · rw [jn_s, if_neg (by decide)]
    refine (bd_e (h 4)).trans ?_
    rw [sr_sr, sr_e, sr_o (by decide)]
    rfl
theorem m_does (hw : WN (t 1)) {l : Int} (hl : 133 ≤ l ∧ l ≤ 193) (ha : 11 ≤ t 1 (l + 1) ∧ t 1 (l + 1) ≤ 14) (hr : t 1 (l + 1) = 14 → 0 ≤ t 1 (l + 3) ∧ t 1 (l + 3) ≤ 15) : f_X12_does 0 l t = some (0, sr t 1 (sDo (t 0 26) (t 1) l)) := by
  have W1 : wr (l + 1) = l + 1 := wr_n (by omega)
  have W2 : wr (l + 2) = l + 2 := wr_n (by omega)
  have W3 : wr (l + 3) = l + 3 := wr_n (by omega)
  unfold f_X12_does sDo
  rw [W1, W2, W3, Nat.zero_add, gd_t (by omega), gd_t (by omega)]
  by_cases h12 : t 1 (l + 1) = 12
  · rw [if_pos h12, if_pos h12, gd_t (by decide), lm_s, mup_to_sr t 1]
  · rw [if_neg h12, if_neg h12, bd_e (e_isAfloat hw _), bI_z]
    by_cases hf : afl (t 1) (t 1 (l + 2))
    · have hb := afl_10 hw hf
      rw [if_pos hf, if_pos hf, gd_t (by omega)]
      by_cases h11 : t 1 (l + 1) = 11
      · rw [if_pos h11, if_pos h11, bd_e (m_turns0 hw hb)]
      · rw [if_neg h11, if_neg h11, gd_t (by omega)]
        by_cases h13 : t 1 (l + 1) = 13
        · rw [if_pos h13, if_pos h13, bd_e (m_brings hw hb)]
        · rw [if_neg h13, if_neg h13, gd_t (by omega), bd_e (m_movesTo hw hb (hr (by omega)))]
    · rw [if_neg hf, if_neg hf, sr_same]
end
/-! the class's -/
def FrH (s s' : Mem) (n : Nat) (real : Int) : Prop := ∀ a : Nat, ¬ (n ≤ a ∧ a ≤ n + 8) → a ≠ 17 → a ≠ 18 → (real = 0 ∨ a ≠ 11) → s' a = s a
theorem FrH.rf (s : Mem) (n : Nat) (real : Int) : FrH s s n real := fun _ _ _ _ _ => rfl
theorem FrH.tr {s s' s'' : Mem} {n : Nat} {real : Int} (h : FrH s s' n real) (h2 : FrH s' s'' n real) : FrH s s'' n real := fun a h1 h3 h4 h5 => (h2 a h1 h3 h4 h5).trans (h a h1 h3 h4 h5)
theorem FrH.up {s s' : Mem} {n a : Nat} {real i v : Int} (h : FrH s s' n real) (ha : n ≤ a ∧ a ≤ n + 8) : FrH s (mup s' a i v) n real := fun c h1 h3 h4 h5 => (mup_o (fun q => h1 (by omega))).trans (h c h1 h3 h4 h5)
theorem FrH.sc {s s' s'' : Mem} {n : Nat} {real : Int} (h : FrH s s' n real) (h2 : ∀ a : Nat, a ≠ 17 → a ≠ 18 → s'' a = s' a) : FrH s s'' n real := fun c h1 h3 h4 h5 => (h2 c h3 h4).trans (h c h1 h3 h4 h5)
def BookC (s : Mem) (w : Int → Int) : Prop := ∀ i : Int, 0 ≤ i → i < 600 → s 11 i = w (248 + i)
/-- the night, and THE BOOK where it is real -/
def NB (real : Int) (s : Mem) (n : Nat) (w : Int → Int) : Prop := NR s n w ∧ (real ≠ 0 → BookC s w)
theorem BookC.up {s : Mem} {w : Int → Int} (h : BookC s w) {k : Int} (hk : 0 ≤ k ∧ k < 600) (v : Int) : BookC (mup s 11 k v) (up w (248 + k) v) := by
  intro i h1 h2
  by_cases e : i = k
  · rw [mup_e rfl e, up_eq (by omega)]
  · rw [mup_n (Or.inr e), up_ne (by omega)]
    exact h i h1 h2
theorem BookC.of {s s' : Mem} {w w' : Int → Int} (h : BookC s w) (h1 : s' 11 = s 11) (h2 : ∀ i : Int, 248 ≤ i → i < 848 → w' i = w i) : BookC s' w' := by
  intro i g1 g2
  rw [h1, h2 _ (by omega) (by omega)]
  exact h i g1 g2
section
variable {s : Mem} {n : Nat} {w : Int → Int} {real : Int}
/-- writing into the night only -/
theorem NB.u {a : Nat} {i v : Int} {w' : Int → Int} (h : NB real s n w) (hn : n = 2 ∨ 137 ≤ n) (ha : n ≤ a ∧ a ≤ n + 8) (h1 : NR (mup s a i v) n w') (h2 : ∀ k : Int, 248 ≤ k → k < 848 → w' k = w k) : NB real (mup s a i v) n w' := ⟨h1, fun q => (h.2 q).of (mup_o (by omega)) h2⟩
theorem NB.sc {s' : Mem} (h : NB real s n w) (hn : n = 2 ∨ 137 ≤ n) (h2 : ∀ a : Nat, a ≠ 17 → a ≠ 18 → s' a = s a) : NB real s' n w := ⟨h.1.of (fun a g1 g2 => h2 a (by omega) (by omega)), fun q => (h.2 q).of (h2 11 (by decide) (by decide)) (fun _ _ _ => rfl)⟩
theorem c_write (h : NB real s n w) (hw : WN w) (hn : n = 2 ∨ 137 ≤ n) (what b many : Int) : ∃ s1 : Mem, f_X10_write 1 n what b many real s = some (0, s1) ∧ NB real s1 n (sNote real w what b many) ∧ FrH s s1 n real := by
  have h6 := hw.written
  unfold f_X10_write sNote
  by_cases h1 : real = 0
  · rw [if_pos h1, if_pos (Or.inl h1)]
    exact ⟨s, rfl, h, FrH.rf s n real⟩
  · rw [if_neg h1, bd_e (e_within _ _ _ _), bI_z, h.1.written]
    by_cases h2 : w 6 = 150
    · rw [if_neg (by omega), if_pos (Or.inr h2)]
      exact ⟨s, rfl, h, FrH.rf s n real⟩
    · rw [if_pos (by omega), if_neg (fun q => q.elim h1 h2)]
      have W0 : wr (4 * w 6) = 4 * w 6 := wr_n (by omega)
      have W2 : wr (4 * w 6 + 1) = 4 * w 6 + 1 := wr_n (by omega)
      have W3 : wr (4 * w 6 + 2) = 4 * w 6 + 2 := wr_n (by omega)
      have W4 : wr (4 * w 6 + 3) = 4 * w 6 + 3 := wr_n (by omega)
      have ea : (1 : Nat) + 10 = 11 := rfl
      have hB := h.2 h1
      have b1 := hB.up (k := 4 * w 6) (by omega) (w 0)
      have b2 := b1.up (k := 4 * w 6 + 1) (by omega) what
      have b3 := b2.up (k := 4 * w 6 + 2) (by omega) b
      have b4 := b3.up (k := 4 * w 6 + 3) (by omega) many
      rw [W0, W2, W3, W4, ea, gd_t (by omega), lm_s, gd_t (by omega), lm_s, gd_t (by omega), lm_s, gd_t (by omega), lm_s, h.1.hour]
      have hq : NR (mup (mup (mup (mup s 11 (4 * w 6) (w 0)) 11 (4 * w 6 + 1) what) 11 (4 * w 6 + 2) b) 11 (4 * w 6 + 3) many) n w := h.1.of (fun a g1 g2 => by rw [mup_o (by omega), mup_o (by omega), mup_o (by omega), mup_o (by omega)])
      have e1 : 248 + (4 * w 6 + 1) = 248 + 4 * w 6 + 1 := by omega
      have e2 : 248 + (4 * w 6 + 2) = 248 + 4 * w 6 + 2 := by omega
      have e3 : 248 + (4 * w 6 + 3) = 248 + 4 * w 6 + 3 := by omega
      rw [e1, e2, e3] at b4
      have hq2 : NR (mup (mup (mup (mup s 11 (4 * w 6) (w 0)) 11 (4 * w 6 + 1) what) 11 (4 * w 6 + 2) b) 11 (4 * w 6 + 3) many) n (nBook w what b many) := hq.cg (fun i _ g => nBook_lo hw (by omega))
      rw [lm_s, hq.written, wr_n (by omega)]
      refine ⟨_, rfl, ⟨hq2.u_written (w 6 + 1), fun _ => BookC.of (w := nBook w what b many) b4 (mup_o (by omega)) (fun i g1 _ => up_ne (by omega))⟩, fun a g1 g2 g3 g4 => ?_⟩
      have g5 : a ≠ 11 := g4.resolve_left h1
      rw [mup_o (by omega), mup_o g5, mup_o g5, mup_o g5, mup_o g5]
theorem c_takeOff (h : NB real s n w) (hw : WN w) (hn : n = 2 ∨ 137 ≤ n) {b : Int} (hb : 0 ≤ b ∧ b < 10) : ∃ s1 : Mem, f_X4_takeOff n b s = some (sStk w b, s1) ∧ NB real s1 n (sOff w b) ∧ FrH s s1 n real := by
  unfold f_X4_takeOff
  rw [bd_e (e_stuckIn h.1 hw hb), gd_t hb, lm_s, gd_t hb, lm_s]
  have h1 := NB.u h hn (by omega) (h.1.u_left hb 0) (fun k g1 g2 => up_ne (by omega))
  have h2 := NB.u h1 hn (by omega) (h1.1.u_right hb 0) (fun k g1 g2 => up_ne (by omega))
  exact ⟨_, rfl, h2, ((FrH.rf s n real).up (by omega)).up (by omega)⟩
theorem c_turnAbout (h : NB real s n w) (hw : WN w) (hn : n = 2 ∨ 137 ≤ n) {b : Int} (hb : 0 ≤ b ∧ b < 10) : ∃ s1 : Mem, f_X10_turnAbout 1 n b real s = some (0, s1) ∧ NB real s1 n (sTurn real w b) ∧ FrH s s1 n real := by
  have ht := hw.turned hb
  unfold f_X10_turnAbout
  rw [gd_t hb, gd_t hb, lm_s, h.1.turned hb, wr_n (by omega)]
  have h1 := NB.u h hn (by omega) (h.1.u_turned hb (1 - w (37 + b))) (fun k g1 g2 => up_ne (by omega))
  obtain ⟨s1, e1, h2, h3⟩ := c_write h1 (hw.u_turned hb (by omega)) hn 1 b 0
  rw [bd_e e1]
  exact ⟨s1, rfl, h2, ((FrH.rf s n real).up (by omega)).tr h3⟩
theorem c_bringHome (h : NB real s n w) (hw : WN w) (hn : n = 2 ∨ 137 ≤ n) {b : Int} (hb : 0 ≤ b ∧ b < 10) : ∃ s1 : Mem, f_X10_bringHome 1 n b real s = some (sStk w b, s1) ∧ NB real s1 n (sHome real w b) ∧ FrH s s1 n real := by
  unfold f_X10_bringHome
  obtain ⟨s0, e0, h0, f0⟩ := c_takeOff h hw hn hb
  have e4 : sOff w b 4 = w 4 := by
    unfold sOff
    rw [up_ne (by omega), up_ne (by omega)]
  rw [bd_e e0, lm_s, h0.1.arrows, e4]
  have h1 := NB.u h0 hn (by omega) (h0.1.u_arrows (wr (w 4 + sStk w b))) (fun k g1 g2 => up_ne (by omega))
  obtain ⟨s1, e1, h2, h3⟩ := c_write h1 ((WN_off hw hb).u_arrows (inr_wr _)) hn 2 b (sStk w b)
  rw [bd_e e1]
  exact ⟨s1, rfl, h2, (f0.up (by omega)).tr h3⟩
theorem c_bringTo (h : NB real s n w) (hw : WN w) (hn : n = 2 ∨ 137 ≤ n) {b r : Int} (hb : 0 ≤ b ∧ b < 10) (hr : 0 ≤ r ∧ r ≤ 15) : ∃ s1 : Mem, f_X10_bringTo 1 n b r real s = some (0, s1) ∧ NB real s1 n (sMove real w b r) ∧ FrH s s1 n real := by
  unfold f_X10_bringTo
  rw [gd_t hb, lm_s]
  have h1 := NB.u h hn (by omega) (h.1.u_reach hb r) (fun k g1 g2 => up_ne (by omega))
  obtain ⟨s1, e1, h2, h3⟩ := c_write h1 (hw.u_reach hb hr) hn 5 b r
  rw [bd_e e1]
  exact ⟨s1, rfl, h2, ((FrH.rf s n real).up (by omega)).tr h3⟩
theorem c_lose (h : NB real s n w) (hw : WN w) (hn : n = 2 ∨ 137 ≤ n) {b how : Int} (hb : 0 ≤ b ∧ b < 10) (hh : how = 1 ∨ how = 2) : ∃ s1 : Mem, f_X10_lose 1 n b how real s = some (0, s1) ∧ NB real s1 n (sLose real w b how) ∧ FrH s s1 n real := by
  unfold f_X10_lose
  have h1 := NB.u h hn (by omega) (h.1.u_lost hb how) (fun k g1 g2 => up_ne (by omega))
  have hw1 := hw.u_lost hb (v := how) (by omega)
  obtain ⟨s0, e0, h0, f0⟩ := c_takeOff h1 hw1 hn hb
  have e4 : sStk (up w (47 + b) how) b = sStk w b := by
    unfold sStk
    rw [up_ne (by omega), up_ne (by omega)]
  rw [gd_t hb, lm_s, bd_e e0, e4, wr_n (x := 2 + how) (by omega)]
  obtain ⟨s1, e1, h2, h3⟩ := c_write h0 (WN_off hw1 hb) hn (2 + how) b (sStk w b)
  rw [bd_e e1]
  exact ⟨s1, rfl, h2, (((FrH.rf s n real).up (by omega)).tr f0).tr h3⟩
end

/-! ===== L3: count, look, crowd, heavy ===== -/
section
variable {s t : Mem}
theorem k_count (h : IV s t) (m r : Int) : Sim (f_X11_count 0 m r s) (f_X12_count 0 m r t) := by
  obtain ⟨lw, hX, hW⟩ := h.1
  obtain ⟨l1, l2⟩ := h.clu.1
  obtain ⟨m1, m2⟩ := h.clu.2
  have no : Sim (some (-1, s)) (some (-1, t)) := Sim.rf h _
  unfold f_X11_count f_X12_count f_X0_take
  simp only [Nat.zero_add, Nat.reduceAdd]
  by_cases c : m = -1
  · rw [if_pos c, if_pos c, gd_t (by decide), lm_s, lm_s]
    refine Sim.eq rfl rfl rfl ?_
    have e1 : mup t 1 63 0 1 = up (t 1) 63 0 := mup_row _ _ _ _
    have hh := hX.clu (s' := mup s 31 4 0) (w' := up (t 1) 63 0) hW ⟨by rw [mup_e rfl rfl, up_eq rfl], fun i g1 g2 => by rw [up_eq rfl] at g2; omega⟩ ⟨by rw [up_eq rfl]; decide, fun i g1 g2 => by rw [up_eq rfl] at g2; omega⟩ (fun c q _ _ => mup_o q) (fun i q1 q2 => up_ne q1)
    exact h.wo (by rw [e1]; exact hh.1) (by rw [e1]; exact hh.2) (fun c q => mup_o (by omega)) (fun i q => by rw [e1, up_ne (by omega)]) (fun c q => mup_o q)
  · rw [if_neg c, if_neg c]
    -- what happens where it can be told
    have go : (0 ≤ m ∧ m ≤ 30) → (0 ≤ r ∧ r ≤ 1000) → Sim (bd (if t 1 63 < 8 then gd ((0 : Int) ≤ t 1 63 ∧ t 1 63 < 8) (lm (mup s 32 (t 1 63) m) fun s10 => gd ((0 : Int) ≤ s10 31 4 ∧ s10 31 4 < 8) (lm (mup s10 33 (s10 31 4) r) fun s12 => lm (mup s12 31 4 (wr ((s12 31 4) + 1))) fun s13 => some (s13 31 4, s13))) else some (-1, s)) fun r3 s4 => some (r3, s4)) (gd ((0 : Int) ≤ 63 ∧ (63 : Int) < 1732) (if t 1 63 = 8 then (some ((-1), t)) else (gd ((0 : Int) ≤ 63 ∧ (63 : Int) < 1732) (gd ((0 : Int) ≤ wr (222 + (wr (2 * (t 1 63)))) ∧ wr (222 + (wr (2 * (t 1 63)))) < 1732) (lm (mup t 1 (wr (222 + (wr (2 * (t 1 63))))) m) fun s11 => gd ((0 : Int) ≤ 63 ∧ (63 : Int) < 1732) (gd ((0 : Int) ≤ wr ((wr (222 + (wr (2 * (s11 1 63))))) + 1) ∧ wr ((wr (222 + (wr (2 * (s11 1 63))))) + 1) < 1732) (lm (mup s11 1 (wr ((wr (222 + (wr (2 * (s11 1 63))))) + 1)) r) fun s14 => gd ((0 : Int) ≤ 63 ∧ (63 : Int) < 1732) (gd ((0 : Int) ≤ 63 ∧ (63 : Int) < 1732) (lm (mup s14 1 63 (wr ((s14 1 63) + 1))) fun s17 => gd ((0 : Int) ≤ 63 ∧ (63 : Int) < 1732) (some (s17 1 63, s17))))))))))) := by
      intro hm hr
      rw [gd_t (c := (0 : Int) ≤ 63 ∧ (63 : Int) < 1732) (by decide)]
      by_cases c2 : t 1 63 = 8
      · rw [if_neg (by omega), if_pos c2, bd_s]
        exact no
      · rw [if_pos (by omega), if_neg c2, gd_t (by omega), lm_s, mup_o (a := 32) (by decide), l1, gd_t (by omega), lm_s, mup_o (a := 33) (by decide), mup_o (a := 32) (by decide), l1, wr_n (x := t 1 63 + 1) (by omega), lm_s, bd_s]
        rw [gd_t (by decide), wr_n (x := 2 * t 1 63) (by omega), wr_n (x := 222 + 2 * t 1 63) (by omega), gd_t (by omega), lm_s, mup_n (a := 1) (i' := 63) (Or.inr (by omega)), wr_n (x := 2 * t 1 63) (by omega), wr_n (x := 222 + 2 * t 1 63) (by omega), wr_n (x := 222 + 2 * t 1 63 + 1) (by omega), gd_t (by decide), gd_t (by omega), lm_s, gd_t (by decide), gd_t (by decide), mup_n (a := 1) (i' := 63) (Or.inr (by omega)), mup_n (a := 1) (i' := 63) (Or.inr (by omega)), wr_n (x := t 1 63 + 1) (by omega), lm_s, gd_t (by decide), mup_e rfl rfl, mup_e rfl rfl]
        refine Sim.eq rfl rfl rfl ?_
        have e1 : mup (mup (mup t 1 (222 + 2 * t 1 63) m) 1 (222 + 2 * t 1 63 + 1) r) 1 63 (t 1 63 + 1) 1 = up (up (up (t 1) (222 + 2 * t 1 63) m) (222 + 2 * t 1 63 + 1) r) 63 (t 1 63 + 1) := by rw [mup_row, mup_row, mup_row]
        have hh := hX.clu (s' := mup (mup (mup s 32 (t 1 63) m) 33 (t 1 63) r) 31 4 (t 1 63 + 1)) (w' := up (up (up (t 1) (222 + 2 * t 1 63) m) (222 + 2 * t 1 63 + 1) r) 63 (t 1 63 + 1)) hW ⟨by rw [mup_e rfl rfl, up_eq rfl], fun i g1 g2 => ?_⟩ ⟨by rw [up_eq rfl]; omega, fun i g1 g2 => ?_⟩ (fun c q1 q2 q3 => by rw [mup_o q1, mup_o q3, mup_o q2]) (fun i q1 q2 => by rw [up_ne q1, up_ne (by omega), up_ne (by omega)])
        · exact h.wo (by rw [e1]; exact hh.1) (by rw [e1]; exact hh.2) (fun c q => by rw [mup_o (by omega), mup_o (by omega), mup_o (by omega)]) (fun i q => by rw [e1, up_ne (by omega), up_ne (by omega), up_ne (by omega)]) (fun c q => by rw [mup_o q, mup_o q, mup_o q])
        · rw [up_eq rfl] at g2
          by_cases e : i = t 1 63
          · subst e
            refine ⟨?_, ?_⟩
            · rw [mup_o (by decide), mup_o (by decide), mup_e rfl rfl, up_ne (by omega), up_ne (by omega), up_eq rfl]
            · rw [mup_o (by decide), mup_e rfl rfl, up_ne (by omega), up_eq rfl]
          · have q := l2 i g1 (by omega)
            refine ⟨?_, ?_⟩
            · rw [mup_o (by decide), mup_o (by decide), mup_n (Or.inr e), up_ne (by omega), up_ne (by omega), up_ne (by omega)]
              exact q.1
            · rw [mup_o (by decide), mup_n (Or.inr e), mup_o (by decide), up_ne (by omega), up_ne (by omega), up_ne (by omega)]
              exact q.2
        · rw [up_eq rfl] at g2
          by_cases e : i = t 1 63
          · subst e
            refine ⟨?_, ?_⟩
            · rw [up_ne (by omega), up_ne (by omega), up_eq rfl]
              exact hm
            · rw [up_ne (by omega), up_eq rfl]
              exact hr
          · have q := m2 i g1 (by omega)
            refine ⟨?_, ?_⟩
            · rw [up_ne (by omega), up_ne (by omega), up_ne (by omega)]
              exact q.1
            · rw [up_ne (by omega), up_ne (by omega), up_ne (by omega)]
              exact q.2
    simp only [jn_s, e_within, e_isIn, bd_s, bI_z, l1]
    by_cases c0 : m = 0 ∨ m = 1
    · rw [if_pos (show m < 2 by omega)]
      rw [if_pos (show 0 ≤ m ∧ m ≤ 30 by omega)]
      rcases c0 with e | e
      · rw [if_pos e]
        by_cases cr : 0 ≤ r ∧ r ≤ 1000
        · rw [if_pos cr, if_pos cr]
          exact go (by omega) cr
        · rw [if_neg cr, if_neg cr, bd_s]
          exact no
      · rw [if_neg (show ¬ m = 0 by omega), if_pos e]
        by_cases cr : 0 ≤ r ∧ r ≤ 1000
        · rw [if_pos cr, if_pos cr]
          exact go (by omega) cr
        · rw [if_neg cr, if_neg cr, bd_s]
          exact no
    · rw [if_neg (show ¬ m = 0 by omega), if_neg (show ¬ m = 1 by omega)]
      by_cases cm : 2 ≤ m ∧ m ≤ 30
      · rw [if_neg (show ¬ m < 2 by omega), if_pos (show 0 ≤ m ∧ m ≤ 30 by omega), if_pos cm, wr_n (x := m - 1) (by omega)]
        by_cases cr : 0 ≤ r ∧ r ≤ m - 1
        · rw [if_pos cr, if_pos cr]
          first | rw [if_neg (by decide)] | skip
          exact go (by omega) (by omega)
        · rw [if_neg cr, if_neg cr, bd_s]
          first | rw [if_pos rfl] | skip
          exact no
      · rw [if_neg cm]
        have e : ∀ x y : Res, (if 0 ≤ m ∧ m ≤ 30 then x else y) = y := fun x y => if_neg (by omega)
        simp only [e, ite_self, bd_s]
        first | rw [if_pos rfl] | skip
        exact no
theorem k_look (h : IV s t) (k : Int) : Sim (f_X11_look 0 k s) (f_X12_look 0 k t) := by
  unfold f_X11_look f_X12_look
  obtain ⟨lw, hX, hW⟩ := h.1
  have e10 : s 12 4 = t 1 59 := hX.2.2.1.1.trans hW.2.2.1.1.symm
  simp only [Nat.zero_add, Nat.reduceAdd]
  by_cases k0 : k = 0
  · rw [if_pos k0, if_pos k0, gd_t (by decide), h.nr.boats]
    exact Sim.rf h _
  rw [if_neg k0, if_neg k0]
  by_cases k0 : k = 1
  · rw [if_pos k0, if_pos k0, gd_t (by decide), h.nr.hour]
    exact Sim.rf h _
  rw [if_neg k0, if_neg k0]
  by_cases k0 : k = 2
  · rw [if_pos k0, if_pos k0, gd_t (by decide), h.nr.fog]
    exact Sim.rf h _
  rw [if_neg k0, if_neg k0]
  by_cases k0 : k = 3
  · rw [if_pos k0, if_pos k0, gd_t (by decide), h.nr.drums]
    exact Sim.rf h _
  rw [if_neg k0, if_neg k0]
  by_cases k0 : k = 4
  · rw [if_pos k0, if_pos k0, gd_t (by decide), h.nr.alarm]
    exact Sim.rf h _
  rw [if_neg k0, if_neg k0]
  by_cases k0 : k = 5
  · rw [if_pos k0, if_pos k0, gd_t (by decide), h.nr.fire]
    exact Sim.rf h _
  rw [if_neg k0, if_neg k0]
  by_cases k0 : k = 6
  · rw [if_pos k0, if_pos k0, gd_t (by decide), h.nr.arrows]
    exact Sim.rf h _
  rw [if_neg k0, if_neg k0]
  by_cases k0 : k = 7
  · rw [if_pos k0, if_pos k0, bd_e (c_allLost h.nr h.wn), bd_e (m_lostOnes h.wn)]
    exact Sim.rf h _
  rw [if_neg k0, if_neg k0]
  by_cases k0 : k = 8
  · rw [if_pos k0, if_pos k0, gd_t (by decide), h.nr.written]
    exact Sim.rf h _
  rw [if_neg k0, if_neg k0]
  by_cases k0 : k = 9
  · rw [if_pos k0, if_pos k0, gd_t (by decide), h.nr.draws]
    exact Sim.rf h _
  rw [if_neg k0, if_neg k0]
  by_cases k0 : k = 10
  · rw [if_pos k0, if_pos k0, gd_t (by decide), e10]
    exact Sim.rf h _
  rw [if_neg k0, if_neg k0]
  by_cases k0 : k = 11
  · rw [if_pos k0, if_pos k0, gd_t (by decide), h.cur.1.1]
    exact Sim.rf h _
  rw [if_neg k0, if_neg k0]
  by_cases k0 : k = 12
  · rw [if_pos k0, if_pos k0, gd_t (by decide), h.plan.1.1]
    exact Sim.rf h _
  rw [if_neg k0, if_neg k0]
  by_cases k0 : k = 13
  · rw [if_pos k0, if_pos k0, gd_t (by decide), h.vil.1.1]
    exact Sim.rf h _
  rw [if_neg k0, if_neg k0]
  by_cases k0 : k = 14
  · rw [if_pos k0, if_pos k0, gd_t (by decide), h.clu.1.1]
    exact Sim.rf h _
  rw [if_neg k0, if_neg k0]
  by_cases k0 : k = 15
  · rw [if_pos k0, if_pos k0, gd_t (by decide), h.led.1.1]
    exact Sim.rf h _
  rw [if_neg k0, if_neg k0]
  by_cases k0 : k = 16
  · rw [if_pos k0, if_pos k0, h.2.2.1.1]
    exact Sim.rf h _
  rw [if_neg k0, if_neg k0]
  exact Sim.rf h _
end
/-! crowd -/
theorem sAt_in {w : Int → Int} (hw : WN w) (r : Int) : 0 ≤ sAt w r ∧ sAt w r ≤ 10 := by
  have h58 := hw.boats
  have h := fo_in (g := sAtG w r) (fun i x => 0 ≤ x ∧ x ≤ i) (N := w 58) (fun x i h1 h2 hx => by unfold sAtG; split <;> omega) (w 58).toNat 0 0 (by decide) (by omega) ⟨by decide, by decide⟩
  unfold sAt
  omega
theorem sAt_neg {w : Int → Int} (hw : WN w) : sAt w (-1) = 0 := by
  have h58 := hw.boats
  have h := fo_in (g := sAtG w (-1)) (fun i x => x = 0) (N := w 58) (fun x i h1 h2 hx => by
    unfold sAtG
    by_cases c : afl w i ∧ w (7 + i) = -1
    · have := hw.reach (afl_10 hw c.1)
      omega
    · rw [if_neg c]
      exact hx) (w 58).toNat 0 0 (by decide) (by omega) rfl
  exact h
def gFull (w : Int → Int) (i : Int) (p : Int × Int) : Int × Int := if p.2 < sAt w i then (i, sAt w i) else p
def gNear (w : Int → Int) (i : Int) (x : Int) : Int := if 0 < sAt w i then wr (x + w (85 + i)) else x
def gCrw (w : Int → Int) (i : Int) (p : Int × Int) : Int × Int := (if sAt w p.1 < sAt w i then i else p.1, gNear w i p.2)
def sFull (w : Int → Int) : Int × Int := fo (gFull w) 16 0 (-1, 0)
def sNear (w : Int → Int) : Int := fo (gNear w) 16 0 0
def sCrw (w : Int → Int) : Int × Int := fo (gCrw w) 16 0 (0, 0)
theorem crw_rel {w : Int → Int} (hw : WN w) : ∀ (j : Nat) (i : Int) (p q : Int × Int), 0 ≤ i → i + j = 16 → ((i = 0 ∧ p.1 = -1 ∧ p.2 = 0 ∧ q.1 = 0) ∨ (0 < i ∧ p.1 = -1 ∧ p.2 = 0 ∧ q.1 = 0 ∧ sAt w 0 = 0) ∨ (p.1 = q.1 ∧ 0 ≤ p.1 ∧ p.2 = sAt w p.1 ∧ 0 < p.2)) →
    (((fo (gFull w) j i p).1 = -1 ∧ (fo (gCrw w) j i q).1 = 0 ∧ sAt w 0 = 0) ∨ ((fo (gFull w) j i p).1 = (fo (gCrw w) j i q).1 ∧ 0 ≤ (fo (gFull w) j i p).1 ∧ 0 < sAt w (fo (gFull w) j i p).1)) ∧ (fo (gCrw w) j i q).2 = fo (gNear w) j i q.2 := by
  intro j
  induction j with
  | zero =>
    intro i p q h1 h2 h
    refine ⟨?_, rfl⟩
    show (p.1 = -1 ∧ q.1 = 0 ∧ sAt w 0 = 0) ∨ (p.1 = q.1 ∧ 0 ≤ p.1 ∧ 0 < sAt w p.1)
    rcases h with h | h | h
    · omega
    · exact Or.inl ⟨h.2.1, h.2.2.2.1, h.2.2.2.2⟩
    · exact Or.inr ⟨h.1, h.2.1, by rw [← h.2.2.1]; exact h.2.2.2⟩
  | succ j ih =>
    intro i p q h1 h2 h
    refine ih (i + 1) (gFull w i p) (gCrw w i q) (by omega) (by omega) ?_
    have hi := sAt_in hw i
    unfold gFull gCrw
    rcases h with ⟨a1, a2, a3, a4⟩ | ⟨a1, a2, a3, a4, a5⟩ | ⟨a1, a2, a3, a4⟩
    · subst a1
      rw [a4, if_neg (show ¬ sAt w 0 < sAt w 0 by omega), a3]
      by_cases c : 0 < sAt w 0
      · rw [if_pos c]
        exact Or.inr (Or.inr ⟨rfl, Int.le_refl 0, rfl, c⟩)
      · rw [if_neg c]
        exact Or.inr (Or.inl ⟨by decide, a2, a3, rfl, by omega⟩)
    · rw [a4, a3, a5]
      by_cases c : 0 < sAt w i
      · rw [if_pos c, if_pos c]
        exact Or.inr (Or.inr ⟨rfl, h1, rfl, c⟩)
      · rw [if_neg c, if_neg c]
        exact Or.inr (Or.inl ⟨by omega, a2, a3, rfl, rfl⟩)
    · rw [← a1, ← a3]
      by_cases c : p.2 < sAt w i
      · rw [if_pos c, if_pos c]
        exact Or.inr (Or.inr ⟨rfl, h1, rfl, by show 0 < sAt w i; omega⟩)
      · rw [if_neg c, if_neg c]
        exact Or.inr (Or.inr ⟨rfl, a2, a3, a4⟩)
section
variable {s t : Mem}
theorem c_full {n : Nat} {w : Int → Int} (h : NR s n w) (hw : WN w) : f_X4_fullestReach n s = some ((sFull w).1, s) := by
  unfold f_X4_fullestReach
  rw [jn_s]
  refine (fold1 (F := fun n' (p : Int × Int) i s => f_X4_fullestReach_6 n (fun v1 s2 => some (v1, s2)) n' p.1 p.2 i s) (k := fun p s2 => some (p.1, s2)) (s := s) (N := 16) (g := gFull w) (fun _ _ => True) (fun m x i h1 h2 _ => ⟨?_, trivial⟩) (fun m x _ => ?_) 16 FU (-1, 0) 0 (fu_lt (by omega)) (by decide) (by decide) trivial).1
  · show f_X4_fullestReach_6 _ _ _ _ _ _ _ = _
    rw [f_X4_fullestReach_6, if_pos h2, bd_e (c_boatsAt h hw i), jn_s, wr_n (x := i + 1) (by omega)]
    unfold gFull
    by_cases c : x.2 < sAt w i
    · rw [if_pos c, if_pos c]
    · rw [if_neg c, if_neg c]
  · show f_X4_fullestReach_6 _ _ _ _ _ _ _ = _
    rw [f_X4_fullestReach_6, if_neg (by decide)]
theorem c_near {n : Nat} {w : Int → Int} (h : NR s n w) (hw : WN w) : f_X4_archersNear n s = some (sNear w, s) := by
  unfold f_X4_archersNear
  rw [jn_s]
  refine (fold1 (F := fun n' x i s => f_X4_archersNear_4 n (fun v1 s2 => some (v1, s2)) n' x i s) (k := fun p s2 => some (p, s2)) (s := s) (N := 16) (g := gNear w) (fun _ _ => True) (fun m x i h1 h2 _ => ⟨?_, trivial⟩) (fun m x _ => ?_) 16 FU 0 0 (fu_lt (by omega)) (by decide) (by decide) trivial).1
  · show f_X4_archersNear_4 _ _ _ _ _ _ = _
    rw [f_X4_archersNear_4, if_pos h2, bd_e (c_boatsAt h hw i), jn_s, wr_n (x := i + 1) (by omega)]
    unfold gNear
    by_cases c : 0 < sAt w i
    · rw [if_pos c, if_pos c, gd_t (by omega), h.archers (by omega)]
    · rw [if_neg c, if_neg c]
  · show f_X4_archersNear_4 _ _ _ _ _ _ = _
    rw [f_X4_archersNear_4, if_neg (by decide)]
theorem m_crw {k : Int → Int → Mem → Res} (hw : WN (t 1)) : f_X12_crowd_18 0 k FU 0 0 0 t = k (sCrw (t 1)).1 (sCrw (t 1)).2 t := by
  refine (fold1 (F := fun n' (p : Int × Int) i s => f_X12_crowd_18 0 k n' p.1 p.2 i s) (k := fun p s2 => k p.1 p.2 s2) (s := t) (N := 16) (g := gCrw (t 1)) (fun _ p => InR p.2) (fun m x i h1 h2 hx => ⟨?_, ?_⟩) (fun m x _ => ?_) 16 FU (0, 0) 0 (fu_lt (by omega)) (by decide) (by decide) inr_0).1
  · show f_X12_crowd_18 _ _ _ _ _ _ _ = _
    rw [f_X12_crowd_18, if_pos h2, bd_e (m_boatsAt hw i), bd_e (m_boatsAt hw x.1), jn_s, wr_n (x := i + 1) (by omega)]
    have fin : ∀ y : Int, bd (f_X12_boatsAt 0 i t) (fun r20 s21 => jn (fun (y22 : Int) => f_X12_crowd_18 0 k m y (wr (x.2 + y22)) (i + 1) s21) fun j70 => if 0 < r20 then (gd ((0 : Int) ≤ wr (85 + i) ∧ wr (85 + i) < 1732) (j70 (s21 (0 + 1) (wr (85 + i))))) else (j70 0)) = f_X12_crowd_18 0 k m y (gNear (t 1) i x.2) (i + 1) t := by
      intro y
      rw [bd_e (m_boatsAt hw i), jn_s, wr_n (x := 85 + i) (by omega)]
      unfold gNear
      by_cases c : 0 < sAt (t 1) i
      · rw [if_pos c, if_pos c, gd_t (by omega)]
      · rw [if_neg c, if_neg c]
        show f_X12_crowd_18 0 k m y (wr (x.2 + 0)) (i + 1) t = _
        rw [Int.add_zero, wr_id hx]
    unfold gCrw
    by_cases c : sAt (t 1) x.1 < sAt (t 1) i
    · rw [if_pos c, if_pos c]
      exact fin i
    · rw [if_neg c, if_neg c]
      exact fin x.1
  · show InR (gNear (t 1) i x.2)
    unfold gNear
    split
    · exact inr_wr _
    · exact hx
  · show f_X12_crowd_18 _ _ _ _ _ _ _ = _
    rw [f_X12_crowd_18, if_neg (by decide)]
theorem k_crowd (h : IV s t) (what : Int) : Sim (f_X11_crowd 0 what s) (f_X12_crowd 0 what t) := by
  have hw := h.wn
  obtain ⟨r1, r2⟩ := crw_rel hw 16 0 (-1, 0) (0, 0) (by decide) (by decide) (Or.inl ⟨rfl, rfl, rfl, rfl⟩)
  have f1 : fo (gFull (t 1)) 16 0 (-1, 0) = sFull (t 1) := rfl
  have f2 : fo (gCrw (t 1)) 16 0 (0, 0) = sCrw (t 1) := rfl
  have f3 : fo (gNear (t 1)) 16 0 0 = sNear (t 1) := rfl
  rw [f1, f2] at r1
  rw [f2] at r2
  unfold f_X11_crowd f_X12_crowd
  simp only [Nat.zero_add, Nat.reduceAdd]
  rw [bd_e (e_isIn _ _ _ _), bI_z, jn_s, m_crw hw]
  by_cases k0 : what = 0
  · rw [if_pos k0, if_pos (by omega), if_neg (by omega), if_neg (by omega), bd_e (c_full h.nr hw), bd_e (m_boatsAt hw _)]
    rcases r1 with ⟨a1, a2, a3⟩ | ⟨a1, a2, a3⟩
    · rw [a2, a3, if_pos rfl, a1]
      exact Sim.rf h _
    · rw [← a1, if_neg (by omega)]
      exact Sim.rf h _
  · rw [if_neg k0]
    by_cases k1 : what = 1
    · rw [if_pos k1, if_pos (by omega), if_neg (by omega), if_pos k1, bd_e (c_full h.nr hw), bd_e (c_boatsAt h.nr hw _), bd_e (m_boatsAt hw _)]
      rcases r1 with ⟨a1, a2, a3⟩ | ⟨a1, a2, a3⟩
      · rw [a2, a3, a1, sAt_neg hw]
        exact Sim.rf h _
      · rw [← a1]
        exact Sim.rf h _
    · rw [if_neg k1]
      by_cases k2 : what = 2
      · rw [if_pos k2, if_pos (by omega), if_pos k2, bd_e (c_near h.nr hw), r2, f3]
        exact Sim.rf h _
      · rw [if_neg k2, if_neg (by omega)]
        exact Sim.rf h _
end

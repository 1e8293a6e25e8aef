/-! ===== L3: villages: buys ===== -/
theorem bt_01 (x v : Int) : bt x v = 0 ∨ bt x v = 1 := by
  have h := iand_le (y := 1) (ishr x v) (by decide)
  have e : bt x v = iand (ishr x v) ((1 : Nat) : Int) := rfl
  rw [e]
  omega
theorem bt_hi {x k : Nat} (hx : x < 4096) (hk : 12 ≤ k ∧ k < 32) : bt (x : Int) (k : Int) = 0 := by
  rw [n_bt (by omega) hk.2, if_neg]
  rw [Nat.testBit_lt_two_pow (Nat.lt_of_lt_of_le hx (Nat.le_trans (show 4096 ≤ 2 ^ 12 by decide) (Nat.pow_le_pow_right (by decide) hk.1)))]
  decide
theorem pc_in (x : Int) : 0 ≤ pc x ∧ pc x ≤ 12 := by
  unfold pc
  have h := bt_01 x
  have h0 := h 0
  have h1 := h 1
  have h2 := h 2
  have h3 := h 3
  have h4 := h 4
  have h5 := h 5
  have h6 := h 6
  have h7 := h 7
  have h8 := h 8
  have h9 := h 9
  have h10 := h 10
  have h11 := h 11
  omega
theorem modp (T i : Nat) : T % 2 ^ (i + 1) = T % 2 ^ i + 2 ^ i * (T.testBit i).toNat := by
  rw [Nat.mod_pow_succ, Nat.testBit_eq_decide_div_mod_eq]
  rcases (show T / 2 ^ i % 2 = 0 ∨ T / 2 ^ i % 2 = 1 by omega) with h | h
  · rw [h]
    rfl
  · rw [h]
    rfl
def gC0 (x i a : Int) : Int := a + bt x i
section
variable {s t : Mem}
theorem m_count0 {x : Nat} (hx : x < 4096) : f_X12_count0 (x : Int) t = some (pc (x : Int), t) := by
  unfold f_X12_count0
  rw [jn_s]
  have h := (fold1 (F := fun n' a i (_ : Mem) => f_X12_count0_4 (x : Int) (fun v1 => some (v1, t)) t n' a i) (k := fun v1 _ => some (v1, t)) (s := t) (N := 16) (g := gC0 (x : Int)) (fun i a => 0 ≤ a ∧ a ≤ i) (fun m a i h1 h2 ha => ⟨by
    show f_X12_count0_4 _ _ _ _ _ _ = _
    have hb := bt_01 (x : Int) i
    have eb : iand (ishr (x : Int) i) 1 = bt (x : Int) i := rfl
    rw [f_X12_count0_4, if_pos h2, eb, wr_n (x := i + 1) (by omega), wr_n (x := a + bt (x : Int) i) (by omega)]
    rfl, by
    have hb := bt_01 (x : Int) i
    unfold gC0
    omega⟩) (fun m a _ => by
    show f_X12_count0_4 _ _ _ _ _ _ = _
    rw [f_X12_count0_4, if_neg (by omega)]) 16 FU 0 0 (fu_lt (by omega)) (by decide) (by decide) ⟨by decide, by decide⟩).1
  refine Eq.trans h ?_
  have e : fo (gC0 (x : Int)) 16 0 0 = 0 + bt (x : Int) 0 + bt (x : Int) 1 + bt (x : Int) 2 + bt (x : Int) 3 + bt (x : Int) 4 + bt (x : Int) 5 + bt (x : Int) 6 + bt (x : Int) 7 + bt (x : Int) 8 + bt (x : Int) 9 + bt (x : Int) 10 + bt (x : Int) 11 + bt (x : Int) 12 + bt (x : Int) 13 + bt (x : Int) 14 + bt (x : Int) 15 := rfl
  have b12 : bt (x : Int) 12 = 0 := bt_hi (k := 12) hx (by decide)
  have b13 : bt (x : Int) 13 = 0 := bt_hi (k := 13) hx (by decide)
  have b14 : bt (x : Int) 14 = 0 := bt_hi (k := 14) hx (by decide)
  have b15 : bt (x : Int) 15 = 0 := bt_hi (k := 15) hx (by decide)
  have e2 : fo (gC0 (x : Int)) 16 0 0 = pc (x : Int) := by
    rw [e, b12, b13, b14, b15]
    unfold pc
    omega
  rw [e2]
/-- all that are told -/
theorem c_allTold (h : IV s t) : f_X9_allTold 27 s = some (t 1 197, s) := by
  obtain ⟨v1, v2, v3⟩ := h.vil.2
  obtain ⟨T, eT⟩ : ∃ T : Nat, t 1 197 = (T : Int) := ⟨(t 1 197).toNat, by omega⟩
  have hT : T < 4096 := by omega
  have key : ∀ (j fu i : Nat), j < fu → i + j = 12 → f_X9_allTold_4 27 (fun v1 s2 => some (v1, s2)) fu ((T % 2 ^ i : Nat) : Int) i s = some ((T : Int), s) := by
    intro j
    induction j with
    | zero =>
      intro fu i h1 h2
      cases fu with
      | zero => exact absurd h1 (Nat.not_lt_zero _)
      | succ fu =>
        have e : i = 12 := by omega
        subst e
        rw [f_X9_allTold_4, if_neg (by decide), Nat.mod_eq_of_lt (show T < 2 ^ 12 from hT)]
    | succ j ih =>
      intro fu i h1 h2
      cases fu with
      | zero => exact absurd h1 (Nat.not_lt_zero _)
      | succ fu =>
        have en : wr ((i : Int) + 1) = ((i + 1 : Nat) : Int) := wr_n (by omega)
        have hv := (v3 i (by omega) (by omega)).2.1
        rw [eT, n_bt (by omega) (by omega)] at hv
        rw [f_X9_allTold_4, if_pos (by omega), bd_e (c_isTold h i), jn_s, bI_z, en]
        have nx := ih fu (i + 1) (by omega) (by omega)
        rw [modp] at nx
        by_cases c : isV (t 1) i
        · have hb : T.testBit i = true := by
            by_cases q : T.testBit i = true
            · exact q
            · rw [if_neg q] at hv
              have := hv.mpr c.2
              omega
          rw [if_pos c, (setb_e (b := i) (x := T % 2 ^ i) (by omega) (Nat.mod_lt _ (Nat.pow_pos (by decide)))).1]
          rw [hb] at nx
          have e : 2 ^ i * true.toNat = 2 ^ i := Nat.mul_one _
          rw [e] at nx
          exact nx
        · have hb : T.testBit i = false := by
            by_cases q : T.testBit i = true
            · exfalso
              rw [if_pos q] at hv
              exact c ⟨by omega, hv.mp rfl⟩
            · exact Bool.not_eq_true _ ▸ q
          rw [if_neg c]
          rw [hb] at nx
          have e : 2 ^ i * false.toNat = 0 := Nat.mul_zero _
          rw [e, Nat.add_zero] at nx
          exact nx
  unfold f_X9_allTold
  rw [jn_s, eT]
  have k0 := key 12 FU 0 (fu_lt (by omega)) (by omega)
  rw [Nat.pow_zero, Nat.mod_one] at k0
  exact k0
def gStr (w : Int → Int) (x v a : Int) : Int := if bt x v = 1 then a + w (198 + v) else a
def sStr (w : Int → Int) (x : Int) : Int := fo (gStr w x) 12 0 0
def qtr (w : Int → Int) (x : Int) : Nat → Int → Prop
  | 0, _ => True
  | j + 1, i => (bt x i = 1 → iand (w (210 + i)) x = 0) ∧ qtr w x j (i + 1)
theorem c_strawOf (h : IV s t) (x : Int) : f_X9_strawOf 27 x s = some (sStr (t 1) x, s) := by
  obtain ⟨v1, v2, v3⟩ := h.vil.2
  unfold f_X9_strawOf
  rw [jn_s]
  refine (fold1 (F := fun n' a i (_ : Mem) => f_X9_strawOf_4 27 x (fun v1 => some (v1, s)) s n' a i) (k := fun v1 _ => some (v1, s)) (s := s) (N := 12) (g := gStr (t 1) x) (fun i a => 0 ≤ a ∧ a ≤ 99 * i) (fun m a i h1 h2 ha => ?_) (fun m a _ => ?_) 12 FU 0 0 (fu_lt (by omega)) (by decide) (by decide) ⟨by decide, by decide⟩).1
  · have hv := (v3 i h1 h2).1
    have e28 : s (27 + 1) i = t 1 (198 + i) := (h.vil.1.2 i h1 h2).1
    refine ⟨?_, ?_⟩
    · show f_X9_strawOf_4 _ _ _ _ _ _ _ = _
      have eb : iand (ishr x i) 1 = bt x i := rfl
      rw [f_X9_strawOf_4, if_pos h2, jn_s, eb, e28, wr_n (x := i + 1) (by omega), wr_n (x := a + t 1 (198 + i)) (by omega)]
      unfold gStr
      by_cases c : bt x i = 1
      · rw [if_pos c, if_pos c, gd_t (by omega)]
      · rw [if_neg c, if_neg c]
    · unfold gStr
      split
      · omega
      · omega
  · show f_X9_strawOf_4 _ _ _ _ _ _ _ = _
    rw [f_X9_strawOf_4, if_neg (by omega)]
theorem c_isQuiet (h : IV s t) (x : Int) : (qtr (t 1) x 12 0 → f_X9_isQuiet 27 x s = some (1, s)) ∧ (¬ qtr (t 1) x 12 0 → f_X9_isQuiet 27 x s = some (0, s)) := by
  have key : ∀ (j fu : Nat) (i : Int), j < fu → 0 ≤ i → i + j = 12 → (qtr (t 1) x j i → f_X9_isQuiet_2 27 x (fun _ => some (1, s)) s fu i = some (1, s)) ∧ (¬ qtr (t 1) x j i → f_X9_isQuiet_2 27 x (fun _ => some (1, s)) s fu i = some (0, s)) := by
    intro j
    induction j with
    | zero =>
      intro fu i h1 h2 h3
      cases fu with
      | zero => exact absurd h1 (Nat.not_lt_zero _)
      | succ fu =>
        rw [f_X9_isQuiet_2, if_neg (by omega)]
        exact ⟨fun _ => rfl, fun q => absurd trivial q⟩
    | succ j ih =>
      intro fu i h1 h2 h3
      cases fu with
      | zero => exact absurd h1 (Nat.not_lt_zero _)
      | succ fu =>
        have e29 : s (27 + 2) i = t 1 (210 + i) := (h.vil.1.2 i h2 (by omega)).2
        have eb : iand (ishr x i) 1 = bt x i := rfl
        obtain ⟨b1, b2⟩ := ih fu (i + 1) (by omega) (by omega) (by omega)
        rw [f_X9_isQuiet_2, if_pos (by omega), jn_s, eb, e29, wr_n (x := i + 1) (by omega)]
        refine ⟨fun q => ?_, fun q => ?_⟩
        · by_cases c : bt x i = 1
          · rw [if_pos c, gd_t (by omega), if_pos (q.1 c)]
            exact b1 q.2
          · rw [if_neg c]
            exact b1 q.2
        · by_cases c : bt x i = 1
          · rw [if_pos c, gd_t (by omega)]
            by_cases c2 : iand (t 1 (210 + i)) x = 0
            · rw [if_pos c2]
              exact b2 (fun z => q ⟨fun _ => c2, z⟩)
            · rw [if_neg c2]
          · rw [if_neg c]
            exact b2 (fun z => q ⟨fun y => absurd y c, z⟩)
  unfold f_X9_isQuiet
  rw [jn_s]
  exact key 12 FU 0 (fu_lt (by omega)) (by decide) (by decide)
theorem m_grown (h : IV s t) (x : Int) : (qtr (t 1) x 12 0 → f_X12_grownIn 0 x t = some (sStr (t 1) x, t)) ∧ (¬ qtr (t 1) x 12 0 → f_X12_grownIn 0 x t = some (-1, t)) := by
  obtain ⟨v1, v2, v3⟩ := h.vil.2
  have key : ∀ (j fu : Nat) (i a : Int), j < fu → 0 ≤ i → i + j = 12 → (0 ≤ a ∧ a ≤ 99 * i) → (qtr (t 1) x j i → f_X12_grownIn_4 0 x (fun v1 => some (v1, t)) t fu a i = some (fo (gStr (t 1) x) j i a, t)) ∧ (¬ qtr (t 1) x j i → f_X12_grownIn_4 0 x (fun v1 => some (v1, t)) t fu a i = some (-1, t)) := by
    intro j
    induction j with
    | zero =>
      intro fu i a h1 h2 h3 ha
      cases fu with
      | zero => exact absurd h1 (Nat.not_lt_zero _)
      | succ fu =>
        rw [f_X12_grownIn_4, if_neg (by omega)]
        exact ⟨fun _ => rfl, fun q => absurd trivial q⟩
    | succ j ih =>
      intro fu i a h1 h2 h3 ha
      cases fu with
      | zero => exact absurd h1 (Nat.not_lt_zero _)
      | succ fu =>
        have hv := (v3 i h2 (by omega)).1
        have eb : iand (ishr x i) 1 = bt x i := rfl
        have hb := bt_01 x i
        have hs : fo (gStr (t 1) x) (j + 1) i a = fo (gStr (t 1) x) j (i + 1) (gStr (t 1) x i a) := rfl
        obtain ⟨b1, b2⟩ := ih fu (i + 1) (gStr (t 1) x i a) (by omega) (by omega) (by omega) (by unfold gStr; split <;> omega)
        unfold gStr at b1 b2 hs
        rw [f_X12_grownIn_4, if_pos (by omega), jn_s, eb, Nat.zero_add, wr_n (x := i + 1) (by omega), wr_n (x := 210 + i) (by omega), wr_n (x := 198 + i) (by omega), wr_n (x := a + t 1 (198 + i)) (by omega), gd_t (by omega), gd_t (by omega)]
        unfold gStr
        refine ⟨fun q => ?_, fun q => ?_⟩
        · rw [hs]
          by_cases c : bt x i = 1
          · rw [if_neg (by omega), if_pos (q.1 c)]
            rw [if_pos c] at b1 ⊢
            exact b1 q.2
          · rw [if_pos (by omega)]
            rw [if_neg c] at b1 ⊢
            exact b1 q.2
        · by_cases c : bt x i = 1
          · rw [if_neg (by omega)]
            by_cases c2 : iand (t 1 (210 + i)) x = 0
            · rw [if_pos c2]
              rw [if_pos c] at b2
              exact b2 (fun z => q ⟨fun _ => c2, z⟩)
            · rw [if_neg c2]
          · rw [if_pos (by omega)]
            rw [if_neg c] at b2
            exact b2 (fun z => q ⟨fun y => absurd y c, z⟩)
  unfold f_X12_grownIn
  rw [jn_s]
  exact key 12 FU 0 0 (fu_lt (by omega)) (by decide) (by decide) (by decide)
noncomputable def gBy (w : Int → Int) (n x best : Int) : Int := (have := Classical.propDecidable (qtr w x 12 0); if (best = -1 ∨ pc x < pc best) ∧ iand x (ixor (w 197) (-1)) = 0 ∧ qtr w x 12 0 ∧ n ≤ sStr w x then x else best)
theorem gBy_t {w : Int → Int} {n x best : Int} (h : (best = -1 ∨ pc x < pc best) ∧ iand x (ixor (w 197) (-1)) = 0 ∧ qtr w x 12 0 ∧ n ≤ sStr w x) : gBy w n x best = x := if_pos h
theorem gBy_f {w : Int → Int} {n x best : Int} (h : ¬ ((best = -1 ∨ pc x < pc best) ∧ iand x (ixor (w 197) (-1)) = 0 ∧ qtr w x 12 0 ∧ n ≤ sStr w x)) : gBy w n x best = best := if_neg h
theorem c_buys (h : IV s t) {n : Int} : f_X9_fewestWith 27 n s = some (fo (gBy (t 1) n) 4095 1 (-1), s) := by
  unfold f_X9_fewestWith
  rw [bd_e (c_allTold h), jn_s]
  refine (fold1 (F := fun n' b x s => f_X9_fewestWith_10 27 n (t 1 197) (fun v3 s4 => some (v3, s4)) n' b x s) (k := fun v3 s4 => some (v3, s4)) (s := s) (N := 4096) (g := gBy (t 1) n) (fun _ b => b = -1 ∨ (0 ≤ b ∧ b < 4096)) (fun m b x h1 h2 hb => ⟨?_, ?_⟩) (fun m b _ => ?_) 4095 FU (-1) 1 (fu_lt (by omega)) (by decide) (by decide) (Or.inl rfl)).1
  · show f_X9_fewestWith_10 _ _ _ _ _ _ _ _ = _
    rw [f_X9_fewestWith_10, if_pos h2, jn_s, jn_s]
    obtain ⟨q1, q2⟩ := c_isQuiet h x
    have fin : ∀ y : Int, (y = 0 ∨ y = 1) → (y ≠ 0 ↔ (b = -1 ∨ pc x < pc b)) → (if y = 0 then f_X9_fewestWith_10 27 n (t 1 197) (fun v3 s4 => some (v3, s4)) m b (x + 1) s else (if iand x (ixor (t 1 197) (-1)) = 0 then (bd (f_X9_strawOf 27 x s) fun r12 s13 => if r12 < n then f_X9_fewestWith_10 27 n (t 1 197) (fun v3 s4 => some (v3, s4)) m b (x + 1) s13 else (bd (f_X9_isQuiet 27 x s13) fun r15 s16 => if r15 = 0 then f_X9_fewestWith_10 27 n (t 1 197) (fun v3 s4 => some (v3, s4)) m b (x + 1) s16 else f_X9_fewestWith_10 27 n (t 1 197) (fun v3 s4 => some (v3, s4)) m x (x + 1) s16)) else f_X9_fewestWith_10 27 n (t 1 197) (fun v3 s4 => some (v3, s4)) m b (x + 1) s)) = f_X9_fewestWith_10 27 n (t 1 197) (fun v3 s4 => some (v3, s4)) m (gBy (t 1) n x b) (x + 1) s := by
      intro y hy0 hy
      by_cases c0 : y = 0
      · rw [if_pos c0, gBy_f (fun z => hy.mpr z.1 c0)]
      · rw [if_neg c0]
        by_cases c1 : iand x (ixor (t 1 197) (-1)) = 0
        · rw [if_pos c1, bd_e (c_strawOf h x)]
          by_cases c2 : sStr (t 1) x < n
          · rw [if_pos c2, gBy_f (fun z => absurd z.2.2.2 (by omega))]
          · rw [if_neg c2]
            rcases Classical.em (qtr (t 1) x 12 0) with c3 | c3
            · rw [bd_e (q1 c3), if_neg (by decide), gBy_t ⟨hy.mp c0, c1, c3, by omega⟩]
            · rw [bd_e (q2 c3), if_pos rfl, gBy_f (fun z => c3 z.2.2.1)]
        · rw [if_neg c1, gBy_f (fun z => c1 z.2.1)]
    by_cases cb : b = -1
    · rw [if_pos cb]
      show (jn _ _) = _
      rw [jn_s, wr_n (x := x + 1) (by omega)]
      exact fin 1 (Or.inr rfl) ⟨fun _ => Or.inl cb, fun _ => by decide⟩
    · have hb' := hb.resolve_left cb
      rw [if_neg cb, bc_e, bd_s, bc_e, bd_s, bcv_e (x := x) (by omega), bcv_e hb']
      by_cases cp : pc x < pc b
      · rw [if_pos cp]
        show (jn _ _) = _
        rw [jn_s, wr_n (x := x + 1) (by omega)]
        exact fin 1 (Or.inr rfl) ⟨fun _ => Or.inr cp, fun _ => by decide⟩
      · rw [if_neg cp]
        show (jn _ _) = _
        rw [jn_s, wr_n (x := x + 1) (by omega)]
        exact fin 0 (Or.inl rfl) ⟨fun z => absurd rfl z, fun z => absurd z (fun z => z.elim cb cp)⟩
  · rcases Classical.em ((b = -1 ∨ pc x < pc b) ∧ iand x (ixor (t 1 197) (-1)) = 0 ∧ qtr (t 1) x 12 0 ∧ n ≤ sStr (t 1) x) with q | q
    · rw [gBy_t q]
      exact Or.inr (by omega)
    · rw [gBy_f q]
      exact hb
  · show f_X9_fewestWith_10 _ _ _ _ _ _ _ _ = _
    rw [f_X9_fewestWith_10, if_neg (by decide)]
theorem m_buys (h : IV s t) {n : Int} (hn : 1 ≤ n) {k : Int → Mem → Res} : f_X12_buys_27 0 n k FU (-1) 1 t = k (fo (gBy (t 1) n) 4095 1 (-1)) t ∧ (fo (gBy (t 1) n) 4095 1 (-1) = -1 ∨ (0 ≤ fo (gBy (t 1) n) 4095 1 (-1) ∧ fo (gBy (t 1) n) 4095 1 (-1) < 4096)) := by
  refine fold1 (F := fun n' b x s => f_X12_buys_27 0 n k n' b x s) (k := k) (s := t) (N := 4096) (g := gBy (t 1) n) (fun _ b => b = -1 ∨ (0 ≤ b ∧ b < 4096)) (fun m b x h1 h2 hb => ⟨?_, ?_⟩) (fun m b _ => ?_) 4095 FU (-1) 1 (fu_lt (by omega)) (by decide) (by decide) (Or.inl rfl)
  · show f_X12_buys_27 _ _ _ _ _ _ _ = _
    rw [f_X12_buys_27, if_pos h2, gd_t (by decide), jn_s, jn_s, Nat.zero_add, wr_n (x := x + 1) (by omega)]
    obtain ⟨q1, q2⟩ := m_grown h x
    have cnt : ∀ y : Int, 0 ≤ y → y < 4096 → f_X12_count0 y t = some (pc y, t) := by
      intro y g1 g2
      have hq := m_count0 (t := t) (x := y.toNat) (by omega)
      rw [Int.toNat_of_nonneg g1] at hq
      exact hq
    by_cases c1 : iand x (ixor (t 1 197) (-1)) = 0
    · have fin : (b = -1 ∨ pc x < pc b) → (bd (f_X12_grownIn 0 x t) fun r19 s20 => if r19 < n then f_X12_buys_27 0 n k m b (x + 1) s20 else f_X12_buys_27 0 n k m x (x + 1) s20) = f_X12_buys_27 0 n k m (gBy (t 1) n x b) (x + 1) t := by
        intro hf
        rcases Classical.em (qtr (t 1) x 12 0) with c3 | c3
        · rw [bd_e (q1 c3)]
          by_cases c2 : sStr (t 1) x < n
          · rw [if_pos c2, gBy_f (fun z => absurd z.2.2.2 (by omega))]
          · rw [if_neg c2, gBy_t ⟨hf, c1, c3, by omega⟩]
        · rw [bd_e (q2 c3), if_pos (by omega), gBy_f (fun z => c3 z.2.2.1)]
      rw [if_pos c1]
      by_cases cb : b = -1
      · rw [if_pos cb]
        exact fin (Or.inl cb)
      · have hb' := hb.resolve_left cb
        rw [if_neg cb, bd_e (cnt x (by omega) h2), bd_e (cnt b hb'.1 hb'.2)]
        by_cases cp : pc x < pc b
        · rw [if_pos cp]
          exact fin (Or.inr cp)
        · rw [if_neg cp, gBy_f (fun z => z.1.elim cb cp)]
    · rw [if_neg c1, gBy_f (fun z => c1 z.2.1)]
  · rcases Classical.em ((b = -1 ∨ pc x < pc b) ∧ iand x (ixor (t 1 197) (-1)) = 0 ∧ qtr (t 1) x 12 0 ∧ n ≤ sStr (t 1) x) with q | q
    · rw [gBy_t q]
      exact Or.inr (by omega)
    · rw [gBy_f q]
      exact hb
  · show f_X12_buys_27 _ _ _ _ _ _ _ = _
    rw [f_X12_buys_27, if_neg (by decide)]
theorem k_buys (h : IV s t) (n what : Int) : Sim (f_X11_buys 0 n what s) (f_X12_buys 0 n what t) := by
  unfold f_X11_buys f_X12_buys
  simp only [Nat.zero_add, Nat.reduceAdd]
  rw [bd_e (e_within _ _ _ _), bd_e (e_isIn _ _ _ _), bI_z, bI_z]
  by_cases c : 1 ≤ n ∧ n ≤ 999
  · rw [if_pos c, if_pos c, bd_e (e_within _ _ _ _), bd_e (e_isIn _ _ _ _), bI_z, bI_z]
    by_cases c1 : 0 ≤ what ∧ what ≤ 1
    · rw [if_pos c1, if_pos c1, bd_e (c_buys h), jn_s]
      obtain ⟨m1, m2⟩ := m_buys h c.1 (k := fun (v7 : Int) (s8 : Mem) => if v7 = (-1) then (some (v7, s8)) else (if what = 1 then (some (v7, s8)) else (bd (f_X12_count0 v7 s8) fun r11 s12 => some (r11, s12))))
      rw [m1]
      generalize fo (gBy (t 1) n) 4095 1 (-1) = r at m2 ⊢
      by_cases c0 : what = 0
      · rw [if_pos c0]
        by_cases cr : r = -1
        · rw [if_pos cr, if_pos cr]
          exact Sim.rf h _
        · have hr := m2.resolve_left cr
          have hq := m_count0 (t := t) (x := r.toNat) (by omega)
          rw [Int.toNat_of_nonneg hr.1] at hq
          rw [if_neg cr, if_neg cr, if_neg (by omega), bc_e, bd_s, bcv_e hr, bd_e hq]
          exact Sim.rf h _
      · rw [if_neg c0]
        by_cases cr : r = -1
        · rw [if_pos cr]
          exact Sim.rf h _
        · rw [if_neg cr, if_pos (by omega)]
          exact Sim.rf h _
    · rw [if_neg c1, if_neg c1]
      exact Sim.rf h _
  · rw [if_neg c, if_neg c]
    exact Sim.rf h _
end

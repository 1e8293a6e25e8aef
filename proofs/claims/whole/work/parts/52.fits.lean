/-! ===== L3: fits ===== -/
def alw (w : Int → Int) (x i : Int) : Prop := (w (222 + 2 * i) = 0 ∧ x < w (222 + 2 * i + 1)) ∨ (w (222 + 2 * i) = 1 ∧ ¬ x < w (222 + 2 * i + 1)) ∨ (1 < w (222 + 2 * i) ∧ x.tmod (w (222 + 2 * i)) = w (222 + 2 * i + 1))
def ftp (w : Int → Int) (x : Int) : Nat → Int → Prop
  | 0, _ => True
  | j + 1, i => alw w x i ∧ ftp w x j (i + 1)
def fit (w : Int → Int) (x : Int) : Prop := ftp w x (w 63).toNat 0
noncomputable def lf (w : Int → Int) : Nat → List Int
  | 0 => []
  | n + 1 => lf w n ++ (have := Classical.propDecidable (fit w (n : Int)); if fit w (n : Int) then [(n : Int)] else [])
theorem lf_s {w : Int → Int} {n : Nat} (h : fit w (n : Int)) : lf w (n + 1) = lf w n ++ [(n : Int)] := by
  show lf w n ++ _ = _
  rw [if_pos h]
theorem lf_n {w : Int → Int} {n : Nat} (h : ¬ fit w (n : Int)) : lf w (n + 1) = lf w n := by
  show lf w n ++ _ = _
  rw [if_neg h, List.append_nil]
theorem lf_in (w : Int → Int) : ∀ n : Nat, (lf w n).length ≤ n ∧ ∀ v ∈ lf w n, 0 ≤ v ∧ v < n
  | 0 => ⟨Nat.le_refl _, fun v h => by cases h⟩
  | n + 1 => by
    obtain ⟨h1, h2⟩ := lf_in w n
    rcases Classical.em (fit w (n : Int)) with h | h
    · rw [lf_s h]
      refine ⟨by rw [List.length_append]; exact Nat.add_le_add_right h1 1, fun v hv => ?_⟩
      rcases List.mem_append.mp hv with q | q
      · have := h2 v q
        omega
      · rw [List.mem_singleton] at q
        omega
    · rw [lf_n h]
      refine ⟨by omega, fun v hv => ?_⟩
      have := h2 v hv
      omega
section
variable {s t : Mem}
theorem c_allows {w : Int → Int} (hC : CluC s 31 w) (hK : WK w) {x i : Int} (hx : 0 ≤ x ∧ x ≤ 1000) (hi : 0 ≤ i ∧ i < w 63) : (alw w x i → f_X0_allows 31 x i s = some (1, s)) ∧ (¬ alw w x i → f_X0_allows 31 x i s = some (0, s)) := by
  obtain ⟨k1, k2⟩ := hK.2 i hi.1 hi.2
  have h8 := hK.1
  obtain ⟨c1, c2⟩ := hC.2 i hi.1 hi.2
  have c1' : s (31 + 1) i = w (222 + 2 * i) := c1
  have c2' : s (31 + 2) i = w (222 + 2 * i + 1) := c2
  unfold f_X0_allows alw
  rw [gd_t (by omega), c1', c2', gd_t (by omega)]
  refine ⟨fun h => ?_, fun h => ?_⟩
  · rcases h with ⟨a, b⟩ | ⟨a, b⟩ | ⟨a, b⟩
    · rw [if_pos (by omega), if_pos a, if_pos b]
    · rw [if_pos (by omega), if_neg (by omega), if_neg b, gd_t (by omega)]
    · rw [if_neg (by omega), gd_t (by omega), if_pos b, gd_t (by omega)]
  · by_cases a0 : w (222 + 2 * i) = 0
    · rw [if_pos (by omega), if_pos a0, if_neg (fun q => h (Or.inl ⟨a0, q⟩))]
    · by_cases a1 : w (222 + 2 * i) = 1
      · rw [if_pos (by omega), if_neg a0, if_pos (Decidable.byContradiction fun q => h (Or.inr (Or.inl ⟨a1, q⟩))), gd_t (by omega)]
      · rw [if_neg (by omega), gd_t a0, if_neg (fun q => h (Or.inr (Or.inr ⟨by omega, q⟩))), gd_t (by omega)]
theorem c_fit {w : Int → Int} (hC : CluC s 31 w) (hK : WK w) {x : Int} {k : Int → Mem → Res} (hx : 0 ≤ x ∧ x ≤ 1000) : ∀ (j fu : Nat) (i : Int), j + 1 < fu → 0 ≤ i → i + j = w 63 → (ftp w x j i → f_X0_fitting_16 31 x k fu 1 i s = k 1 s) ∧ (¬ ftp w x j i → f_X0_fitting_16 31 x k fu 1 i s = k 0 s) := by
  have h8 := hK.1
  have e4 : s 31 4 = w 63 := hC.1
  intro j
  induction j with
  | zero =>
    intro fu i h1 h2 h3
    cases fu with
    | zero => exact absurd h1 (Nat.not_lt_zero _)
    | succ fu =>
      rw [f_X0_fitting_16, e4, if_neg (by omega)]
      exact ⟨fun _ => rfl, fun q => absurd trivial q⟩
  | succ j ih =>
    intro fu i h1 h2 h3
    cases fu with
    | zero => exact absurd h1 (Nat.not_lt_zero _)
    | succ fu =>
      obtain ⟨a1, a2⟩ := c_allows hC hK hx (i := i) (by omega)
      obtain ⟨b1, b2⟩ := ih fu (i + 1) (by omega) (by omega) (by omega)
      rw [f_X0_fitting_16, e4, if_pos (by omega), if_neg (by decide), wr_n (x := i + 1) (by omega)]
      have z : f_X0_fitting_16 31 x k fu 0 (i + 1) s = k 0 s := by
        cases fu with
        | zero => omega
        | succ fu =>
          rw [f_X0_fitting_16, e4]
          by_cases c : i + 1 < w 63
          · rw [if_pos c, if_pos rfl]
          · rw [if_neg c]
      refine ⟨fun h => ?_, fun h => ?_⟩
      · rw [bd_e (a1 h.1)]
        exact b1 h.2
      · rcases Classical.em (alw w x i) with q | q
        · rw [bd_e (a1 q)]
          exact b2 (fun z => h ⟨q, z⟩)
        · rw [bd_e (a2 q)]
          exact z
theorem c_list {w : Int → Int} {s0 : Mem} (hC : CluC s0 31 w) (hK : WK w) {k : Int → Mem → Res} {N : Nat} (hN : N = 1000) : ∀ (j fu n : Nat) (s : Mem), j < fu → n + j = N → (∀ c : Nat, c ≠ 34 → s c = s0 c) → LsC (s 34) 0 (lf w n) → ∃ s1 : Mem, f_X0_fitting_4 31 k fu (lf w n).length n s = k (lf w N).length s1 ∧ (∀ c : Nat, c ≠ 34 → s1 c = s0 c) ∧ LsC (s1 34) 0 (lf w N) := by
  have h8 := hK.1
  intro j
  induction j with
  | zero =>
    intro fu n s h1 h2 h3 h4
    have e : n = N := by omega
    subst e
    cases fu with
    | zero => exact absurd h1 (Nat.not_lt_zero _)
    | succ fu =>
      rw [f_X0_fitting_4, if_neg (by omega)]
      exact ⟨s, rfl, h3, h4⟩
  | succ j ih =>
    intro fu n s h1 h2 h3 h4
    cases fu with
    | zero => exact absurd h1 (Nat.not_lt_zero _)
    | succ fu =>
      have hC' : CluC s 31 w := hC.of (fun c q1 q2 => h3 c (by omega)) (fun _ _ => rfl) h8.2
      have hl := (lf_in w n).1
      have en : wr ((n : Int) + 1) = ((n + 1 : Nat) : Int) := wr_n (by omega)
      rw [f_X0_fitting_4, if_pos (by omega), jn_s, en]
      rcases Classical.em (fit w (n : Int)) with q | q
      · rw [(c_fit hC' hK (x := (n : Int)) (by omega) (w 63).toNat FU 0 (fu_lt (by omega)) (by decide) (by omega)).1 q]
        show ∃ s1 : Mem, jn _ _ = _ ∧ _
        rw [jn_s, if_neg (by decide), gd_t (by omega), lm_s, wr_n (x := ((lf w n).length : Int) + 1) (by omega)]
        have el : ((lf w n).length : Int) + 1 = ((lf w (n + 1)).length : Int) := by
          rw [lf_s q, List.length_append]
          rfl
        rw [el]
        refine ih fu (n + 1) _ (by omega) (by omega) (fun c hc => by rw [mup_o hc]; exact h3 c hc) ?_
        rw [lf_s q, mup_row]
        refine (LsC_app _ _ _ _).mpr ⟨LsC_up _ _ h4 (by omega), ?_⟩
        exact ⟨up_eq (by omega), trivial⟩
      · rw [(c_fit hC' hK (x := (n : Int)) (by omega) (w 63).toNat FU 0 (fu_lt (by omega)) (by decide) (by omega)).2 q]
        show ∃ s1 : Mem, jn _ _ = _ ∧ _
        rw [jn_s, if_pos rfl]
        have := ih fu (n + 1) s (by omega) (by omega) h3 (by rw [lf_n q]; exact h4)
        rw [lf_n q] at this
        exact this
theorem c_fitting {w : Int → Int} (hC : CluC s 31 w) (hK : WK w) {N : Nat} (hN : N = 1000) : ∃ s1 : Mem, f_X0_fitting 31 s = some (((lf w N).length : Int), s1) ∧ (∀ c : Nat, c ≠ 34 → s1 c = s c) ∧ LsC (s1 34) 0 (lf w N) := by
  unfold f_X0_fitting
  rw [jn_s]
  exact c_list hC hK (k := fun v1 s2 => some (v1, s2)) hN N FU 0 s (fu_lt (by omega)) (by omega) (fun _ _ => rfl) trivial
theorem m_fit {w : Int → Int} (ht : t 1 = w) (hK : WK w) {x : Int} (hx : 0 ≤ x ∧ x ≤ 1000) : ∀ (j fu : Nat) (i : Int), j < fu → 0 ≤ i → i + j = w 63 → (ftp w x j i → f_X12_isFitting_2 0 x (fun _ => some (1, t)) t fu i = some (1, t)) ∧ (¬ ftp w x j i → f_X12_isFitting_2 0 x (fun _ => some (1, t)) t fu i = some (0, t)) := by
  have h8 := hK.1
  intro j
  induction j with
  | zero =>
    intro fu i h1 h2 h3
    cases fu with
    | zero => exact absurd h1 (Nat.not_lt_zero _)
    | succ fu =>
      rw [f_X12_isFitting_2, gd_t (by decide), Nat.zero_add, ht, if_neg (by omega)]
      exact ⟨fun _ => rfl, fun q => absurd trivial q⟩
  | succ j ih =>
    intro fu i h1 h2 h3
    cases fu with
    | zero => exact absurd h1 (Nat.not_lt_zero _)
    | succ fu =>
      obtain ⟨k1, k2⟩ := hK.2 i h2 (by omega)
      obtain ⟨b1, b2⟩ := ih fu (i + 1) (by omega) (by omega) (by omega)
      rw [f_X12_isFitting_2, gd_t (by decide), Nat.zero_add, ht, if_pos (by omega), wr_n (x := 2 * i) (by omega), wr_n (x := 222 + 2 * i) (by omega), wr_n (x := 222 + 2 * i + 1) (by omega), gd_t (by omega), gd_t (by omega), jn_s, wr_n (x := i + 1) (by omega)]
      refine ⟨fun h => ?_, fun h => ?_⟩
      · have nx := b1 h.2
        rcases h.1 with ⟨a, b⟩ | ⟨a, b⟩ | ⟨a, b⟩
        · rw [if_pos a, if_pos b]
          exact nx
        · rw [if_neg (by omega), if_pos a, if_neg b]
          exact nx
        · rw [if_neg (by omega), if_neg (by omega), gd_t (by omega), if_pos b]
          exact nx
      · have nx : alw w x i → f_X12_isFitting_2 0 x (fun _ => some (1, t)) t fu (i + 1) = some (0, t) := fun q => b2 (fun z => h ⟨q, z⟩)
        by_cases a0 : w (222 + 2 * i) = 0
        · rw [if_pos a0]
          by_cases c : x < w (222 + 2 * i + 1)
          · rw [if_pos c]
            exact nx (Or.inl ⟨a0, c⟩)
          · rw [if_neg c]
        · rw [if_neg a0]
          by_cases a1 : w (222 + 2 * i) = 1
          · rw [if_pos a1]
            by_cases c : x < w (222 + 2 * i + 1)
            · rw [if_pos c]
            · rw [if_neg c]
              exact nx (Or.inr (Or.inl ⟨a1, c⟩))
          · rw [if_neg a1, gd_t a0]
            by_cases c : x.tmod (w (222 + 2 * i)) = w (222 + 2 * i + 1)
            · rw [if_pos c]
              exact nx (Or.inr (Or.inr ⟨by omega, c⟩))
            · rw [if_neg c]
theorem m_isFit {w : Int → Int} (ht : t 1 = w) (hK : WK w) {x : Int} (hx : 0 ≤ x ∧ x ≤ 1000) : (fit w x → f_X12_isFitting 0 x t = some (1, t)) ∧ (¬ fit w x → f_X12_isFitting 0 x t = some (0, t)) := by
  have h8 := hK.1
  unfold f_X12_isFitting
  rw [jn_s]
  exact m_fit ht hK hx (w 63).toNat FU 0 (fu_lt (by omega)) (by decide) (by omega)
theorem m_list {w : Int → Int} (ht : t 1 = w) (hK : WK w) {k : Int → Int → Int → Mem → Res} {N : Nat} (hN : N = 1000) : ∀ (j fu n : Nat), j < fu → n + j = N → f_X12_fits_21 0 k fu (lf w n).length ((lf w n).headD (-1)) ((lf w n).getLastD (-1)) n t = k (lf w N).length ((lf w N).headD (-1)) ((lf w N).getLastD (-1)) t := by
  intro j
  induction j with
  | zero =>
    intro fu n h1 h2
    have e : n = N := by omega
    subst e
    cases fu with
    | zero => exact absurd h1 (Nat.not_lt_zero _)
    | succ fu => rw [f_X12_fits_21, if_pos (by omega)]
  | succ j ih =>
    intro fu n h1 h2
    cases fu with
    | zero => exact absurd h1 (Nat.not_lt_zero _)
    | succ fu =>
      have hl := lf_in w n
      have en : wr ((n : Int) + 1) = ((n + 1 : Nat) : Int) := wr_n (by omega)
      have nx := ih fu (n + 1) (by omega) (by omega)
      rw [f_X12_fits_21, if_neg (by omega), en]
      rcases Classical.em (fit w (n : Int)) with q | q
      · have el : ((lf w n).length : Int) + 1 = ((lf w (n + 1)).length : Int) := by
          rw [lf_s q, List.length_append]
          rfl
        have eg : (lf w (n + 1)).getLastD (-1) = (n : Int) := by
          rw [lf_s q, List.getLastD_concat]
        rw [bd_e ((m_isFit ht hK (by omega)).1 q), jn_s, if_neg (by decide), jn_s, wr_n (x := ((lf w n).length : Int) + 1) (by omega), el]
        rw [eg] at nx
        by_cases c : (lf w n).headD (-1) = -1
        · have e0 : lf w n = [] := by
            cases hh : lf w n with
            | nil => rfl
            | cons v L =>
              exfalso
              rw [hh] at c
              have := hl.2 v (by rw [hh]; exact List.mem_cons_self)
              have c2 : v = -1 := c
              omega
          have eh : (lf w (n + 1)).headD (-1) = (n : Int) := by
            rw [lf_s q, e0]
            rfl
          rw [if_pos c]
          rw [eh] at nx
          exact nx
        · have eh : (lf w (n + 1)).headD (-1) = (lf w n).headD (-1) := by
            rw [lf_s q]
            cases hh : lf w n with
            | nil =>
              rw [hh] at c
              exact absurd rfl c
            | cons v L => rfl
          rw [if_neg c]
          rw [eh] at nx
          exact nx
      · rw [bd_e ((m_isFit ht hK (by omega)).2 q), jn_s, if_pos rfl]
        rw [lf_n q] at nx
        exact nx
end

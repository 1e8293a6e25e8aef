/-! ===== L3: fits, what to ask ===== -/
def hMo (m v : Int) (p : (Int → Int) × Int) : (Int → Int) × Int := (up p.1 (v.tmod m) (p.1 (v.tmod m) + 1), mmx p.2 (p.1 (v.tmod m) + 1))
def fMo (m : Int) : List Int → (Int → Int) × Int → (Int → Int) × Int
  | [], p => p
  | v :: L, p => fMo m L (hMo m v p)
def sMo (m : Int) (L : List Int) : Int := (fMo m L (fun _ => 0, 0)).2
theorem fMo_app (m : Int) : ∀ (L M : List Int) (p : (Int → Int) × Int), fMo m (L ++ M) p = fMo m M (fMo m L p)
  | [], _, _ => rfl
  | v :: L, M, p => fMo_app m L M (hMo m v p)
/-- the first m places alike -/
def Ag (m : Int) (f g : Int → Int) : Prop := ∀ k : Int, 0 ≤ k → k < m → f k = g k
theorem Ag.up {m : Int} {f g : Int → Int} (h : Ag m f g) (k v : Int) : Ag m (up f k v) (up g k v) := by
  intro i h1 h2
  by_cases e : i = k
  · rw [up_eq e, up_eq e]
  · rw [up_ne e, up_ne e]
    exact h i h1 h2
def Bd (m : Int) (f : Int → Int) (b : Int) : Prop := ∀ k : Int, 0 ≤ k → k < m → 0 ≤ f k ∧ f k ≤ b
theorem Bd.up {m b : Int} {f : Int → Int} (h : Bd m f b) {k : Int} (hk : 0 ≤ k ∧ k < m) : Bd m (up f k (f k + 1)) (b + 1) := by
  intro i h1 h2
  have h3 := h k hk.1 hk.2
  have h4 := h i h1 h2
  by_cases e : i = k
  · rw [up_eq e]
    omega
  · rw [up_ne e]
    omega
section
variable {s t : Mem}
theorem z_c {m : Int} {s0 : Mem} (hm : 2 ≤ m ∧ m ≤ 30) {k : Mem → Res} : ∀ (j fu : Nat) (i : Int) (s : Mem), j < fu → 0 ≤ i → i + j = m → (∀ c : Nat, c ≠ 35 → s c = s0 c) → Ag i (s 35) (fun _ => 0) → ∃ s1 : Mem, f_X0_mostAlike_5 31 m k fu i s = k s1 ∧ (∀ c : Nat, c ≠ 35 → s1 c = s0 c) ∧ Ag m (s1 35) (fun _ => 0) := by
  intro j
  induction j with
  | zero =>
    intro fu i s h1 h2 h3 h4 h5
    have e : i = m := by omega
    cases fu with
    | zero => exact absurd h1 (Nat.not_lt_zero _)
    | succ fu =>
      rw [f_X0_mostAlike_5, if_neg (by omega)]
      exact ⟨s, rfl, h4, by rw [← e]; exact h5⟩
  | succ j ih =>
    intro fu i s h1 h2 h3 h4 h5
    cases fu with
    | zero => exact absurd h1 (Nat.not_lt_zero _)
    | succ fu =>
      rw [f_X0_mostAlike_5, if_pos (by omega), if_pos (by omega), gd_t (by omega), lm_s, wr_n (x := i + 1) (by omega)]
      refine ih fu (i + 1) _ (by omega) (by omega) (by omega) (fun c hc => by rw [mup_o hc]; exact h4 c hc) ?_
      rw [mup_row]
      intro q g1 g2
      by_cases e : q = i
      · rw [up_eq e]
      · rw [up_ne e]
        exact h5 q g1 (by omega)
theorem z_m {m : Int} {t0 : Mem} (hm : 2 ≤ m ∧ m ≤ 30) {k : Mem → Res} : ∀ (j fu : Nat) (i : Int) (t : Mem), j < fu → 0 ≤ i → i + j = m → (∀ c : Nat, c ≠ 13 → t c = t0 c) → Ag i (t 13) (fun _ => 0) → ∃ t1 : Mem, f_X12_mostAlike_2 0 m k fu i t = k t1 ∧ (∀ c : Nat, c ≠ 13 → t1 c = t0 c) ∧ Ag m (t1 13) (fun _ => 0) := by
  intro j
  induction j with
  | zero =>
    intro fu i s h1 h2 h3 h4 h5
    have e : i = m := by omega
    cases fu with
    | zero => exact absurd h1 (Nat.not_lt_zero _)
    | succ fu =>
      rw [f_X12_mostAlike_2, if_neg (by omega)]
      exact ⟨s, rfl, h4, by rw [← e]; exact h5⟩
  | succ j ih =>
    intro fu i s h1 h2 h3 h4 h5
    cases fu with
    | zero => exact absurd h1 (Nat.not_lt_zero _)
    | succ fu =>
      rw [f_X12_mostAlike_2, if_pos (by omega), gd_t (by omega), lm_s, wr_n (x := i + 1) (by omega), Nat.zero_add]
      refine ih fu (i + 1) _ (by omega) (by omega) (by omega) (fun c hc => by rw [mup_o hc]; exact h4 c hc) ?_
      rw [mup_row]
      intro q g1 g2
      by_cases e : q = i
      · rw [up_eq e]
      · rw [up_ne e]
        exact h5 q g1 (by omega)
theorem tmod_in {v m : Int} (hv : 0 ≤ v) (hm : 2 ≤ m) : 0 ≤ v.tmod m ∧ v.tmod m < m := by
  rw [Int.tmod_eq_emod_of_nonneg hv]
  exact ⟨Int.emod_nonneg _ (by omega), Int.emod_lt_of_pos _ (by omega)⟩
theorem c_mo {m many : Int} {s0 : Mem} (hm : 2 ≤ m ∧ m ≤ 30) (hy : many ≤ 1000) : ∀ (R : List Int) (fu : Nat) (i b : Int) (s : Mem) (p : (Int → Int) × Int), R.length < fu → 0 ≤ i → i + R.length = many → (∀ v ∈ R, 0 ≤ v ∧ v < 1000) → LsC (s 34) i R → (∀ c : Nat, c ≠ 35 → s c = s0 c) → Ag m (s 35) p.1 → Bd m p.1 b → 0 ≤ b → b + R.length ≤ 2000 → ∃ s1 : Mem, f_X0_mostAlike_35 31 m many fu p.2 i s = some ((fMo m R p).2, s1) ∧ ∀ c : Nat, c ≠ 35 → s1 c = s0 c := by
  intro R
  induction R with
  | nil =>
    intro fu i b s p h1 h2 h3 h4 h5 h6 h7 h8 h9 h10
    have e : ((([] : List Int).length : Nat) : Int) = 0 := rfl
    cases fu with
    | zero => exact absurd h1 (Nat.not_lt_zero _)
    | succ fu =>
      rw [f_X0_mostAlike_35, if_neg (by omega)]
      exact ⟨s, rfl, h6⟩
  | cons v R ih =>
    intro fu i b s p h1 h2 h3 h4 h5 h6 h7 h8 h9 h10
    have e : ((v :: R).length : Int) = (R.length : Int) + 1 := by rw [List.length_cons]; omega
    have e' : (v :: R).length = R.length + 1 := List.length_cons
    cases fu with
    | zero => exact absurd h1 (Nat.not_lt_zero _)
    | succ fu =>
      have hv := h4 v List.mem_cons_self
      have ht := tmod_in hv.1 hm.1
      have e34 : s (31 + 3) i = v := h5.1
      have h8' := h8 _ ht.1 ht.2
      have e35 : s (31 + 4) (v.tmod m) = p.1 (v.tmod m) := h7 _ ht.1 ht.2
      rw [f_X0_mostAlike_35, if_pos (by omega), if_pos (by omega), jn_s, if_pos (by omega), gd_t (by omega), gd_t (by omega), e34]
      show ∃ s1 : Mem, bd _ _ = _ ∧ _
      rw [bd_e (e_within _ _ _ _), jn_s, bI_z, if_pos (by omega), gd_t (by omega), gd_t (by omega), lm_s, gd_t (by omega), mup_e rfl rfl, e35, wr_n (x := p.1 (v.tmod m) + 1) (by omega), wr_n (x := i + 1) (by omega)]
      have hs : fMo m (v :: R) p = fMo m R (hMo m v p) := rfl
      rw [hs]
      refine ih fu (i + 1) (b + 1) _ (hMo m v p) (by omega) (by omega) (by omega) (fun x hx => h4 x (List.mem_cons_of_mem _ hx)) ?_ (fun c hc => by rw [mup_o hc]; exact h6 c hc) ?_ (h8.up ht) (by omega) (by omega)
      · rw [mup_o (by decide)]
        exact h5.2
      · rw [mup_row]
        exact h7.up _ _
theorem c_most {m : Int} (hm : 2 ≤ m ∧ m ≤ 30) {L : List Int} (hL : L.length ≤ 1000) (hv : ∀ v ∈ L, 0 ≤ v ∧ v < 1000) (h : LsC (s 34) 0 L) : ∃ s1 : Mem, f_X0_mostAlike 31 m L.length s = some (sMo m L, s1) ∧ ∀ c : Nat, c ≠ 35 → s1 c = s c := by
  unfold f_X0_mostAlike
  rw [jn_s]
  obtain ⟨s1, a1, a2, a3⟩ := z_c (s0 := s) hm (k := fun s1 => f_X0_mostAlike_35 31 m L.length FU 0 0 s1) m.toNat FU 0 s (fu_lt (by omega)) (by decide) (by omega) (fun _ _ => rfl) (fun k g1 g2 => absurd g2 (by omega))
  rw [a1]
  exact c_mo hm (by omega) L FU 0 0 s1 (fun _ => 0, 0) (fu_lt (by omega)) (by decide) (by omega) hv (by rw [a2 34 (by decide)]; exact h) a2 a3 (fun k _ _ => ⟨Int.le_refl 0, Int.le_refl 0⟩) (by decide) (by omega)
theorem m_mo {w : Int → Int} {m : Int} {t0 : Mem} (h01 : t0 1 = w) (hK : WK w) (hm : 2 ≤ m ∧ m ≤ 30) {N : Nat} (hN : N = 1000) {k : Int → Mem → Res} : ∀ (j fu n : Nat) (t : Mem), j < fu → n + j = N → (∀ c : Nat, c ≠ 13 → t c = t0 c) → Ag m (t 13) (fMo m (lf w n) (fun _ => 0, 0)).1 → Bd m (fMo m (lf w n) (fun _ => 0, 0)).1 n → ∃ t1 : Mem, f_X12_mostAlike_24 0 m k fu (fMo m (lf w n) (fun _ => 0, 0)).2 n t = k (sMo m (lf w N)) t1 ∧ ∀ c : Nat, c ≠ 13 → t1 c = t0 c := by
  intro j
  induction j with
  | zero =>
    intro fu n t h1 h2 h3 h4 h5
    have e : n = N := by omega
    subst e
    cases fu with
    | zero => exact absurd h1 (Nat.not_lt_zero _)
    | succ fu =>
      rw [f_X12_mostAlike_24, if_pos (by omega)]
      exact ⟨t, rfl, h3⟩
  | succ j ih =>
    intro fu n t h1 h2 h3 h4 h5
    cases fu with
    | zero => exact absurd h1 (Nat.not_lt_zero _)
    | succ fu =>
      have en : wr ((n : Int) + 1) = ((n + 1 : Nat) : Int) := wr_n (by omega)
      have e1 : t 1 = w := (h3 1 (by decide)).trans h01
      have ht := tmod_in (v := (n : Int)) (m := m) (by omega) hm.1
      rw [f_X12_mostAlike_24, if_neg (by omega), en]
      rcases Classical.em (fit w (n : Int)) with q | q
      · have eq1 : fMo m (lf w (n + 1)) (fun _ => 0, 0) = hMo m (n : Int) (fMo m (lf w n) (fun _ => 0, 0)) := by
          rw [lf_s q, fMo_app]
          rfl
        have nx := fun t' g1 g2 g3 => ih fu (n + 1) t' (by omega) (by omega) g1 g2 g3
        rw [eq1] at nx
        generalize fMo m (lf w n) (fun _ => 0, 0) = p at h4 h5 nx ⊢
        have h5' := h5 _ ht.1 ht.2
        have e13 : t (0 + 13) ((n : Int).tmod m) = p.1 ((n : Int).tmod m) := h4 _ ht.1 ht.2
        rw [bd_e ((m_isFit e1 hK (by omega)).1 q), jn_s, if_neg (by decide), gd_t (by omega), gd_t (by omega), gd_t (by omega), lm_s, gd_t (by omega), gd_t (by omega), mup_e rfl rfl, e13, wr_n (x := p.1 ((n : Int).tmod m) + 1) (by omega), bd_e (e_greater _ _ _)]
        refine nx _ (fun c hc => by rw [mup_o hc]; exact h3 c hc) ?_ ?_
        · rw [mup_row]
          exact h4.up _ _
        · have e : ((n + 1 : Nat) : Int) = (n : Int) + 1 := by omega
          rw [e]
          exact h5.up ht
      · have nx := ih fu (n + 1) t (by omega) (by omega) h3
        rw [lf_n q] at nx
        rw [bd_e ((m_isFit e1 hK (by omega)).2 q), jn_s, if_pos rfl]
        refine nx h4 (fun k g1 g2 => ?_)
        have := h5 k g1 g2
        omega
theorem m_most {w : Int → Int} {m : Int} (h01 : t 1 = w) (hK : WK w) (hm : 2 ≤ m ∧ m ≤ 30) {N : Nat} (hN : N = 1000) : ∃ t1 : Mem, f_X12_mostAlike 0 m t = some (sMo m (lf w N), t1) ∧ ∀ c : Nat, c ≠ 13 → t1 c = t c := by
  unfold f_X12_mostAlike
  rw [jn_s]
  obtain ⟨t1, a1, a2, a3⟩ := z_m (t0 := t) hm (k := fun (s1 : Mem) => jn (fun (v2 : Int) (s3 : Mem) => some (v2, s3)) fun j73 => f_X12_mostAlike_24 0 m j73 FU 0 0 s1) m.toNat FU 0 t (fu_lt (by omega)) (by decide) (by omega) (fun _ _ => rfl) (fun k g1 g2 => absurd g2 (by omega))
  rw [a1, jn_s]
  exact m_mo (k := fun v2 s3 => some (v2, s3)) h01 hK hm hN N FU 0 t1 (fu_lt (by omega)) (by omega) a2 a3 (fun k _ _ => ⟨Int.le_refl 0, Int.le_refl 0⟩)
def gAs (L : List Int) (m : Int) (p : Int × Int) : Int × Int := if p.1 = -1 ∨ sMo m L < p.2 then (m, sMo m L) else p
theorem c_ask {L : List Int} (hL : L.length ≤ 1000) (h2 : 1 < L.length) (hv : ∀ v ∈ L, 0 ≤ v ∧ v < 1000) {s0 : Mem} (h : LsC (s0 34) 0 L) : ∀ (j fu : Nat) (m : Int) (p : Int × Int) (s : Mem), j < fu → 2 ≤ m → m + j = 31 → (∀ c : Nat, c ≠ 35 → s c = s0 c) → ∃ s1 : Mem, f_X0_bestToAsk_12 31 L.length fu p.1 p.2 m s = some ((fo (gAs L) j m p).1, s1) ∧ ∀ c : Nat, c ≠ 35 → s1 c = s0 c := by
  intro j
  induction j with
  | zero =>
    intro fu m p s h1 h3 h4 h5
    cases fu with
    | zero => exact absurd h1 (Nat.not_lt_zero _)
    | succ fu =>
      rw [f_X0_bestToAsk_12, if_pos (by omega)]
      exact ⟨s, rfl, h5⟩
  | succ j ih =>
    intro fu m p s h1 h3 h4 h5
    cases fu with
    | zero => exact absurd h1 (Nat.not_lt_zero _)
    | succ fu =>
      obtain ⟨s1, a1, a2⟩ := c_most (s := s) (m := m) (by omega) hL hv (by rw [h5 34 (by decide)]; exact h)
      have q : ∀ c : Nat, c ≠ 35 → s1 c = s0 c := fun c hc => (a2 c hc).trans (h5 c hc)
      have hs : fo (gAs L) (j + 1) m p = fo (gAs L) j (m + 1) (gAs L m p) := rfl
      rw [f_X0_bestToAsk_12, if_neg (by omega), if_pos (by omega), bd_e a1, jn_s, jn_s, wr_n (x := m + 1) (by omega), hs]
      unfold gAs
      by_cases c1 : p.1 = -1
      · rw [if_pos c1, if_pos (Or.inl c1)]
        exact ih fu (m + 1) (m, sMo m L) s1 (by omega) (by omega) (by omega) q
      · rw [if_neg c1]
        by_cases c2 : sMo m L < p.2
        · rw [if_pos c2, if_pos (Or.inr c2)]
          exact ih fu (m + 1) (m, sMo m L) s1 (by omega) (by omega) (by omega) q
        · rw [if_neg c2, if_neg (fun z => z.elim c1 c2)]
          exact ih fu (m + 1) p s1 (by omega) (by omega) (by omega) q
theorem m_ask {w : Int → Int} {t0 : Mem} (h01 : t0 1 = w) (hK : WK w) {N : Nat} (hN : N = 1000) : ∀ (j fu : Nat) (m : Int) (p : Int × Int) (t : Mem), j < fu → 3 ≤ m → m + j = 31 → p.1 ≠ -1 → (∀ c : Nat, c ≠ 13 → t c = t0 c) → ∃ t1 : Mem, f_X12_bestRest_10 0 (fun v3 s4 => some (v3, s4)) fu p.1 p.2 m t = some ((fo (gAs (lf w N)) j m p).1, t1) ∧ ∀ c : Nat, c ≠ 13 → t1 c = t0 c := by
  intro j
  induction j with
  | zero =>
    intro fu m p t h1 h3 h4 hp h5
    cases fu with
    | zero => exact absurd h1 (Nat.not_lt_zero _)
    | succ fu =>
      rw [f_X12_bestRest_10, if_pos (by omega)]
      exact ⟨t, rfl, h5⟩
  | succ j ih =>
    intro fu m p t h1 h3 h4 hp h5
    cases fu with
    | zero => exact absurd h1 (Nat.not_lt_zero _)
    | succ fu =>
      obtain ⟨t1, a1, a2⟩ := m_most (t := t) (w := w) (m := m) ((h5 1 (by decide)).trans h01) hK (by omega) hN
      have q : ∀ c : Nat, c ≠ 13 → t1 c = t0 c := fun c hc => (a2 c hc).trans (h5 c hc)
      have hs : fo (gAs (lf w N)) (j + 1) m p = fo (gAs (lf w N)) j (m + 1) (gAs (lf w N) m p) := rfl
      rw [f_X12_bestRest_10, if_neg (by omega), bd_e a1, jn_s, wr_n (x := m + 1) (by omega), hs]
      unfold gAs
      by_cases c2 : sMo m (lf w N) < p.2
      · rw [if_pos c2, if_pos (Or.inr c2)]
        exact ih fu (m + 1) (m, sMo m (lf w N)) t1 (by omega) (by omega) (by omega) (by show m ≠ -1; omega) q
      · rw [if_neg c2, if_neg (fun z => z.elim hp c2)]
        exact ih fu (m + 1) p t1 (by omega) (by omega) (by omega) hp q
theorem LsC_last {f : Int → Int} {v : Int} : ∀ (L : List Int) (p : Int), LsC f p (L ++ [v]) → f (p + L.length) = v := by
  intro L p h
  exact ((LsC_app f L [v] p).mp h).2.1
theorem IV.fi {s1 t1 : Mem} (h : IV s t) (q : ∀ c : Nat, c ≠ 34 → c ≠ 35 → s1 c = s c) (q2 : ∀ c : Nat, c ≠ 13 → t1 c = t c) : IV s1 t1 :=
  h.sc (fun c _ _ a3 a4 _ => q c a3 a4) (fun c _ _ a9 => q2 c (by omega)) (fun i _ => by rw [q2 0 (by decide)])
theorem k_fits (h : IV s t) (what : Int) : Sim (f_X11_fits 0 what s) (f_X12_fits 0 what t) := by
  have hC := h.clu.1
  have hK := h.clu.2
  have bs : ∀ o : Res, (bd o fun r4 s5 => some (r4, s5)) = o := by
    intro o
    cases o with
    | none => rfl
    | some q => rfl
  generalize hN : (1000 : Nat) = N
  have hN' : N = 1000 := hN.symm
  obtain ⟨s1, a1, a2, a3⟩ := c_fitting hC hK hN'
  have hl := lf_in (t 1) N
  have ml := fun k : Int → Int → Int → Mem → Res => m_list (t := t) rfl hK (k := k) hN' N FU 0 (fu_lt (by omega)) (by omega)
  have i1 : IV s1 t := h.fi (fun c q _ => a2 c q) (fun _ _ => rfl)
  unfold f_X11_fits f_X12_fits
  simp only [Nat.zero_add, Nat.reduceAdd, bs]
  rw [bd_e (e_isIn _ _ _ _), bI_z, jn_s]
  have e0 : ((0 : Nat) : Int) = 0 := rfl
  have l0 : lf (t 1) 0 = [] := rfl
  have ml2 : ∀ k : Int → Int → Int → Mem → Res, f_X12_fits_21 0 k FU 0 (-1) (-1) 0 t = k (lf (t 1) N).length ((lf (t 1) N).headD (-1)) ((lf (t 1) N).getLastD (-1)) t := fun k => ml k
  have mb : ∃ t2 : Mem, f_X12_bestRest 0 t = some ((fo (gAs (lf (t 1) N)) 28 3 (2, sMo 2 (lf (t 1) N))).1, t2) ∧ ∀ c : Nat, c ≠ 13 → t2 c = t c := by
    obtain ⟨t1, b1, b2⟩ := m_most (t := t) (w := t 1) (m := 2) rfl hK (by decide) hN'
    unfold f_X12_bestRest
    rw [bd_e b1, jn_s]
    exact m_ask (t0 := t) rfl hK hN' 28 FU 3 (2, sMo 2 (lf (t 1) N)) t1 (fu_lt (by omega)) (by decide) (by decide) (show (2 : Int) ≠ -1 by decide) b2
  rw [ml2]
  generalize lf (t 1) N = L at *
  by_cases k0 : what = 0
  · rw [if_pos k0, if_pos (by omega), if_neg (by omega), if_pos k0, a1]
    exact Sim.rf i1 _
  · rw [if_neg k0]
    by_cases k1 : what = 1
    · rw [if_pos k1, if_pos (by omega), if_neg (by omega), if_neg k0, if_pos k1]
      unfold f_X0_least
      rw [bd_e a1]
      cases L with
      | nil =>
        rw [if_neg (by decide)]
        exact Sim.rf i1 _
      | cons v L =>
        rw [if_pos (by rw [List.length_cons]; omega), gd_t (by decide)]
        exact Sim.eq rfl rfl a3.1 i1
    · rw [if_neg k1]
      by_cases k2 : what = 2
      · rw [if_pos k2, if_pos (by omega), if_neg (by omega), if_neg k0, if_neg k1]
        unfold f_X0_greatest
        rw [bd_e a1]
        rcases List.eq_nil_or_concat L with e | ⟨L2, v, e⟩
        · subst e
          rw [if_neg (by decide)]
          exact Sim.rf i1 _
        · rw [List.concat_eq_append] at e
          subst e
          have el : (((L2 ++ [v]).length : Nat) : Int) = (L2.length : Int) + 1 := by
            rw [List.length_append]
            rfl
          have el2 : (L2 ++ [v]).length = L2.length + 1 := by
            rw [List.length_append]
            rfl
          have hh := LsC_last L2 0 a3
          rw [Int.zero_add] at hh
          have e1 : (L2.length : Int) + 1 - 1 = (L2.length : Int) := by omega
          have ex : s1 (31 + 3) (L2.length : Int) = v := hh
          rw [el, if_pos (by omega), e1, wr_n (x := (L2.length : Int)) (by omega), gd_t (by omega), ex, List.getLastD_concat]
          exact Sim.rf i1 _
      · rw [if_neg k2]
        by_cases k3 : what = 3
        · rw [if_pos k3, if_pos (by omega), if_pos k3]
          unfold f_X0_bestToAsk
          rw [bd_e a1]
          by_cases c : (L.length : Int) < 2
          · rw [if_pos c]
            have ef : ∃ m : Nat, FU = m + 1 := ⟨5999, rfl⟩
            obtain ⟨m, em⟩ := ef
            rw [em, f_X0_bestToAsk_12, if_neg (by decide), if_neg (by omega)]
            exact Sim.rf i1 _
          · obtain ⟨t2, m1, m2⟩ := mb
            obtain ⟨s2, d1, d2⟩ := c_ask (L := L) (by omega) (by omega) (fun v hv => by have := hl.2 v hv; omega) (s0 := s1) a3 29 FU 2 (-1, (L.length : Int)) s1 (fu_lt (by omega)) (by decide) (by decide) (fun _ _ => rfl)
            have es : fo (gAs L) 29 2 (-1, (L.length : Int)) = fo (gAs L) 28 (2 + 1) (gAs L 2 (-1, (L.length : Int))) := rfl
            have eg : gAs L 2 (-1, (L.length : Int)) = (2, sMo 2 L) := if_pos (Or.inl rfl)
            rw [es, eg] at d1
            rw [if_neg c, m1]
            exact Sim.eq d1 rfl rfl (h.fi (fun c q1 q2 => (d2 c q2).trans (a2 c q1)) m2)
        · rw [if_neg k3, if_neg (by omega)]
          exact Sim.rf h _
end

/-! ===== L3: texts: the class cuts, the model goes on ===== -/
theorem wr_s {p : Nat} (h : p ≤ 100000) : wr ((p : Int) + 1) = ((p + 1 : Nat) : Int) := wr_n (by omega)
theorem mmx_r {p e : Nat} (h : p ≤ e) : mmx (p : Int) (e : Int) = (e : Int) := by
  unfold mmx
  by_cases c : (p : Int) < (e : Int)
  · rw [if_pos c]
  · rw [if_neg c]
    omega
section
variable {s0 : Mem} {L : Nat}
theorem c_cut_l {k : Mem → Res} (hL : s0 236 4 = L) (hL4 : L ≤ 400) (hB : Byt (s0 256) L) : ∀ (j fu p : Nat) (s : Mem) (T : List Tk), j < fu → L - p ≤ j → p ≤ L → FrK s0 s → LsT s T → T.length ≤ p → ∃ s1 : Mem, f_X7_cut_14 236 k fu p s = k s1 ∧ LsT s1 (T ++ TB (s0 256) L (L - p) p) ∧ FrK s0 s1 ∧ s1 236 12 = s 236 12 ∧ (T ++ TB (s0 256) L (L - p) p).length ≤ L := by
  intro j
  induction j with
  | zero =>
    intro fu p s T h1 h2 h3 h4 h5 h6
    have e : L - p = 0 := by omega
    have eL4 : s 236 4 = L := (h4.2 4 (by decide) (by decide)).trans hL
    have eT : T ++ TB (s0 256) L (L - p) p = T := by
      rw [e]
      exact List.append_nil T
    cases fu with
    | zero => exact absurd h1 (Nat.not_lt_zero _)
    | succ fu =>
      rw [f_X7_cut_14, eL4, if_neg (by omega), eT]
      exact ⟨s, rfl, h5, h4, rfl, by omega⟩
  | succ j ih =>
    intro fu p s T h1 h2 h3 h4 h5 h6
    have eL4 : s 236 4 = L := (h4.2 4 (by decide) (by decide)).trans hL
    cases fu with
    | zero => exact absurd h1 (Nat.not_lt_zero _)
    | succ fu =>
      by_cases cp : p < L
      · have e256 : s 256 = s0 256 := h4.1 256 (by decide) (by decide) (by decide) (by decide)
        have e56 : s (236 + 20) (p : Int) = s0 256 (p : Int) := by
          show s 256 (p : Int) = _
          rw [e256]
        have hb := hB p (by omega) (by omega)
        -- behind the token
        have nx : ∀ (s2 : Mem) (c v : Int) (e : Nat), ¬ (s0 256 p = 32 ∨ s0 256 p = 10) → c = tokc (s0 256) L p → v = tokv (s0 256) L p → e = toke (s0 256) L p → ∃ s1 : Mem, (bd (f_X7_note 236 c v p s) fun r36 s37 => f_X7_cut_14 236 k fu (mmx ((p + 1 : Nat) : Int) (e : Int)) s37) = k s1 ∧ LsT s1 (T ++ TB (s0 256) L (L - p) p) ∧ FrK s0 s1 ∧ s1 236 12 = s 236 12 ∧ (T ++ TB (s0 256) L (L - p) p).length ≤ L := by
          intro s2 c v e hs hc hv he
          have ht := toke_in (s0 256) cp
          obtain ⟨s3, a1, a2, a3, a4⟩ := c_note (s := s) (T := T) (c := c) (v := v) (pl := (p : Int)) h5 (by omega)
          rw [bd_e a1, mmx_r (show p + 1 ≤ e by omega)]
          obtain ⟨s4, b1, b2, b3, b4, b5⟩ := ih fu e s3 (T ++ [(c, v, (p : Int))]) (by omega) (by omega) (by omega) (h4.tr a3) a2 (by rw [List.length_append]; show T.length + 1 ≤ e; omega)
          have eq1 : T ++ TB (s0 256) L (L - p) p = T ++ [(c, v, (p : Int))] ++ TB (s0 256) L (L - e) e := by
            rw [TB_tk cp hs, hc, hv, he, List.append_assoc]
            rfl
          rw [eq1]
          exact ⟨s4, b1, b2, b3, b4.trans a4, b5⟩
        rw [f_X7_cut_14, eL4, if_pos (by omega), gd_t (by omega), e56, bd_e (e_let _ _), jn_s, bI_z, wr_s (p := p) (by omega)]
        by_cases cl : isL (s0 256 p)
        · have hs : ¬ (s0 256 p = 32 ∨ s0 256 p = 10) := by omega
          have ee := c_eL (s := s) (L := L) eL4 hL4 (L - (p + 1)) FU (p + 1) (fu_lt (by omega)) rfl
          have hi := eLf_in (s 256) (L - (p + 1)) (p + 1)
          rw [if_pos cl]
          unfold f_X7_endOfLetters
          rw [bd_e ee, bd_e (c_keyword (s := s) (p := (p : Int)) (by omega) (by omega))]
          have ek : kwI (s 256) (p : Int) ((eLf (s 256) (L - (p + 1)) (p + 1) : Nat) : Int) (wsr 27) 0 = tokc (s0 256) L p := by
            unfold tokc
            rw [if_pos cl, e256]
            rfl
          have ev : (0 : Int) = tokv (s0 256) L p := by
            unfold tokv
            rw [if_pos cl]
          have et : eLf (s 256) (L - (p + 1)) (p + 1) = toke (s0 256) L p := by
            unfold toke
            rw [if_pos cl, e256]
            rfl
          exact nx s _ 0 _ hs ek ev et
        · rw [if_neg cl, bd_e (e_dig _ _), bI_z]
          by_cases cd : isD (s0 256 p)
          · have hs : ¬ (s0 256 p = 32 ∨ s0 256 p = 10) := by omega
            have ee := c_eD (s := s) (L := L) eL4 hL4 (L - (p + 1)) FU (p + 1) (fu_lt (by omega)) rfl
            have hi := eDf_in (s 256) (L - (p + 1)) (p + 1)
            have hdig := eDf_dig (s 256) (L - (p + 1)) (p + 1)
            have et : eDf (s 256) (L - (p + 1)) (p + 1) = toke (s0 256) L p := by
              unfold toke
              rw [if_neg cl, if_pos cd, e256]
              rfl
            have ev : ∀ E : Nat, E = eDf (s 256) (L - (p + 1)) (p + 1) → vl (s 256) (min (E - p) 4) p 0 = tokv (s0 256) L p := by
              intro E hE
              unfold tokv
              rw [if_neg cl, if_pos cd, hE, e256]
              rfl
            have ec : ∀ E : Nat, E = eDf (s 256) (L - (p + 1)) (p + 1) → (if 4 < (E : Int) - p then (32 : Int) else 31) = tokc (s0 256) L p := by
              intro E hE
              unfold tokc
              rw [if_neg cl, if_pos cd, hE, e256]
              rfl
            rw [if_pos cd]
            unfold f_X7_endOfDigits
            rw [bd_e ee]
            generalize hE : eDf (s 256) (L - (p + 1)) (p + 1) = E at hi hdig et ev ec ⊢
            have ev' := ev E rfl
            have ec' := ec E rfl
            have hv := c_val (s := s) (p := p) (e := E) (by omega) (by omega) (fun q q1 q2 => by
              by_cases z : q = p
              · rw [z, e256]
                exact cd
              · exact hdig q (by omega) q2) (min (E - p) 4) FU p 0 (fu_lt (by omega)) (Nat.le_refl p) rfl ⟨by decide, Or.inl ⟨rfl, rfl⟩⟩
            rw [jn_s, wr_n (x := (E : Int) - p) (by omega)]
            have fin : ∀ y : Int, y = (if 4 < (E : Int) - p then (32 : Int) else 31) → ∃ s1 : Mem, (bd (f_X7_valueOf 236 p E s) fun r27 s28 => bd (f_X7_note 236 y r27 p s28) fun r29 s30 => f_X7_cut_14 236 k fu (mmx ((p + 1 : Nat) : Int) (E : Int)) s30) = k s1 ∧ LsT s1 (T ++ TB (s0 256) L (L - p) p) ∧ FrK s0 s1 ∧ s1 236 12 = s 236 12 ∧ (T ++ TB (s0 256) L (L - p) p).length ≤ L := by
              intro y hy
              unfold f_X7_valueOf
              rw [bd_e hv]
              exact nx s y _ E hs (hy.trans ec') ev' et
            by_cases c4 : 4 < (E : Int) - p
            · rw [if_pos c4]
              exact fin 32 (by rw [if_pos c4])
            · rw [if_neg c4]
              exact fin 31 (by rw [if_neg c4])
          · rw [if_neg cd]
            by_cases cs : s0 256 p = 32
            · rw [if_pos cs]
              obtain ⟨s4, b1, b2, b3, b4, b5⟩ := ih fu (p + 1) s T (by omega) (by omega) (by omega) h4 h5 (by omega)
              rw [TB_sp cp (Or.inl cs)]
              exact ⟨s4, (congrArg (fun z => f_X7_cut_14 236 k fu z s) (mmx_r (Nat.le_refl (p + 1)))).trans b1, b2, b3, b4, b5⟩
            · rw [if_neg cs]
              by_cases cn : s0 256 p = 10
              · rw [if_pos cn]
                obtain ⟨s4, b1, b2, b3, b4, b5⟩ := ih fu (p + 1) s T (by omega) (by omega) (by omega) h4 h5 (by omega)
                rw [TB_sp cp (Or.inr cn)]
                exact ⟨s4, (congrArg (fun z => f_X7_cut_14 236 k fu z s) (mmx_r (Nat.le_refl (p + 1)))).trans b1, b2, b3, b4, b5⟩
              · have hs : ¬ (s0 256 p = 32 ∨ s0 256 p = 10) := fun q => q.elim cs cn
                obtain ⟨r, r1, r2⟩ := c_idx hb s
                have et : p + 1 = toke (s0 256) L p := by
                  unfold toke
                  rw [if_neg cl, if_neg cd]
                have ev : (0 : Int) = tokv (s0 256) L p := by
                  unfold tokv
                  rw [if_neg cl, if_neg cd]
                rw [if_neg cn, bd_e r1, jn_s]
                by_cases cr : r < 0
                · have ec : (32 : Int) = tokc (s0 256) L p := by
                    unfold tokc
                    rw [if_neg cl, if_neg cd, if_neg (r2.mp cr)]
                  rw [if_pos cr]
                  exact nx s 32 0 (p + 1) hs ec ev et
                · have ec : s0 256 p = tokc (s0 256) L p := by
                    unfold tokc
                    rw [if_neg cl, if_neg cd, if_pos (Decidable.byContradiction (fun q => cr (r2.mpr q)))]
                  rw [if_neg cr]
                  exact nx s (s0 256 p) 0 (p + 1) hs ec ev et
      · have e : L - p = 0 := by omega
        have eT : T ++ TB (s0 256) L (L - p) p = T := by
          rw [e]
          exact List.append_nil T
        rw [f_X7_cut_14, eL4, if_neg (by omega), eT]
        exact ⟨s, rfl, h5, h4, rfl, by omega⟩
theorem c_cut (hL : s0 236 4 = L) (hL4 : L ≤ 400) (hB : Byt (s0 256) L) : ∃ s1 : Mem, f_X7_cut 236 s0 = some (0, s1) ∧ LsT s1 (TL (s0 256) L 0) ∧ FrK s0 s1 ∧ s1 236 12 = 0 ∧ (TL (s0 256) L 0).length ≤ 401 := by
  unfold f_X7_cut
  rw [lm_s, lm_s, jn_s]
  have f0 : FrK s0 (mup (mup s0 236 11 0) 236 12 0) := ⟨fun c a _ _ _ => by rw [mup_o a, mup_o a], fun i a b => by rw [mup_n (Or.inr b), mup_n (Or.inr a)]⟩
  have t0 : LsT (mup (mup s0 236 11 0) 236 12 0) [] := ⟨trivial, trivial, trivial, by rw [mup_n (Or.inr (by decide)), mup_e rfl rfl]; rfl⟩
  obtain ⟨s1, a1, a2, a3, a4, a5⟩ := c_cut_l (k := fun (s3 : Mem) => bd (f_X7_note 236 30 0 (s3 236 4) s3) fun r4 s5 => some (0, s5)) hL hL4 hB L FU 0 (mup (mup s0 236 11 0) 236 12 0) [] (fu_lt (by omega)) (by omega) (Nat.zero_le _) f0 t0 (Nat.le_refl 0)
  have ez : ((0 : Nat) : Int) = 0 := rfl
  rw [ez] at a1
  have e4 : s1 236 4 = L := (a3.2 4 (by decide) (by decide)).trans hL
  obtain ⟨s2, b1, b2, b3, b4⟩ := c_note (s := s1) (c := 30) (v := 0) (pl := (L : Int)) a2 (by omega)
  rw [a1, e4, bd_e b1]
  refine ⟨s2, rfl, b2, a3.tr b3, by rw [b4, a4, mup_e rfl rfl], ?_⟩
  have el : (TL (s0 256) L 0).length = ([] ++ TB (s0 256) L (L - 0) 0).length + 1 := by
    unfold TL
    rw [List.length_append]
    rfl
  omega
end
/-! the model -/
def tab (r : Int) : List Int := if r = 0 then [41, 42, 43, 44, 45, 46, 47, 48, 49, 50, 20, 21, 22, 23, 3, 4, 5, 6, 1, 1, 1, 1, 1, 1, 1, 1, 1] else if r = 1 then [1, 1, 1, 1, 1, 1, 1, 7, 1, 1, 1, 1, 1, 1, 1, 1, 1, 1, 8, 9, 1, 1, 1, 1, 1, 1, 1] else if r = 2 then [1, 12, 1, 1, 1, 1, 1, 1, 1, 1, 1, 1, 1, 1, 1, 1, 1, 1, 1, 1, 10, 11, 13, 14, 15, 1, 1] else [1, 1, 1, 1, 17, 1, 1, 1, 1, 1, 1, 1, 1, 1, 1, 1, 5, 1, 1, 1, 1, 1, 1, 1, 1, 16, 18]
def tkm (r c : Int) : Int := if c = 30 then 0 else if c = 31 then 2 else if c = 32 then 1 else if c < 27 then (tab r).getD c.toNat 1 else 100 + c
def wv (r : Int) (m : Nat) : Int := if r = 0 then (if 12 = m then 3 else if 13 = m then 4 else if 14 = m then 5 else if 15 = m then 6 else if 16 = m then 20 else if 17 = m then 21 else if 18 = m then 22 else if 19 = m then 23 else if 2 = m then 41 else if 3 = m then 42 else if 4 = m then 43 else if 5 = m then 44 else if 6 = m then 45 else if 7 = m then 46 else if 8 = m then 47 else if 9 = m then 48 else if 10 = m then 49 else if 11 = m then 50 else 1) else if r = 1 then (if 9 = m then 7 else if 27 = m then 8 else if 28 = m then 9 else 1) else if r = 2 then (if 20 = m then 10 else if 21 = m then 11 else if 3 = m then 12 else if 22 = m then 13 else if 23 = m then 14 else if 24 = m then 15 else 1) else (if 25 = m then 16 else if 6 = m then 17 else if 26 = m then 18 else if 14 = m then 5 else 1)
theorem wv_all : (List.range 4).all (fun r => decide (wv (r : Int) 0 = 1) && (List.range 27).all (fun k => decide (wv (r : Int) (sn k) = tkm (r : Int) (k : Int)))) = true := by decide +kernel
theorem wv_e {r : Int} (hr : 0 ≤ r ∧ r ≤ 3) : wv r 0 = 1 ∧ ∀ k : Nat, k < 27 → wv r (sn k) = tkm r (k : Int) := by
  have h := List.all_eq_true.mp wv_all r.toNat (List.mem_range.mpr (by omega))
  have e : ((r.toNat : Nat) : Int) = r := by omega
  rw [e, Bool.and_eq_true] at h
  exact ⟨of_decide_eq_true h.1, fun k hk => of_decide_eq_true (List.all_eq_true.mp h.2 k (List.mem_range.mpr hk))⟩
section
variable {t : Mem}
theorem m_word_m {m : Nat} (h : ∀ k : Nat, 2 ≤ k → k < 29 → f_X12_is 0 k t = some (bI (k = m), t)) : f_X12_word 0 t = some (wv (t 0 12) m, t) := by
  have ha : f_X12_asked 0 t = some (if 2 = m then 41 else if 3 = m then 42 else if 4 = m then 43 else if 5 = m then 44 else if 6 = m then 45 else if 7 = m then 46 else if 8 = m then 47 else if 9 = m then 48 else if 10 = m then 49 else if 11 = m then 50 else 1, t) := by
    unfold f_X12_asked
    rw [bd_e (h 2 (by decide) (by decide)), bI_z]
    by_cases c2 : 2 = m
    · rw [if_pos c2, if_pos c2]
    rw [if_neg c2, if_neg c2]
    rw [bd_e (h 3 (by decide) (by decide)), bI_z]
    by_cases c3 : 3 = m
    · rw [if_pos c3, if_pos c3]
    rw [if_neg c3, if_neg c3]
    rw [bd_e (h 4 (by decide) (by decide)), bI_z]
    by_cases c4 : 4 = m
    · rw [if_pos c4, if_pos c4]
    rw [if_neg c4, if_neg c4]
    rw [bd_e (h 5 (by decide) (by decide)), bI_z]
    by_cases c5 : 5 = m
    · rw [if_pos c5, if_pos c5]
    rw [if_neg c5, if_neg c5]
    rw [bd_e (h 6 (by decide) (by decide)), bI_z]
    by_cases c6 : 6 = m
    · rw [if_pos c6, if_pos c6]
    rw [if_neg c6, if_neg c6]
    rw [bd_e (h 7 (by decide) (by decide)), bI_z]
    by_cases c7 : 7 = m
    · rw [if_pos c7, if_pos c7]
    rw [if_neg c7, if_neg c7]
    rw [bd_e (h 8 (by decide) (by decide)), bI_z]
    by_cases c8 : 8 = m
    · rw [if_pos c8, if_pos c8]
    rw [if_neg c8, if_neg c8]
    rw [bd_e (h 9 (by decide) (by decide)), bI_z]
    by_cases c9 : 9 = m
    · rw [if_pos c9, if_pos c9]
    rw [if_neg c9, if_neg c9]
    rw [bd_e (h 10 (by decide) (by decide)), bI_z]
    by_cases c10 : 10 = m
    · rw [if_pos c10, if_pos c10]
    rw [if_neg c10, if_neg c10]
    rw [bd_e (h 11 (by decide) (by decide)), bI_z]
    by_cases c11 : 11 = m
    · rw [if_pos c11, if_pos c11]
    rw [if_neg c11, if_neg c11]
  have hl : f_X12_lawWord 0 t = some (if 12 = m then 3 else if 13 = m then 4 else if 14 = m then 5 else if 15 = m then 6 else if 16 = m then 20 else if 17 = m then 21 else if 18 = m then 22 else if 19 = m then 23 else if 2 = m then 41 else if 3 = m then 42 else if 4 = m then 43 else if 5 = m then 44 else if 6 = m then 45 else if 7 = m then 46 else if 8 = m then 47 else if 9 = m then 48 else if 10 = m then 49 else if 11 = m then 50 else 1, t) := by
    unfold f_X12_lawWord
    rw [bd_e (h 12 (by decide) (by decide)), bI_z]
    by_cases c12 : 12 = m
    · rw [if_pos c12, if_pos c12]
    rw [if_neg c12, if_neg c12]
    rw [bd_e (h 13 (by decide) (by decide)), bI_z]
    by_cases c13 : 13 = m
    · rw [if_pos c13, if_pos c13]
    rw [if_neg c13, if_neg c13]
    rw [bd_e (h 14 (by decide) (by decide)), bI_z]
    by_cases c14 : 14 = m
    · rw [if_pos c14, if_pos c14]
    rw [if_neg c14, if_neg c14]
    rw [bd_e (h 15 (by decide) (by decide)), bI_z]
    by_cases c15 : 15 = m
    · rw [if_pos c15, if_pos c15]
    rw [if_neg c15, if_neg c15]
    rw [bd_e (h 16 (by decide) (by decide)), bI_z]
    by_cases c16 : 16 = m
    · rw [if_pos c16, if_pos c16]
    rw [if_neg c16, if_neg c16]
    rw [bd_e (h 17 (by decide) (by decide)), bI_z]
    by_cases c17 : 17 = m
    · rw [if_pos c17, if_pos c17]
    rw [if_neg c17, if_neg c17]
    rw [bd_e (h 18 (by decide) (by decide)), bI_z]
    by_cases c18 : 18 = m
    · rw [if_pos c18, if_pos c18]
    rw [if_neg c18, if_neg c18]
    rw [bd_e (h 19 (by decide) (by decide)), bI_z]
    by_cases c19 : 19 = m
    · rw [if_pos c19, if_pos c19]
    rw [if_neg c19, if_neg c19]
    rw [bd_e ha]
  have hp : f_X12_planWord 0 t = some (if 20 = m then 10 else if 21 = m then 11 else if 3 = m then 12 else if 22 = m then 13 else if 23 = m then 14 else if 24 = m then 15 else 1, t) := by
    unfold f_X12_planWord
    rw [bd_e (h 20 (by decide) (by decide)), bI_z]
    by_cases c20 : 20 = m
    · rw [if_pos c20, if_pos c20]
    rw [if_neg c20, if_neg c20]
    rw [bd_e (h 21 (by decide) (by decide)), bI_z]
    by_cases c21 : 21 = m
    · rw [if_pos c21, if_pos c21]
    rw [if_neg c21, if_neg c21]
    rw [bd_e (h 3 (by decide) (by decide)), bI_z]
    by_cases c3 : 3 = m
    · rw [if_pos c3, if_pos c3]
    rw [if_neg c3, if_neg c3]
    rw [bd_e (h 22 (by decide) (by decide)), bI_z]
    by_cases c22 : 22 = m
    · rw [if_pos c22, if_pos c22]
    rw [if_neg c22, if_neg c22]
    rw [bd_e (h 23 (by decide) (by decide)), bI_z]
    by_cases c23 : 23 = m
    · rw [if_pos c23, if_pos c23]
    rw [if_neg c23, if_neg c23]
    rw [bd_e (h 24 (by decide) (by decide)), bI_z]
    by_cases c24 : 24 = m
    · rw [if_pos c24, if_pos c24]
    rw [if_neg c24, if_neg c24]
  have hv : f_X12_villageWord 0 t = some (if 25 = m then 16 else if 6 = m then 17 else if 26 = m then 18 else if 14 = m then 5 else 1, t) := by
    unfold f_X12_villageWord
    rw [bd_e (h 25 (by decide) (by decide)), bI_z]
    by_cases c25 : 25 = m
    · rw [if_pos c25, if_pos c25]
    rw [if_neg c25, if_neg c25]
    rw [bd_e (h 6 (by decide) (by decide)), bI_z]
    by_cases c6 : 6 = m
    · rw [if_pos c6, if_pos c6]
    rw [if_neg c6, if_neg c6]
    rw [bd_e (h 26 (by decide) (by decide)), bI_z]
    by_cases c26 : 26 = m
    · rw [if_pos c26, if_pos c26]
    rw [if_neg c26, if_neg c26]
    rw [bd_e (h 14 (by decide) (by decide)), bI_z]
    by_cases c14 : 14 = m
    · rw [if_pos c14, if_pos c14]
    rw [if_neg c14, if_neg c14]
  unfold f_X12_word wv
  by_cases r0 : t 0 12 = 0
  · rw [if_pos r0, if_pos r0, bd_e hl]
  rw [if_neg r0, if_neg r0]
  by_cases r1 : t 0 12 = 1
  · rw [if_pos r1, if_pos r1]
    rw [bd_e (h 9 (by decide) (by decide)), bI_z]
    by_cases c9 : 9 = m
    · rw [if_pos c9, if_pos c9]
    rw [if_neg c9, if_neg c9]
    rw [bd_e (h 27 (by decide) (by decide)), bI_z]
    by_cases c27 : 27 = m
    · rw [if_pos c27, if_pos c27]
    rw [if_neg c27, if_neg c27]
    rw [bd_e (h 28 (by decide) (by decide)), bI_z]
    by_cases c28 : 28 = m
    · rw [if_pos c28, if_pos c28]
    rw [if_neg c28, if_neg c28]
  rw [if_neg r1, if_neg r1]
  by_cases r2 : t 0 12 = 2
  · rw [if_pos r2, if_pos r2, bd_e hp]
  rw [if_neg r2, if_neg r2, bd_e hv]
theorem m_word {p e : Int} (h19 : t 0 19 = p) (h17 : t 0 17 = e) (hp : 0 ≤ p) (he : p ≤ e ∧ e ≤ 400) (hr : 0 ≤ t 0 12 ∧ t 0 12 ≤ 3) : f_X12_word 0 t = some (tkm (t 0 12) (kw (t 8) p e), t) := by
  rcases kw_is (t 8) p e with ⟨a1, a2⟩ | ⟨k, a1, a2, a3, a4⟩
  · rw [m_word_m (m := 0) (fun k h1 h2 => by rw [(m_is h2 h19 h17 hp he).2 (a2 k h1 h2), bI_f (by omega)]), a1, (wv_e hr).1]
    rfl
  · rw [m_word_m (m := sn k) (fun m h1 h2 => by
      by_cases c : m = sn k
      · rw [bI_t c]
        exact (m_is h2 h19 h17 hp he).1 (by rw [c]; exact a3)
      · rw [bI_f c]
        exact (m_is h2 h19 h17 hp he).2 (a4 m h1 h2 c)), a2, (wv_e hr).2 k a1]
end

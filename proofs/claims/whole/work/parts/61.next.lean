/-! ===== L3: texts: the model's next token ===== -/
def Fr4 (t t' : Mem) : Prop := (∀ c : Nat, c ≠ 0 → t' c = t c) ∧ ∀ i : Int, i ≠ 17 → i ≠ 18 → i ≠ 19 → i ≠ 20 → t' 0 i = t 0 i
theorem Fr4.rf (t : Mem) : Fr4 t t := ⟨fun _ _ => rfl, fun _ _ _ _ _ => rfl⟩
theorem Fr4.tr {t t1 t2 : Mem} (h1 : Fr4 t t1) (h2 : Fr4 t1 t2) : Fr4 t t2 := ⟨fun c a => (h2.1 c a).trans (h1.1 c a), fun i a b d e => (h2.2 i a b d e).trans (h1.2 i a b d e)⟩
theorem Fr4.up {t t1 : Mem} (h : Fr4 t t1) {i : Int} (hi : i = 17 ∨ i = 18 ∨ i = 19 ∨ i = 20) (v : Int) : Fr4 t (mup t1 0 i v) := ⟨fun c a => by rw [mup_o a]; exact h.1 c a, fun k a b d e => by rw [mup_n (Or.inr (by omega))]; exact h.2 k a b d e⟩
section
variable {t : Mem} {L : Nat}
theorem e_see1 (hL : t 0 16 = L) (hL4 : L ≤ 400) {p : Nat} (h : p < L) : f_X12_see 0 p t = some (t 8 p, t) := by
  unfold f_X12_see
  rw [hL, if_pos (by omega), gd_t (by omega), Nat.zero_add]
theorem e_see0 (hL : t 0 16 = L) {p : Nat} (h : ¬ p < L) : f_X12_see 0 p t = some (-1, t) := by
  unfold f_X12_see
  rw [hL, if_neg (by omega)]
end
section
variable {t0 : Mem} {L : Nat}
theorem Fr4.l {t : Mem} (h : Fr4 t0 t) (hL : t0 0 16 = L) : t 0 16 = L := (h.2 16 (by decide) (by decide) (by decide) (by decide)).trans hL
theorem Fr4.b {t : Mem} (h : Fr4 t0 t) : t 8 = t0 8 := h.1 8 (by decide)
theorem m_sk {k : Mem → Res} (hL : t0 0 16 = L) (hL4 : L ≤ 400) : ∀ (j fu p : Nat) (t : Mem), j < fu → j = L - p → p ≤ L → Fr4 t0 t → t 0 17 = p → ∃ (t1 : Mem) (q : Nat), f_X12_next0_0 0 k fu t = k t1 ∧ Fr4 t0 t1 ∧ t1 0 17 = q ∧ q ≤ L ∧ TL (t0 8) L p = TL (t0 8) L q ∧ (q < L → ¬ (t0 8 q = 32 ∨ t0 8 q = 10)) := by
  intro j
  induction j with
  | zero =>
    intro fu p t h1 h2 h3 h4 h5
    cases fu with
    | zero => exact absurd h1 (Nat.not_lt_zero _)
    | succ fu =>
      rw [f_X12_next0_0, h5, bd_e (e_see0 (h4.l hL) (by omega)), jn_s, if_neg (by decide), h5, bd_e (e_see0 (h4.l hL) (by omega)), if_neg (by decide)]
      exact ⟨t, p, rfl, h4, h5, h3, rfl, fun q => by omega⟩
  | succ j ih =>
    intro fu p t h1 h2 h3 h4 h5
    cases fu with
    | zero => exact absurd h1 (Nat.not_lt_zero _)
    | succ fu =>
      have hp : p < L := by omega
      have nx : (t0 8 p = 32 ∨ t0 8 p = 10) → ∃ (t1 : Mem) (q : Nat), (lm (mup t 0 17 (wr ((t 0 17) + 1))) fun s57 => f_X12_next0_0 0 k fu s57) = k t1 ∧ Fr4 t0 t1 ∧ t1 0 17 = q ∧ q ≤ L ∧ TL (t0 8) L p = TL (t0 8) L q ∧ (q < L → ¬ (t0 8 q = 32 ∨ t0 8 q = 10)) := by
        intro hs
        obtain ⟨t1, q, a1, a2, a3, a4, a5, a6⟩ := ih fu (p + 1) (mup t 0 17 ((p + 1 : Nat) : Int)) (by omega) (by omega) (by omega) (h4.up (by decide) _) (mup_e rfl rfl)
        rw [h5, wr_s (by omega), lm_s, TL_sp hp hs]
        exact ⟨t1, q, a1, a2, a3, a4, a5, a6⟩
      have e8 : t 8 = t0 8 := h4.b
      rw [f_X12_next0_0, h5, bd_e (e_see1 (h4.l hL) hL4 hp), jn_s, e8]
      by_cases c1 : t0 8 p = 32
      · rw [if_pos c1]
        exact nx (Or.inl c1)
      · rw [if_neg c1, h5, bd_e (e_see1 (h4.l hL) hL4 hp), e8]
        by_cases c2 : t0 8 p = 10
        · rw [if_pos c2]
          exact nx (Or.inr c2)
        · rw [if_neg c2]
          exact ⟨t, p, rfl, h4, h5, h3, rfl, fun _ q => q.elim c1 c2⟩
theorem m_le {k : Mem → Res} (hL : t0 0 16 = L) (hL4 : L ≤ 400) : ∀ (j fu p : Nat) (t : Mem), j < fu → j = L - p → Fr4 t0 t → t 0 17 = p → ∃ t1 : Mem, f_X12_next0_76 0 k fu t = k t1 ∧ Fr4 t0 t1 ∧ t1 0 17 = (eLf (t0 8) j p : Nat) ∧ t1 0 19 = t 0 19 ∧ t1 0 20 = t 0 20 := by
  intro j
  induction j with
  | zero =>
    intro fu p t h1 h2 h4 h5
    cases fu with
    | zero => exact absurd h1 (Nat.not_lt_zero _)
    | succ fu =>
      rw [f_X12_next0_76, h5, bd_e (e_see0 (h4.l hL) (by omega)), bd_e (e_mlet _ _), bI_z, if_neg (by omega)]
      exact ⟨t, rfl, h4, h5, rfl, rfl⟩
  | succ j ih =>
    intro fu p t h1 h2 h4 h5
    cases fu with
    | zero => exact absurd h1 (Nat.not_lt_zero _)
    | succ fu =>
      have hp : p < L := by omega
      have e8 : t 8 = t0 8 := h4.b
      have hs : eLf (t0 8) (j + 1) p = if isL (t0 8 p) then eLf (t0 8) j (p + 1) else p := rfl
      rw [f_X12_next0_76, h5, bd_e (e_see1 (h4.l hL) hL4 hp), bd_e (e_mlet _ _), bI_z, e8, hs]
      by_cases c : isL (t0 8 p)
      · rw [if_pos c, if_pos c, h5, wr_s (by omega), lm_s]
        obtain ⟨t1, a1, a2, a3, a4, a5⟩ := ih fu (p + 1) (mup t 0 17 ((p + 1 : Nat) : Int)) (by omega) (by omega) (h4.up (by decide) _) (mup_e rfl rfl)
        exact ⟨t1, a1, a2, a3, by rw [a4, mup_n (Or.inr (by decide))], by rw [a5, mup_n (Or.inr (by decide))]⟩
      · rw [if_neg c, if_neg c]
        exact ⟨t, rfl, h4, h5, rfl, rfl⟩
theorem m_di {k : Mem → Res} (hL : t0 0 16 = L) (hL4 : L ≤ 400) {q : Nat} (hq : q ≤ 400) : ∀ (j fu x : Nat) (t : Mem) (v : Int), j < fu → j = L - x → q ≤ x → Fr4 t0 t → t 0 17 = x → t 0 19 = q → t 0 20 = v → (x ≤ q + 4 → Vb x q v) → ∃ t1 : Mem, f_X12_next0_126 0 k fu t = k t1 ∧ Fr4 t0 t1 ∧ t1 0 17 = (eDf (t0 8) j x : Nat) ∧ t1 0 19 = q ∧ t1 0 20 = vl (t0 8) (min (eDf (t0 8) j x - q) 4 - (x - q)) x v := by
  intro j
  induction j with
  | zero =>
    intro fu x t v h1 h2 h3 h4 h5 h6 h7 h8
    cases fu with
    | zero => exact absurd h1 (Nat.not_lt_zero _)
    | succ fu =>
      have e0 : min (eDf (t0 8) 0 x - q) 4 - (x - q) = 0 := by
        show min (x - q) 4 - (x - q) = 0
        omega
      rw [f_X12_next0_126, h5, bd_e (e_see0 (h4.l hL) (by omega)), bd_e (e_mdig _ _), bI_z, if_neg (by omega), e0]
      exact ⟨t, rfl, h4, h5, h6, h7⟩
  | succ j ih =>
    intro fu x t v h1 h2 h3 h4 h5 h6 h7 h8
    cases fu with
    | zero => exact absurd h1 (Nat.not_lt_zero _)
    | succ fu =>
      have hp : x < L := by omega
      have e8 : t 8 = t0 8 := h4.b
      have hs : eDf (t0 8) (j + 1) x = if isD (t0 8 x) then eDf (t0 8) j (x + 1) else x := rfl
      have hi := eDf_in (t0 8) j (x + 1)
      rw [f_X12_next0_126, h5, bd_e (e_see1 (h4.l hL) hL4 hp), bd_e (e_mdig _ _), bI_z, e8, hs]
      by_cases c : isD (t0 8 x)
      · rw [if_pos c, if_pos c, jn_s, h5, h6, wr_n (x := (q : Int) + 4) (by omega)]
        by_cases c4 : (x : Int) < (q : Int) + 4
        · have hv := h8 (by omega)
          have hvi := Vb_in hv
          have hv' := Vb_s hv (by omega) c
          rw [if_pos c4, bd_e (e_see1 (h4.l hL) hL4 hp), h7, e8, wr_n (x := 10 * v) (by omega), wr_n (x := 10 * v + t0 8 x) (by omega), wr_n (x := 10 * v + t0 8 x - 48) (by omega), lm_s]
          show ∃ t1 : Mem, (lm _ _) = k t1 ∧ _
          rw [mup_n (a := 0) (Or.inr (by decide)), h5, wr_s (by omega), lm_s]
          have em : 10 * v = v * 10 := Int.mul_comm 10 v
          rw [em]
          obtain ⟨t1, a1, a2, a3, a4, a5⟩ := ih fu (x + 1) (mup (mup t 0 20 (v * 10 + t0 8 x - 48)) 0 17 ((x + 1 : Nat) : Int)) (v * 10 + t0 8 x - 48) (by omega) (by omega) (by omega) ((h4.up (by decide) _).up (by decide) _) (mup_e rfl rfl) (by rw [mup_n (Or.inr (by decide)), mup_n (Or.inr (by decide))]; exact h6) (by rw [mup_n (Or.inr (by decide)), mup_e rfl rfl]) (fun _ => hv')
          refine ⟨t1, a1, a2, a3, a4, ?_⟩
          rw [a5]
          have en : min (eDf (t0 8) j (x + 1) - q) 4 - (x - q) = (min (eDf (t0 8) j (x + 1) - q) 4 - (x + 1 - q)) + 1 := by omega
          rw [en]
          rfl
        · rw [if_neg c4]
          show ∃ t1 : Mem, (lm (mup t 0 17 (wr ((t 0 17) + 1))) fun s39 => f_X12_next0_126 0 k fu s39) = k t1 ∧ _
          rw [h5, wr_s (by omega), lm_s]
          obtain ⟨t1, a1, a2, a3, a4, a5⟩ := ih fu (x + 1) (mup t 0 17 ((x + 1 : Nat) : Int)) v (by omega) (by omega) (by omega) (h4.up (by decide) _) (mup_e rfl rfl) (by rw [mup_n (Or.inr (by decide))]; exact h6) (by rw [mup_n (Or.inr (by decide))]; exact h7) (fun z => by omega)
          refine ⟨t1, a1, a2, a3, a4, ?_⟩
          rw [a5]
          have en : min (eDf (t0 8) j (x + 1) - q) 4 - (x - q) = 0 := by omega
          have en2 : min (eDf (t0 8) j (x + 1) - q) 4 - (x + 1 - q) = 0 := by omega
          rw [en, en2]
          rfl
      · have en : min (x - q) 4 - (x - q) = 0 := by omega
        rw [if_neg c, if_neg c, en]
        exact ⟨t, rfl, h4, h5, h6, h7⟩
end
/-- the model stands at the first of these tokens -/
def MT (B : Int → Int) (L : Nat) (t : Mem) : List Tk → Prop
  | [] => False
  | x :: R => t 0 18 = tkm (t 0 12) x.1 ∧ t 0 19 = x.2.2 ∧ (x.1 = 31 → t 0 20 = x.2.1) ∧ ((x.1 = 30 ∧ R = []) ∨ (x.1 ≠ 30 ∧ ∃ p : Nat, t 0 17 = p ∧ p ≤ L ∧ R = TL B L p))
theorem kw_in (B : Int → Int) (p e : Int) : kw B p e = 32 ∨ (0 ≤ kw B p e ∧ kw B p e < 27) := by
  rcases kw_is B p e with ⟨a1, a2⟩ | ⟨k, a1, a2, a3, a4⟩
  · exact Or.inl a1
  · exact Or.inr (by omega)
theorem tokc_30 {B : Int → Int} {L p : Nat} : tokc B L p ≠ 30 := by
  unfold tokc
  by_cases c1 : isL (B p)
  · rw [if_pos c1]
    have := kw_in B p (eL B L (p + 1) : Nat)
    omega
  · rw [if_neg c1]
    by_cases c2 : isD (B p)
    · rw [if_pos c2]
      split
      · decide
      · decide
    · rw [if_neg c2]
      by_cases c3 : isS (B p)
      · rw [if_pos c3]
        omega
      · rw [if_neg c3]
        decide
theorem m_next {t : Mem} {L p : Nat} (hL : t 0 16 = L) (hL4 : L ≤ 400) (hB : Byt (t 8) L) (hr : 0 ≤ t 0 12 ∧ t 0 12 ≤ 3) (hp : t 0 17 = p) (hpL : p ≤ L) : ∃ t1 : Mem, f_X12_next0 0 t = some (0, t1) ∧ Fr4 t t1 ∧ MT (t 8) L t1 (TL (t 8) L p) := by
  unfold f_X12_next0
  rw [jn_s]
  obtain ⟨t1, q, a1, a2, a3, a4, a5, a6⟩ := m_sk (t0 := t) (L := L) (k := fun (s1 : Mem) => lm (mup s1 0 19 (s1 0 17)) fun s2 => bd (f_X12_see 0 (s2 0 17) s2) fun r3 s4 => if r3 = (-1) then (lm (mup s4 0 18 0) fun s6 => some (0, s6)) else (bd (f_X12_isLetter r3 s4) fun r7 s8 => if r7 = 0 then (bd (f_X12_isDigit r3 s8) fun r10 s11 => if r10 = 0 then (lm (mup s11 0 17 (wr ((s11 0 17) + 1))) fun s13 => jn (fun (y14 : Int) => jn (fun (y15 : Int) => lm (mup s13 0 18 y15) fun s16 => some (0, s16)) fun j303 => if y14 = 0 then (j303 1) else (j303 (wr (100 + r3)))) fun j289 => jn (fun (_ : Unit) => j289 1) fun j284 => if r3 = 59 then (j284 ()) else (if r3 = 43 then (j284 ()) else (if r3 = 45 then (j284 ()) else (if r3 = 42 then (j284 ()) else (if r3 = 47 then (j284 ()) else (if r3 = 40 then (j284 ()) else (if r3 = 41 then (j284 ()) else (if r3 = 60 then (j284 ()) else (if r3 = 61 then (j284 ()) else (if r3 = 62 then (j284 ()) else (j289 0))))))))))) else (lm (mup s11 0 20 0) fun s28 => jn (fun (s29 : Mem) => jn (fun (y30 : Int) => lm (mup s29 0 18 y30) fun s31 => some (0, s31)) fun j208 => if wr ((s29 0 17) - (s29 0 19)) < 5 then (j208 2) else (j208 1)) fun j189 => f_X12_next0_126 0 j189 FU s28)) else (jn (fun (s44 : Mem) => bd (f_X12_word 0 s44) fun r45 s46 => lm (mup s46 0 18 r45) fun s47 => some (0, s47)) fun j103 => f_X12_next0_76 0 j103 FU s8))) hL hL4 (L - p) FU p t (fu_lt (by omega)) rfl hpL (Fr4.rf t) hp
  rw [a1, a5, a3, lm_s]
  have f2 := a2.up (i := 19) (by decide) (q : Int)
  have u17 : mup t1 0 19 (q : Int) 0 17 = q := by rw [mup_n (Or.inr (by decide))]; exact a3
  have u19 : mup t1 0 19 (q : Int) 0 19 = q := mup_e rfl rfl
  generalize mup t1 0 19 (q : Int) = t2 at f2 u17 u19
  have u12 : t2 0 12 = t 0 12 := f2.2 12 (by decide) (by decide) (by decide) (by decide)
  by_cases hq : q < L
  · have hs := a6 hq
    have hb := hB q (by omega) (by omega)
    have e8 : t2 8 = t 8 := f2.b
    rw [u17, bd_e (e_see1 (f2.l hL) hL4 hq), e8, if_neg (by omega), bd_e (e_mlet _ _), bI_z, TL_tk hq hs]
    have ht := toke_in (t 8) hq
    by_cases cl : isL (t 8 q)
    · rw [if_pos cl, jn_s]
      -- the first letter is taken as all are
      have hL1 : L - q = (L - (q + 1)) + 1 := by omega
      obtain ⟨t3, b1, b2, b3, b4, b5⟩ := m_le (t0 := t) (L := L) (k := fun (s44 : Mem) => bd (f_X12_word 0 s44) fun r45 s46 => lm (mup s46 0 18 r45) fun s47 => some (0, s47)) hL hL4 (L - q) FU q t2 (fu_lt (by omega)) rfl f2 u17
      have ee : eLf (t 8) (L - q) q = eL (t 8) L (q + 1) := by
        rw [hL1]
        show (if isL (t 8 q) then eLf (t 8) (L - (q + 1)) (q + 1) else q) = _
        rw [if_pos cl]
        rfl
      have et : eL (t 8) L (q + 1) = toke (t 8) L q := by
        unfold toke
        rw [if_pos cl]
      rw [ee] at b3
      have b12 : t3 0 12 = t 0 12 := b2.2 12 (by decide) (by decide) (by decide) (by decide)
      have e83 : t3 8 = t 8 := b2.b
      have ec : kw (t 8) q (eL (t 8) L (q + 1) : Nat) = tokc (t 8) L q := by
        unfold tokc
        rw [if_pos cl]
      have hw := m_word (t := t3) (p := (q : Int)) (e := ((eL (t 8) L (q + 1) : Nat) : Int)) (by rw [b4]; exact u19) b3 (by omega) (by omega) (by rw [b12]; exact hr)
      rw [b12, e83, ec] at hw
      rw [b1, bd_e hw, lm_s]
      refine ⟨_, rfl, b2.up (by decide) _, ?_, ?_, fun z => ?_, Or.inr ⟨tokc_30, toke (t 8) L q, ?_, ht.2, rfl⟩⟩
      · rw [mup_e rfl rfl, mup_n (Or.inr (by decide)), b12]
      · rw [mup_n (Or.inr (by decide)), b4]
        exact u19
      · exfalso
        have := kw_in (t 8) q (eL (t 8) L (q + 1) : Nat)
        rw [ec] at this
        have z' : tokc (t 8) L q = 31 := z
        omega
      · rw [mup_n (Or.inr (by decide)), b3, et]
    · rw [if_neg cl, bd_e (e_mdig _ _), bI_z]
      by_cases cd : isD (t 8 q)
      · rw [if_pos cd, lm_s, jn_s]
        have hL1 : L - q = (L - (q + 1)) + 1 := by omega
        obtain ⟨t3, b1, b2, b3, b4, b5⟩ := m_di (t0 := t) (L := L) (k := fun (s29 : Mem) => jn (fun (y30 : Int) => lm (mup s29 0 18 y30) fun s31 => some (0, s31)) fun j208 => if wr ((s29 0 17) - (s29 0 19)) < 5 then (j208 2) else (j208 1)) hL hL4 (q := q) (by omega) (L - q) FU q (mup t2 0 20 0) 0 (fu_lt (by omega)) rfl (Nat.le_refl q) (f2.up (by decide) _) (by rw [mup_n (Or.inr (by decide))]; exact u17) (by rw [mup_n (Or.inr (by decide))]; exact u19) (mup_e rfl rfl) (fun _ => ⟨by decide, Or.inl ⟨rfl, rfl⟩⟩)
        have ee : eDf (t 8) (L - q) q = eD (t 8) L (q + 1) := by
          rw [hL1]
          show (if isD (t 8 q) then eDf (t 8) (L - (q + 1)) (q + 1) else q) = _
          rw [if_pos cd]
          rfl
        have et : eD (t 8) L (q + 1) = toke (t 8) L q := by
          unfold toke
          rw [if_neg cl, if_pos cd]
        have ev : vl (t 8) (min (eD (t 8) L (q + 1) - q) 4) q 0 = tokv (t 8) L q := by
          unfold tokv
          rw [if_neg cl, if_pos cd]
        have ec : (if 4 < (eD (t 8) L (q + 1) : Int) - q then (32 : Int) else 31) = tokc (t 8) L q := by
          unfold tokc
          rw [if_neg cl, if_pos cd]
        have e0 : q - q = 0 := Nat.sub_self q
        rw [ee] at b3 b5
        rw [e0, Nat.sub_zero, ev] at b5
        rw [et] at b3 ec
        have b12 : t3 0 12 = t 0 12 := b2.2 12 (by decide) (by decide) (by decide) (by decide)
        rw [b1, jn_s, b3, b4, wr_n (x := ((toke (t 8) L q : Nat) : Int) - q) (by omega)]
        have fin : ∀ y : Int, y = tkm (t 0 12) (tokc (t 8) L q) → ∃ t4 : Mem, (lm (mup t3 0 18 y) fun s31 => some (0, s31)) = some (0, t4) ∧ Fr4 t t4 ∧ MT (t 8) L t4 ((tokc (t 8) L q, tokv (t 8) L q, (q : Int)) :: TL (t 8) L (toke (t 8) L q)) := by
          intro y hy
          rw [lm_s]
          refine ⟨_, rfl, b2.up (by decide) _, ?_, ?_, fun z => ?_, Or.inr ⟨tokc_30, toke (t 8) L q, ?_, ht.2, rfl⟩⟩
          · rw [mup_e rfl rfl, mup_n (Or.inr (by decide)), b12, hy]
          · rw [mup_n (Or.inr (by decide))]
            exact b4
          · rw [mup_n (Or.inr (by decide))]
            exact b5
          · rw [mup_n (Or.inr (by decide))]
            exact b3
        by_cases c5 : ((toke (t 8) L q : Nat) : Int) - q < 5
        · rw [if_pos c5]
          refine fin 2 ?_
          rw [← ec, if_neg (by omega)]
          rfl
        · rw [if_neg c5]
          refine fin 1 ?_
          rw [← ec, if_pos (by omega)]
          rfl
      · rw [if_neg cd, u17, wr_s (by omega), lm_s]
        have et : q + 1 = toke (t 8) L q := by
          unfold toke
          rw [if_neg cl, if_neg cd]
        have f3 := f2.up (i := 17) (by decide) ((q + 1 : Nat) : Int)
        have v17 : mup t2 0 17 ((q + 1 : Nat) : Int) 0 17 = (toke (t 8) L q : Nat) := by rw [mup_e rfl rfl, et]
        have v19 : mup t2 0 17 ((q + 1 : Nat) : Int) 0 19 = q := by rw [mup_n (Or.inr (by decide))]; exact u19
        have v12 : mup t2 0 17 ((q + 1 : Nat) : Int) 0 12 = t 0 12 := by rw [mup_n (Or.inr (by decide))]; exact u12
        generalize mup t2 0 17 ((q + 1 : Nat) : Int) = t3 at f3 v17 v19 v12
        have fin : ∀ y : Int, y = tkm (t 0 12) (tokc (t 8) L q) → tokc (t 8) L q ≠ 31 → ∃ t4 : Mem, (lm (mup t3 0 18 y) fun s31 => some (0, s31)) = some (0, t4) ∧ Fr4 t t4 ∧ MT (t 8) L t4 ((tokc (t 8) L q, tokv (t 8) L q, (q : Int)) :: TL (t 8) L (toke (t 8) L q)) := by
          intro y hy hne
          rw [lm_s]
          refine ⟨_, rfl, f3.up (by decide) _, ?_, ?_, fun z => absurd z hne, Or.inr ⟨tokc_30, toke (t 8) L q, ?_, ht.2, rfl⟩⟩
          · rw [mup_e rfl rfl, mup_n (Or.inr (by decide)), v12, hy]
          · rw [mup_n (Or.inr (by decide))]
            exact v19
          · rw [mup_n (Or.inr (by decide))]
            exact v17
        rw [jn_s, jn_s]
        have fs : isS (t 8 q) → ∃ t4 : Mem, (jn (fun (y15 : Int) => lm (mup t3 0 18 y15) fun s16 => some (0, s16)) fun j303 => if (1 : Int) = 0 then (j303 1) else (j303 (wr (100 + t 8 q)))) = some (0, t4) ∧ Fr4 t t4 ∧ MT (t 8) L t4 ((tokc (t 8) L q, tokv (t 8) L q, (q : Int)) :: TL (t 8) L (toke (t 8) L q)) := by
          intro hsg
          have ec : t 8 q = tokc (t 8) L q := by
            unfold tokc
            rw [if_neg cl, if_neg cd, if_pos hsg]
          rw [jn_s, if_neg (by decide), wr_n (x := 100 + t 8 q) (by omega)]
          refine fin _ ?_ (by rw [← ec]; omega)
          rw [← ec]
          unfold tkm
          rw [if_neg (by omega), if_neg (by omega), if_neg (by omega), if_neg (by omega)]
        have fn : ¬ isS (t 8 q) → ∃ t4 : Mem, (jn (fun (y15 : Int) => lm (mup t3 0 18 y15) fun s16 => some (0, s16)) fun j303 => if (0 : Int) = 0 then (j303 1) else (j303 (wr (100 + t 8 q)))) = some (0, t4) ∧ Fr4 t t4 ∧ MT (t 8) L t4 ((tokc (t 8) L q, tokv (t 8) L q, (q : Int)) :: TL (t 8) L (toke (t 8) L q)) := by
          intro hsg
          have ec : (32 : Int) = tokc (t 8) L q := by
            unfold tokc
            rw [if_neg cl, if_neg cd, if_neg hsg]
          rw [jn_s, if_pos rfl]
          refine fin 1 ?_ (by rw [← ec]; decide)
          rw [← ec]
          rfl
        by_cases k0 : t 8 q = 59
        · rw [if_pos k0]
          exact fs (by omega)
        rw [if_neg k0]
        by_cases k1 : t 8 q = 43
        · rw [if_pos k1]
          exact fs (by omega)
        rw [if_neg k1]
        by_cases k2 : t 8 q = 45
        · rw [if_pos k2]
          exact fs (by omega)
        rw [if_neg k2]
        by_cases k3 : t 8 q = 42
        · rw [if_pos k3]
          exact fs (by omega)
        rw [if_neg k3]
        by_cases k4 : t 8 q = 47
        · rw [if_pos k4]
          exact fs (by omega)
        rw [if_neg k4]
        by_cases k5 : t 8 q = 40
        · rw [if_pos k5]
          exact fs (by omega)
        rw [if_neg k5]
        by_cases k6 : t 8 q = 41
        · rw [if_pos k6]
          exact fs (by omega)
        rw [if_neg k6]
        by_cases k7 : t 8 q = 60
        · rw [if_pos k7]
          exact fs (by omega)
        rw [if_neg k7]
        by_cases k8 : t 8 q = 61
        · rw [if_pos k8]
          exact fs (by omega)
        rw [if_neg k8]
        by_cases k9 : t 8 q = 62
        · rw [if_pos k9]
          exact fs (by omega)
        rw [if_neg k9]
        exact fn (by omega)
  · rw [u17, bd_e (e_see0 (f2.l hL) hq), if_pos rfl, lm_s, TL_end hq]
    have eq : q = L := by omega
    refine ⟨_, rfl, f2.up (by decide) _, ?_, ?_, fun z => absurd (show (30 : Int) = 31 from z) (by decide), Or.inl ⟨rfl, rfl⟩⟩
    · rw [mup_e rfl rfl]
      rfl
    · rw [mup_n (Or.inr (by decide)), u19, eq]

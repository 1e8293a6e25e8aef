/-! ===== L3: texts: VILLAGES put in; tokens of two tapes ===== -/
theorem m_putsVil {s t : Mem} {n : Nat} (h : VlR s t n) : ∃ t1 : Mem, f_X12_putsVillages 0 t = some ((n : Int), t1) ∧ (∀ e : Nat, e ≠ 1 → t1 e = t e) ∧ (∀ y : Int, y ≠ 62 → ¬ (197 ≤ y ∧ y < 222) → t1 1 y = t 1 y) ∧ t1 1 62 = n ∧ WV (t1 1) ∧ ∀ v : Int, 0 ≤ v → v < 12 → s 253 v = t1 1 (198 + v) ∧ s 254 v = t1 1 (210 + v) := by
  obtain ⟨hC, hF, h15, hM⟩ := h
  have n12 := hC.le
  obtain ⟨c1, c2, c3⟩ := hC
  unfold f_X12_putsVillages
  simp only [Nat.zero_add]
  rw [gd_t (by decide), h15, lm_s, gd_t (by decide), lm_s]
  show ∃ t1 : Mem, jn _ _ = _ ∧ _
  rw [jn_s]
  obtain ⟨t2, a1, a2, a3, a4⟩ := m_p22 (k := fun s5 => jn (fun (s6 : Mem) => jn (fun (s7 : Mem) => some (s7 0 15, s7)) fun j235 => f_X12_putsVillages_183 0 j235 FU 0 s6) fun j181 => f_X12_putsVillages_58 0 j181 FU 0 s5) 12 FU 0 (mup (mup t 1 62 (n : Int)) 1 197 0) (fu_lt (by decide)) (Int.le_refl 0) rfl (fun v g1 g2 => by omega)
  rw [a1]
  show ∃ t1 : Mem, jn _ _ = _ ∧ _
  rw [jn_s]
  have e62 : t2 1 62 = n := by rw [a3 62 (by omega), mup_n (Or.inr (by decide)), mup_e rfl rfl]
  have e197 : t2 1 197 = 0 := by rw [a3 197 (by omega), mup_e rfl rfl]
  have e15 : t2 0 15 = n := by rw [a2 0 (by decide), mup_o (by decide), mup_o (by decide)]; exact h15
  have e7 : t2 7 = t 7 := by rw [a2 7 (by decide), mup_o (by decide), mup_o (by decide)]
  have eo : ∀ e : Nat, e ≠ 1 → t2 e = t e := fun e he => by rw [a2 e he, mup_o he, mup_o he]
  have ew : ∀ y : Int, y ≠ 62 → ¬ (197 ≤ y ∧ y < 222) → t2 1 y = t 1 y := fun y g1 g2 => by rw [a3 y (by omega), mup_n (Or.inr (by omega)), mup_n (Or.inr g1)]
  have no0 : ∀ v : Int, ¬ toldB (t 7) 0 v := fun v ⟨q, q1, q2, _⟩ => by omega
  have P0 : PV (t 7) (s 253) (t2 1) 0 := by
    refine ⟨⟨by rw [e197]; decide, fun v g1 g2 => ?_⟩, fun v g1 g2 => ⟨fun q => absurd q (no0 v), fun _ => (a4 v g1 g2).1⟩, fun a b g1 g2 g3 g4 => ?_⟩
    · rw [e197]
      exact ⟨fun q => absurd q (bt_0 ⟨g1, g2⟩), fun q => absurd q (no0 v)⟩
    · rw [(a4 a g1 g2).2]
      exact ⟨by decide, fun q => absurd q (bt_0 ⟨g3, g4⟩), fun ⟨q, q1, q2, _⟩ => by omega⟩
  obtain ⟨t3, b1, b2, b3, b4⟩ := m_p58 (k := fun s6 => jn (fun (s7 : Mem) => some (s7 0 15, s7)) fun j235 => f_X12_putsVillages_183 0 j235 FU 0 s6) n12 hM (fun v g1 g2 => (c3 v g1 g2).2) n FU 0 t2 (fu_lt (by omega)) (Int.le_refl 0) (by omega) e15 e7 P0
  rw [b1]
  show ∃ t1 : Mem, jn _ _ = _ ∧ _
  rw [jn_s]
  obtain ⟨⟨p1, p2⟩, p3, p4⟩ := b4
  obtain ⟨t4, d1, d2, d3, d4⟩ := m_p183 (k := fun s7 => some (s7 0 15, s7)) (T0 := t3 1 197) (Rl := saidB (t 7) n) p1 12 FU 0 t3 (fu_lt (by decide)) (Int.le_refl 0) rfl rfl (fun a b g1 g2 g3 g4 => ⟨(p4 a b g1 g2 g3 g4).1, (p4 a b g1 g2 g3 g4).2.trans ⟨fun q => ⟨q, fun z => absurd z (by omega)⟩, fun q => q.1⟩⟩)
  have tA : ∀ v : Int, 0 ≤ v → v < 12 → (toldB (t 7) n v ↔ 0 < s 253 v) := fun v g1 g2 => by
    constructor
    · rintro ⟨q, q1, q2, q3⟩
      obtain ⟨-, w2, w3, -⟩ := hM.1 q q1 q2
      rw [← q3, w3]
      exact w2
    · intro q
      obtain ⟨i, i1, i2, i3⟩ := hM.2 v g1 g2 q
      exact ⟨i, i1, i2, i3⟩
  have A198 : ∀ v : Int, 0 ≤ v → v < 12 → s 253 v = t4 1 (198 + v) := fun v g1 g2 => by
    rw [d3 _ (by omega)]
    have := (c3 v g1 g2).1
    by_cases c : 0 < s 253 v
    · exact ((p3 v g1 g2).1 ((tA v g1 g2).mpr c)).symm
    · rw [(p3 v g1 g2).2 (fun q => c ((tA v g1 g2).mp q))]
      omega
  have B197 : ∀ v : Int, 0 ≤ v → v < 12 → (bt (t3 1 197) v = 1 ↔ 0 < s 253 v) := fun v g1 g2 => (p2 v g1 g2).trans (tA v g1 g2)
  have F210 : ∀ v : Int, 0 ≤ v → v < 12 → s 254 v = t4 1 (210 + v) := fun a g1 g2 => by
    refine bt_ext (hF a a g1 g2 g1 g2).1 (d4 a a g1 g2 g1 g2).1 (fun b g3 g4 => ?_)
    rw [(hF a b g1 g2 g3 g4).2, (d4 a b g1 g2 g3 g4).2]
    show _ ↔ saidB (t 7) n a b ∧ bt (t3 1 197) a = 1 ∧ bt (t3 1 197) b = 1
    rw [B197 a g1 g2, B197 b g3 g4]
    unfold VlR0
    constructor
    · rintro ⟨x1, x2, x3⟩
      refine ⟨?_, x1, x2⟩
      rcases x3 with x3 | x3
      · obtain ⟨i, i1, i2, i3⟩ := hM.2 a g1 g2 x1
        have := (hM.1 i i1 i2).2.2.2
        rw [i3] at this
        exact ⟨i, i1, i2, Or.inl ⟨i3, by rw [← this]; exact x3⟩⟩
      · obtain ⟨i, i1, i2, i3⟩ := hM.2 b g3 g4 x2
        have := (hM.1 i i1 i2).2.2.2
        rw [i3] at this
        exact ⟨i, i1, i2, Or.inr ⟨i3, by rw [← this]; exact x3⟩⟩
    · rintro ⟨⟨i, i1, i2, i3⟩, x1, x2⟩
      refine ⟨x1, x2, ?_⟩
      have := (hM.1 i i1 i2).2.2.2
      rcases i3 with ⟨y1, y2⟩ | ⟨y1, y2⟩
      · rw [y1] at this
        exact Or.inl (by rw [this]; exact y2)
      · rw [y1] at this
        exact Or.inr (by rw [this]; exact y2)
  have E197 : t4 1 197 = t3 1 197 := d3 197 (by omega)
  have E62 : t4 1 62 = n := by rw [d3 62 (by omega), b3 62 (by omega), e62]
  refine ⟨t4, ?_, fun e he => by rw [d2 e he, b2 e he, eo e he], fun y g1 g2 => by rw [d3 y (by omega), b3 y g2, ew y g1 g2], E62, ⟨?_, ?_, fun v g1 g2 => ⟨?_, ?_, ?_, ?_⟩⟩, fun v g1 g2 => ⟨A198 v g1 g2, F210 v g1 g2⟩⟩
  · rw [d1, d2 0 (by decide), b2 0 (by decide), e15]
  · rw [E62]
    omega
  · rw [E197]
    exact p1
  · rw [← A198 v g1 g2]
    exact (c3 v g1 g2).1
  · rw [← A198 v g1 g2, E197]
    exact B197 v g1 g2
  · exact (d4 v v g1 g2 g1 g2).1
  · rw [E197]
    refine bt_ext (M12_and (d4 v v g1 g2 g1 g2).1 p1).1 (d4 v v g1 g2 g1 g2).1 (fun b g3 g4 => ?_)
    rw [(M12_and (d4 v v g1 g2 g1 g2).1 p1).2 b g3 g4, (d4 v b g1 g2 g3 g4).2]
    exact ⟨fun q => q.1, fun q => ⟨q, q.2.2⟩⟩
section
variable {B B' : Int → Int} {L : Nat}
theorem eLf_cg (hB : ∀ i : Int, 0 ≤ i → i < L → B' i = B i) : ∀ (j p : Nat), p + j ≤ L → eLf B' j p = eLf B j p
  | 0, _, _ => rfl
  | j + 1, p, h => by
    show (if isL (B' p) then eLf B' j (p + 1) else p) = (if isL (B p) then eLf B j (p + 1) else p)
    rw [hB p (by omega) (by omega), eLf_cg hB j (p + 1) (by omega)]
theorem eDf_cg (hB : ∀ i : Int, 0 ≤ i → i < L → B' i = B i) : ∀ (j p : Nat), p + j ≤ L → eDf B' j p = eDf B j p
  | 0, _, _ => rfl
  | j + 1, p, h => by
    show (if isD (B' p) then eDf B' j (p + 1) else p) = (if isD (B p) then eDf B j (p + 1) else p)
    rw [hB p (by omega) (by omega), eDf_cg hB j (p + 1) (by omega)]
theorem vl_cg (hB : ∀ i : Int, 0 ≤ i → i < L → B' i = B i) : ∀ (j p : Nat) (v : Int), p + j ≤ L → vl B' j p v = vl B j p v
  | 0, _, _, _ => rfl
  | j + 1, p, v, h => by
    show vl B' j (p + 1) (v * 10 + B' p - 48) = vl B j (p + 1) (v * 10 + B p - 48)
    rw [hB p (by omega) (by omega), vl_cg hB j (p + 1) _ (by omega)]
theorem Mt_cg (hB : ∀ i : Int, 0 ≤ i → i < L → B' i = B i) {p e : Int} (hp : 0 ≤ p) (he : e ≤ L) (w : List Int) : Mt B' p e w ↔ Mt B p e w := by
  unfold Mt
  by_cases c : p + (w.length : Int) = e
  · rw [mtL_cg (lo := 0) (hi := L) hB w p hp (by omega)]
  · exact ⟨fun q => absurd q.2 c, fun q => absurd q.2 c⟩
theorem kwI_cg (hB : ∀ i : Int, 0 ≤ i → i < L → B' i = B i) {p e : Int} (hp : 0 ≤ p) (he : e ≤ L) : ∀ (ws : List (List Int)) (i : Int), kwI B' p e ws i = kwI B p e ws i
  | [], _ => rfl
  | w :: ws, i => by
    by_cases c : Mt B p e w
    · rw [kwI_t c, kwI_t ((Mt_cg hB hp he w).mpr c)]
    · rw [kwI_f c, kwI_f (fun q => c ((Mt_cg hB hp he w).mp q)), kwI_cg hB hp he ws (i + 1)]
theorem tok_cg (hB : ∀ i : Int, 0 ≤ i → i < L → B' i = B i) {p : Nat} (h : p < L) : tokc B' L p = tokc B L p ∧ tokv B' L p = tokv B L p ∧ toke B' L p = toke B L p := by
  have h1 := eLf_in B (L - (p + 1)) (p + 1)
  have h2 := eDf_in B (L - (p + 1)) (p + 1)
  have e1 : eL B' L (p + 1) = eL B L (p + 1) := eLf_cg hB _ _ (by omega)
  have e2 : eD B' L (p + 1) = eD B L (p + 1) := eDf_cg hB _ _ (by omega)
  have e3 : B' p = B p := hB p (by omega) (by omega)
  have l1 : eL B L (p + 1) ≤ L := by
    unfold eL
    omega
  have l2 : eD B L (p + 1) ≤ L ∧ p + 1 ≤ eD B L (p + 1) := by
    unfold eD
    omega
  refine ⟨?_, ?_, ?_⟩
  · unfold tokc
    rw [e1, e2, e3]
    unfold kw
    rw [kwI_cg hB (by omega) (by omega)]
  · unfold tokv
    rw [e2, e3, vl_cg hB _ _ _ (by omega)]
  · unfold toke
    rw [e1, e2, e3]
theorem TB_cg (hB : ∀ i : Int, 0 ≤ i → i < L → B' i = B i) : ∀ (j p : Nat), TB B' L j p = TB B L j p
  | 0, _ => rfl
  | j + 1, p => by
    show (if p < L then (if B' p = 32 ∨ B' p = 10 then TB B' L j (p + 1) else (tokc B' L p, tokv B' L p, (p : Int)) :: TB B' L j (toke B' L p)) else []) = (if p < L then (if B p = 32 ∨ B p = 10 then TB B L j (p + 1) else (tokc B L p, tokv B L p, (p : Int)) :: TB B L j (toke B L p)) else [])
    by_cases c : p < L
    · obtain ⟨a1, a2, a3⟩ := tok_cg hB c
      rw [if_pos c, if_pos c, hB p (by omega) (by omega), a1, a2, a3, TB_cg hB j, TB_cg hB j]
    · rw [if_neg c, if_neg c]
theorem TL_cg (hB : ∀ i : Int, 0 ≤ i → i < L → B' i = B i) (p : Nat) : TL B' L p = TL B L p := by
  unfold TL
  rw [TB_cg hB]
end

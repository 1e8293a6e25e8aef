/-! ===== L3: texts: the model puts VILLAGES in ===== -/
/-- the twelve sets are that relation -/
def FrR (w : Int → Int) (Rl : Int → Int → Prop) : Prop := ∀ a b : Int, 0 ≤ a → a < 12 → 0 ≤ b → b < 12 → M12 (w (210 + a)) ∧ (bt (w (210 + a)) b = 1 ↔ Rl a b)
theorem m_p134 {k : Mem → Res} {i v z : Int} (hi : 0 ≤ i ∧ i < 16) (hv : 0 ≤ v ∧ v < 12) (hz : M12 z) : ∀ (j fu : Nat) (x : Int) (t : Mem) (Rl : Int → Int → Prop), j < fu → 0 ≤ x → x + j = 12 → t 7 (3 * i + 2) = z → FrR (t 1) Rl →
    ∃ t1 : Mem, f_X12_putsVillages_134 0 i v k fu x t = k t1 ∧ (∀ e : Nat, e ≠ 1 → t1 e = t e) ∧ (∀ y : Int, ¬ (210 ≤ y ∧ y < 222) → t1 1 y = t 1 y) ∧ FrR (t1 1) (fun a b => Rl a b ∨ (x ≤ a ∧ b = v ∧ bt z a = 1)) := by
  intro j
  induction j with
  | zero =>
    intro fu x t Rl h1 h2 h3 h4 h5
    cases fu with
    | zero => exact absurd h1 (Nat.not_lt_zero _)
    | succ fu =>
      rw [f_X12_putsVillages_134, if_neg (by omega)]
      exact ⟨t, rfl, fun _ _ => rfl, fun _ _ => rfl, fun a b g1 g2 g3 g4 => ⟨(h5 a b g1 g2 g3 g4).1, (h5 a b g1 g2 g3 g4).2.trans ⟨Or.inl, fun q => q.elim id (fun y => by omega)⟩⟩⟩
  | succ j ih =>
    intro fu x t Rl h1 h2 h3 h4 h5
    cases fu with
    | zero => exact absurd h1 (Nat.not_lt_zero _)
    | succ fu =>
      have hx : 0 ≤ x ∧ x < 12 := by omega
      rw [f_X12_putsVillages_134, if_pos (by omega), wr_n (x := 210 + x) (by omega), wr_n (x := 3 * i) (by omega), wr_n (x := 3 * i + 2) (by omega), gd_t (by omega), gd_t (by omega), gd_t (by omega), lm_s, wr_n (x := x + 1) (by omega)]
      simp only [Nat.zero_add]
      rw [h4]
      obtain ⟨m1, m2⟩ := M12_b (bt_01 z x) hv
      obtain ⟨u1, u2⟩ := M12_or (h5 x 0 hx.1 hx.2 (by decide) (by decide)).1 m1
      have hb : iand (ishr z x) 1 = bt z x := rfl
      rw [hb]
      obtain ⟨t1, a1, a2, a3, a4⟩ := ih fu (x + 1) (mup t 1 (210 + x) (ior (t 1 (210 + x)) (ishl (bt z x) v))) (fun a b => Rl a b ∨ (a = x ∧ b = v ∧ bt z a = 1)) (by omega) (by omega) (by omega) (by rw [mup_o (by decide)]; exact h4) (fun a b g1 g2 g3 g4 => by
        rw [mup_row]
        by_cases e : a = x
        · rw [e, up_eq rfl]
          refine ⟨u1, (u2 b g3 g4).trans ?_⟩
          rw [(h5 x b hx.1 hx.2 g3 g4).2, m2 b g3 g4]
          exact or_congr Iff.rfl ⟨fun q => ⟨rfl, q.2, q.1⟩, fun q => ⟨q.2.2, q.2.1⟩⟩
        · rw [up_ne (by omega)]
          obtain ⟨p, q⟩ := h5 a b g1 g2 g3 g4
          exact ⟨p, q.trans ⟨Or.inl, fun y => y.elim id (fun y => absurd y.1 e)⟩⟩)
      refine ⟨t1, a1, fun e he => by rw [a2 e he, mup_o he], fun y hy => by rw [a3 y hy, mup_n (Or.inr (by omega))], fun a b g1 g2 g3 g4 => ⟨(a4 a b g1 g2 g3 g4).1, (a4 a b g1 g2 g3 g4).2.trans ⟨?_, ?_⟩⟩⟩
      · rintro ((q | q) | q)
        · exact Or.inl q
        · exact Or.inr ⟨by omega, q.2⟩
        · exact Or.inr ⟨by omega, q.2⟩
      · rintro (q | q)
        · exact Or.inl (Or.inl q)
        · by_cases e : a = x
          · exact Or.inl (Or.inr ⟨e, q.2⟩)
          · exact Or.inr ⟨by omega, q.2⟩
/-- what the rows told so far -/
def toldB (f : Int → Int) (n v : Int) : Prop := ∃ q : Int, 0 ≤ q ∧ q < n ∧ f (3 * q) = v
def saidB (f : Int → Int) (n a b : Int) : Prop := ∃ q : Int, 0 ≤ q ∧ q < n ∧ ((f (3 * q) = a ∧ bt (f (3 * q + 2)) b = 1) ∨ (f (3 * q) = b ∧ bt (f (3 * q + 2)) a = 1))
theorem toldB_s {f : Int → Int} {i v : Int} (hi : 0 ≤ i) : toldB f (i + 1) v ↔ toldB f i v ∨ v = f (3 * i) := by
  constructor
  · rintro ⟨q, q1, q2, q3⟩
    by_cases e : q = i
    · exact Or.inr (by rw [← q3, e])
    · exact Or.inl ⟨q, q1, by omega, q3⟩
  · rintro (⟨q, q1, q2, q3⟩ | q)
    · exact ⟨q, q1, by omega, q3⟩
    · exact ⟨i, hi, by omega, q.symm⟩
theorem saidB_s {f : Int → Int} {i a b : Int} (hi : 0 ≤ i) : saidB f (i + 1) a b ↔ saidB f i a b ∨ ((f (3 * i) = a ∧ bt (f (3 * i + 2)) b = 1) ∨ (f (3 * i) = b ∧ bt (f (3 * i + 2)) a = 1)) := by
  constructor
  · rintro ⟨q, q1, q2, q3⟩
    by_cases e : q = i
    · rw [e] at q3
      exact Or.inr q3
    · exact Or.inl ⟨q, q1, by omega, q3⟩
  · rintro (⟨q, q1, q2, q3⟩ | q)
    · exact ⟨q, q1, by omega, q3⟩
    · exact ⟨i, hi, by omega, q⟩
/-- so far put in: i rows -/
def PV (f A w : Int → Int) (i : Int) : Prop := (M12 (w 197) ∧ ∀ v : Int, 0 ≤ v → v < 12 → (bt (w 197) v = 1 ↔ toldB f i v)) ∧ (∀ v : Int, 0 ≤ v → v < 12 → (toldB f i v → w (198 + v) = A v) ∧ (¬ toldB f i v → w (198 + v) = 0)) ∧ FrR w (saidB f i)
theorem m_p58 {k : Mem → Res} {f A Z : Int → Int} {n : Nat} (hn : n ≤ 12) (hm : VlM f A Z n) (hZ : ∀ v : Int, 0 ≤ v → v < 12 → M12 (Z v)) : ∀ (j fu : Nat) (i : Int) (t : Mem), j < fu → 0 ≤ i → i + j = n → t 0 15 = n → t 7 = f → PV f A (t 1) i →
    ∃ t1 : Mem, f_X12_putsVillages_58 0 k fu i t = k t1 ∧ (∀ e : Nat, e ≠ 1 → t1 e = t e) ∧ (∀ y : Int, ¬ (197 ≤ y ∧ y < 222) → t1 1 y = t 1 y) ∧ PV f A (t1 1) n := by
  intro j
  induction j with
  | zero =>
    intro fu i t h1 h2 h3 h4 h5 h6
    cases fu with
    | zero => exact absurd h1 (Nat.not_lt_zero _)
    | succ fu =>
      rw [f_X12_putsVillages_58, h4, if_neg (by omega)]
      have e : i = n := by omega
      rw [e] at h6
      exact ⟨t, rfl, fun _ _ => rfl, fun _ _ => rfl, h6⟩
  | succ j ih =>
    intro fu i t h1 h2 h3 h4 h5 h6
    cases fu with
    | zero => exact absurd h1 (Nat.not_lt_zero _)
    | succ fu =>
      obtain ⟨⟨v1, v2⟩, v3, v4, v5⟩ := hm.1 i h2 (by omega)
      have hz : M12 (f (3 * i + 2)) := by
        rw [← v5]
        exact hZ _ v1 v2
      obtain ⟨⟨c1, c2⟩, c3, c4⟩ := h6
      obtain ⟨o1, o2⟩ := M12_1 ⟨v1, v2⟩
      obtain ⟨u1, u2⟩ := M12_or c1 o1
      obtain ⟨w1, w2⟩ := M12_or (c4 (f (3 * i)) 0 v1 v2 (by decide) (by decide)).1 hz
      have d7 : ∀ (x y : Int), mup t 1 x y 7 = f := fun x y => by rw [mup_o (by decide)]; exact h5
      have d72 : ∀ (x y x' y' : Int), mup (mup t 1 x y) 1 x' y' 7 = f := fun x y x' y' => by rw [mup_o (by decide)]; exact d7 x y
      have e2 : ∀ (x y : Int), mup (mup t 1 197 x) 1 (198 + f (3 * i)) y 1 (210 + f (3 * i)) = t 1 (210 + f (3 * i)) := fun x y => by rw [mup_n (Or.inr (by omega)), mup_n (Or.inr (by omega))]
      rw [f_X12_putsVillages_58, h4, if_pos (by omega)]
      simp only [Nat.zero_add]
      rw [h5, wr_n (x := 3 * i) (by omega), wr_n (x := 3 * i + 1) (by omega), wr_n (x := 3 * i + 2) (by omega), wr_n (x := 198 + f (3 * i)) (by omega), wr_n (x := 210 + f (3 * i)) (by omega), gd_t (by omega), gd_t (by decide), gd_t (by decide), lm_s, gd_t (by omega), gd_t (by omega), lm_s, gd_t (by omega), gd_t (by omega), gd_t (by omega), lm_s, d7, d72, e2, jn_s, wr_n (x := i + 1) (by omega)]
      have F0 : FrR (mup (mup (mup t 1 197 (ior (t 1 197) (ishl 1 (f (3 * i))))) 1 (198 + f (3 * i)) (f (3 * i + 1))) 1 (210 + f (3 * i)) (ior (t 1 (210 + f (3 * i))) (f (3 * i + 2))) 1) (fun a b => saidB f i a b ∨ (f (3 * i) = a ∧ bt (f (3 * i + 2)) b = 1)) := by
        intro a b g1 g2 g3 g4
        rw [mup_row, mup_row, mup_row]
        by_cases e : a = f (3 * i)
        · rw [e, up_eq rfl]
          refine ⟨w1, (w2 b g3 g4).trans ?_⟩
          rw [(c4 (f (3 * i)) b v1 v2 g3 g4).2]
          exact or_congr Iff.rfl ⟨fun q => ⟨rfl, q⟩, fun q => q.2⟩
        · rw [up_ne (by omega), up_ne (by omega), up_ne (by omega)]
          obtain ⟨p, q⟩ := c4 a b g1 g2 g3 g4
          exact ⟨p, q.trans ⟨Or.inl, fun y => y.elim id (fun y => absurd y.1.symm e)⟩⟩
      have R0 : ∀ y : Int, y ≠ 197 → y ≠ 198 + f (3 * i) → y ≠ 210 + f (3 * i) → mup (mup (mup t 1 197 (ior (t 1 197) (ishl 1 (f (3 * i))))) 1 (198 + f (3 * i)) (f (3 * i + 1))) 1 (210 + f (3 * i)) (ior (t 1 (210 + f (3 * i))) (f (3 * i + 2))) 1 y = t 1 y := fun y q1 q2 q3 => by rw [mup_n (Or.inr q3), mup_n (Or.inr q2), mup_n (Or.inr q1)]
      have R1 : mup (mup (mup t 1 197 (ior (t 1 197) (ishl 1 (f (3 * i))))) 1 (198 + f (3 * i)) (f (3 * i + 1))) 1 (210 + f (3 * i)) (ior (t 1 (210 + f (3 * i))) (f (3 * i + 2))) 1 197 = ior (t 1 197) (ishl 1 (f (3 * i))) := by rw [mup_n (Or.inr (by omega)), mup_n (Or.inr (by omega)), mup_e rfl rfl]
      have R2 : mup (mup (mup t 1 197 (ior (t 1 197) (ishl 1 (f (3 * i))))) 1 (198 + f (3 * i)) (f (3 * i + 1))) 1 (210 + f (3 * i)) (ior (t 1 (210 + f (3 * i))) (f (3 * i + 2))) 1 (198 + f (3 * i)) = f (3 * i + 1) := by rw [mup_n (Or.inr (by omega)), mup_e rfl rfl]
      have Ro : ∀ e : Nat, e ≠ 1 → mup (mup (mup t 1 197 (ior (t 1 197) (ishl 1 (f (3 * i))))) 1 (198 + f (3 * i)) (f (3 * i + 1))) 1 (210 + f (3 * i)) (ior (t 1 (210 + f (3 * i))) (f (3 * i + 2))) e = t e := fun e he => by rw [mup_o he, mup_o he, mup_o he]
      generalize mup (mup (mup t 1 197 (ior (t 1 197) (ishl 1 (f (3 * i))))) 1 (198 + f (3 * i)) (f (3 * i + 1))) 1 (210 + f (3 * i)) (ior (t 1 (210 + f (3 * i))) (f (3 * i + 2))) = t0 at F0 R0 R1 R2 Ro ⊢
      obtain ⟨t1, a1, a2, a3, a4⟩ := m_p134 (k := fun s31 => f_X12_putsVillages_58 0 k fu (i + 1) s31) (i := i) (v := f (3 * i)) (z := f (3 * i + 2)) (by omega) ⟨v1, v2⟩ hz 12 FU 0 t0 _ (fu_lt (by decide)) (Int.le_refl 0) rfl (by rw [Ro 7 (by decide), h5]) F0
      rw [a1]
      obtain ⟨t2, b1, b2, b3, b4⟩ := ih fu (i + 1) t1 (by omega) (by omega) (by omega) (by rw [a2 0 (by decide), Ro 0 (by decide)]; exact h4) (by rw [a2 7 (by decide), Ro 7 (by decide)]; exact h5) (by
        refine ⟨⟨?_, fun v g1 g2 => ?_⟩, fun v g1 g2 => ?_, fun a b g1 g2 g3 g4 => ?_⟩
        · rw [a3 197 (by omega), R1]
          exact u1
        · rw [a3 197 (by omega), R1, u2 v g1 g2, c2 v g1 g2, o2 v g1 g2]
          exact (toldB_s h2).symm
        · rw [a3 (198 + v) (by omega)]
          by_cases e : v = f (3 * i)
          · refine ⟨fun _ => ?_, fun q => absurd ((toldB_s h2).mpr (Or.inr e)) q⟩
            rw [e, R2, v4]
          · rw [R0 _ (by omega) (by omega) (by omega)]
            refine ⟨fun q => (c3 v g1 g2).1 (((toldB_s h2).mp q).resolve_right e), fun q => (c3 v g1 g2).2 (fun y => q ((toldB_s h2).mpr (Or.inl y)))⟩
        · obtain ⟨p, q⟩ := a4 a b g1 g2 g3 g4
          refine ⟨p, q.trans ?_⟩
          rw [saidB_s h2]
          constructor
          · rintro ((y | y) | y)
            · exact Or.inl y
            · exact Or.inr (Or.inl y)
            · exact Or.inr (Or.inr ⟨y.2.1.symm, y.2.2⟩)
          · rintro (y | y | y)
            · exact Or.inl (Or.inl y)
            · exact Or.inl (Or.inr y)
            · exact Or.inr ⟨g1, y.1.symm, y.2⟩)
      exact ⟨t2, b1, fun e he => by rw [b2 e he, a2 e he, Ro e he], fun y hy => by rw [b3 y hy, a3 y (by omega), R0 y (by omega) (by omega) (by omega)], b4⟩
theorem m_told {t : Mem} {v : Int} (hv : 0 ≤ v ∧ v < 12) : f_X12_isTold 0 v t = some (bI (bt (t 1 197) v = 1), t) := by
  unfold f_X12_isTold
  rw [bd_e (e_isIn _ _ _ _), bI_z, if_pos (by omega), gd_t (by decide), Nat.zero_add]
  have hb : iand (ishr (t 1 197) v) 1 = bt (t 1 197) v := rfl
  rw [hb]
  by_cases c : bt (t 1 197) v = 1
  · rw [if_pos c, bI_t c]
  · rw [if_neg c, bI_f c]
theorem m_p183 {k : Mem → Res} {T0 : Int} {Rl : Int → Int → Prop} (hT : M12 T0) : ∀ (j fu : Nat) (x : Int) (t : Mem), j < fu → 0 ≤ x → x + j = 12 → t 1 197 = T0 → FrR (t 1) (fun a b => Rl a b ∧ (a < x → bt T0 a = 1 ∧ bt T0 b = 1)) →
    ∃ t1 : Mem, f_X12_putsVillages_183 0 k fu x t = k t1 ∧ (∀ e : Nat, e ≠ 1 → t1 e = t e) ∧ (∀ y : Int, ¬ (210 ≤ y ∧ y < 222) → t1 1 y = t 1 y) ∧ FrR (t1 1) (fun a b => Rl a b ∧ (bt T0 a = 1 ∧ bt T0 b = 1)) := by
  intro j
  induction j with
  | zero =>
    intro fu x t h1 h2 h3 h4 h5
    cases fu with
    | zero => exact absurd h1 (Nat.not_lt_zero _)
    | succ fu =>
      rw [f_X12_putsVillages_183, if_neg (by omega)]
      exact ⟨t, rfl, fun _ _ => rfl, fun _ _ => rfl, fun a b g1 g2 g3 g4 => ⟨(h5 a b g1 g2 g3 g4).1, (h5 a b g1 g2 g3 g4).2.trans ⟨fun q => ⟨q.1, q.2 (by omega)⟩, fun q => ⟨q.1, fun _ => q.2⟩⟩⟩⟩
  | succ j ih =>
    intro fu x t h1 h2 h3 h4 h5
    cases fu with
    | zero => exact absurd h1 (Nat.not_lt_zero _)
    | succ fu =>
      have hx : 0 ≤ x ∧ x < 12 := by omega
      rw [f_X12_putsVillages_183, if_pos (by omega), bd_e (m_told hx), jn_s, bI_z, h4, wr_n (x := 210 + x) (by omega), wr_n (x := x + 1) (by omega)]
      simp only [Nat.zero_add]
      have nx : ∀ (t0 : Mem), (∀ e : Nat, e ≠ 1 → t0 e = t e) → (∀ y : Int, y ≠ 210 + x → t0 1 y = t 1 y) → (M12 (t0 1 (210 + x)) ∧ ∀ b : Int, 0 ≤ b → b < 12 → (bt (t0 1 (210 + x)) b = 1 ↔ Rl x b ∧ bt T0 x = 1)) → ∃ t1 : Mem, (gd ((0 : Int) ≤ 210 + x ∧ 210 + x < 1732) (gd ((0 : Int) ≤ 197 ∧ (197 : Int) < 1732) (gd ((0 : Int) ≤ 210 + x ∧ 210 + x < 1732) (lm (mup t0 1 (210 + x) (iand (t0 1 (210 + x)) (t0 1 197))) fun s15 => f_X12_putsVillages_183 0 k fu (x + 1) s15)))) = k t1 ∧ (∀ e : Nat, e ≠ 1 → t1 e = t e) ∧ (∀ y : Int, ¬ (210 ≤ y ∧ y < 222) → t1 1 y = t 1 y) ∧ FrR (t1 1) (fun a b => Rl a b ∧ (bt T0 a = 1 ∧ bt T0 b = 1)) := by
        intro t0 q1 q2 ⟨q3, q4⟩
        have e197 : t0 1 197 = T0 := (q2 197 (by omega)).trans h4
        obtain ⟨u1, u2⟩ := M12_and q3 hT
        rw [gd_t (by omega), gd_t (by decide), gd_t (by omega), lm_s, e197]
        obtain ⟨t1, a1, a2, a3, a4⟩ := ih fu (x + 1) (mup t0 1 (210 + x) (iand (t0 1 (210 + x)) T0)) (by omega) (by omega) (by omega) (by rw [mup_n (Or.inr (by omega))]; exact e197) (fun a b g1 g2 g3 g4 => by
          rw [mup_row]
          by_cases e : a = x
          · rw [e, up_eq rfl]
            refine ⟨u1, (u2 b g3 g4).trans ?_⟩
            rw [q4 b g3 g4]
            exact ⟨fun y => ⟨y.1.1, fun _ => ⟨y.1.2, y.2⟩⟩, fun y => ⟨⟨y.1, (y.2 (by omega)).1⟩, (y.2 (by omega)).2⟩⟩
          · rw [up_ne (by omega), q2 _ (by omega)]
            obtain ⟨p, q⟩ := h5 a b g1 g2 g3 g4
            exact ⟨p, q.trans ⟨fun y => ⟨y.1, fun z => y.2 (by omega)⟩, fun y => ⟨y.1, fun z => y.2 (by omega)⟩⟩⟩)
        exact ⟨t1, a1, fun e he => by rw [a2 e he, mup_o he, q1 e he], fun y hy => by rw [a3 y hy, mup_n (Or.inr (by omega)), q2 y (by omega)], a4⟩
      by_cases c : bt T0 x = 1
      · rw [if_pos c]
        refine nx t (fun _ _ => rfl) (fun _ _ => rfl) ⟨(h5 x 0 hx.1 hx.2 (by decide) (by decide)).1, fun b g3 g4 => (h5 x b hx.1 hx.2 g3 g4).2.trans ⟨fun y => ⟨y.1, c⟩, fun y => ⟨y.1, fun z => absurd z (by omega)⟩⟩⟩
      · rw [if_neg c, gd_t (by omega), lm_s]
        refine nx (mup t 1 (210 + x) 0) (fun e he => mup_o he) (fun y hy => mup_n (Or.inr hy)) ⟨?_, fun b g3 g4 => ?_⟩
        · rw [mup_e rfl rfl]
          decide
        · rw [mup_e rfl rfl]
          exact ⟨fun y => absurd y (bt_0 ⟨g3, g4⟩), fun y => absurd y.2 c⟩
theorem m_p22 {k : Mem → Res} : ∀ (j fu : Nat) (x : Int) (t : Mem), j < fu → 0 ≤ x → x + j = 12 → (∀ v : Int, 0 ≤ v → v < x → t 1 (198 + v) = 0 ∧ t 1 (210 + v) = 0) →
    ∃ t1 : Mem, f_X12_putsVillages_22 0 k fu x t = k t1 ∧ (∀ e : Nat, e ≠ 1 → t1 e = t e) ∧ (∀ y : Int, ¬ (198 ≤ y ∧ y < 222) → t1 1 y = t 1 y) ∧ (∀ v : Int, 0 ≤ v → v < 12 → t1 1 (198 + v) = 0 ∧ t1 1 (210 + v) = 0) := by
  intro j
  induction j with
  | zero =>
    intro fu x t h1 h2 h3 h4
    cases fu with
    | zero => exact absurd h1 (Nat.not_lt_zero _)
    | succ fu =>
      rw [f_X12_putsVillages_22, if_neg (by omega)]
      exact ⟨t, rfl, fun _ _ => rfl, fun _ _ => rfl, fun v g1 g2 => h4 v g1 (by omega)⟩
  | succ j ih =>
    intro fu x t h1 h2 h3 h4
    cases fu with
    | zero => exact absurd h1 (Nat.not_lt_zero _)
    | succ fu =>
      rw [f_X12_putsVillages_22, if_pos (by omega), wr_n (x := 198 + x) (by omega), wr_n (x := 210 + x) (by omega), wr_n (x := x + 1) (by omega), gd_t (by omega), lm_s, gd_t (by omega), lm_s]
      simp only [Nat.zero_add]
      obtain ⟨t1, a1, a2, a3, a4⟩ := ih fu (x + 1) (mup (mup t 1 (198 + x) 0) 1 (210 + x) 0) (by omega) (by omega) (by omega) (fun v g1 g2 => by
        rw [mup_row, mup_row]
        by_cases e : v = x
        · rw [e]
          exact ⟨by rw [up_ne (by omega), up_eq rfl], up_eq rfl⟩
        · by_cases e2 : 198 + v = 210 + x
          · omega
          · rw [up_ne e2, up_ne (show ¬ 198 + v = 198 + x by omega), up_ne (show ¬ 210 + v = 210 + x by omega), up_ne (show ¬ 210 + v = 198 + x by omega)]
            exact h4 v g1 (by omega))
      exact ⟨t1, a1, fun e he => by rw [a2 e he, mup_o he, mup_o he], fun y hy => by rw [a3 y hy, mup_n (Or.inr (by omega)), mup_n (Or.inr (by omega))], a4⟩

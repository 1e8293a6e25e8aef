/-! ===== L3: villages: who hears ===== -/
theorem n_andn {x s : Nat} (hx : x < 2147483648) : ∃ y : Nat, iand (x : Int) (ixor (s : Int) (-1)) = (y : Int) ∧ y ≤ x ∧ ∀ k : Nat, k < 32 → y.testBit k = (x.testBit k && !((Int32.ofInt (s : Int)).toBitVec.getLsbD k)) := by
  have e1 : Int32.ofInt (ixor (s : Int) (-1)) = Int32.ofInt (s : Int) ^^^ Int32.ofInt (-1) := by
    unfold ixor
    rw [Int32.ofInt_toInt]
  have e : iand (x : Int) (ixor (s : Int) (-1)) = ((Int32.ofInt (x : Int)).toBitVec &&& ((Int32.ofInt (s : Int)).toBitVec ^^^ BitVec.allOnes 32)).toInt := by
    unfold iand
    rw [e1]
    rfl
  have hy : ((Int32.ofInt (x : Int)).toBitVec &&& ((Int32.ofInt (s : Int)).toBitVec ^^^ BitVec.allOnes 32)).toNat ≤ x := by
    rw [BitVec.toNat_and, nv_ofn hx]
    exact Nat.and_le_left
  refine ⟨_, by rw [e, nv_toInt (by omega)], hy, fun k hk => ?_⟩
  have ex : x.testBit k = (Int32.ofInt (x : Int)).toBitVec.getLsbD k := by
    rw [← BitVec.testBit_toNat, nv_ofn hx]
  rw [ex, BitVec.testBit_toNat, BitVec.getLsbD_and, BitVec.getLsbD_xor, BitVec.getLsbD_allOnes]
  simp [hk]
def Sub (A B : Nat) : Prop := ∀ k : Nat, A.testBit k = true → B.testBit k = true
def Cls (f : Nat → Nat) (C : Nat) : Prop := ∀ o : Nat, o < 12 → C.testBit o = true → Sub (f o) C
theorem Sub.anti {A B : Nat} (h1 : Sub A B) (h2 : Sub B A) : A = B := by
  apply Nat.eq_of_testBit_eq
  intro k
  cases ha : A.testBit k with
  | true => rw [h1 k ha]
  | false =>
    cases hb : B.testBit k with
    | true =>
      have := h2 k hb
      rw [ha] at this
      cases this
    | false => rfl
def fl (c : Nat → Nat → Bool) (f : Nat → Nat) : Nat → Nat → Nat → Nat
  | 0, _, x => x
  | j + 1, i, x => fl c f j (i + 1) (if c i x = true then x ||| f i else x)
theorem sub_or1 (x y : Nat) : Sub x (x ||| y) := fun k h => by rw [Nat.testBit_or, h, Bool.true_or]
theorem sub_or2 (x y : Nat) : Sub y (x ||| y) := fun k h => by rw [Nat.testBit_or, h, Bool.or_true]
theorem sub_or {x y C : Nat} (h1 : Sub x C) (h2 : Sub y C) : Sub (x ||| y) C := fun k h => by
  rw [Nat.testBit_or, Bool.or_eq_true] at h
  exact h.elim (h1 k) (h2 k)
theorem fl_up (c : Nat → Nat → Bool) (f : Nat → Nat) : ∀ (j i x : Nat), Sub x (fl c f j i x)
  | 0, _, _ => fun _ h => h
  | j + 1, i, x => by
    show Sub x (fl c f j (i + 1) (if c i x = true then x ||| f i else x))
    by_cases h : c i x = true
    · rw [if_pos h]
      exact fun k hk => fl_up c f j (i + 1) _ k (sub_or1 x (f i) k hk)
    · rw [if_neg h]
      exact fl_up c f j (i + 1) x
theorem fl_has (c : Nat → Nat → Bool) (f : Nat → Nat) {o : Nat} : ∀ (j i x : Nat), i ≤ o → o < i + j → (∀ y : Nat, Sub x y → c o y = true) → Sub (f o) (fl c f j i x)
  | 0, i, x, h1, h2, _ => absurd h2 (by omega)
  | j + 1, i, x, h1, h2, hc => by
    show Sub (f o) (fl c f j (i + 1) (if c i x = true then x ||| f i else x))
    by_cases e : o = i
    · subst e
      rw [if_pos (hc x (fun _ h => h))]
      exact fun k hk => fl_up c f j (o + 1) _ k (sub_or2 x (f o) k hk)
    · refine fl_has c f j (i + 1) _ (by omega) (by omega) (fun y hy => hc y (fun k hk => hy k ?_))
      by_cases h : c i x = true
      · rw [if_pos h]
        exact sub_or1 x (f i) k hk
      · rw [if_neg h]
        exact hk
theorem fl_min (c : Nat → Nat → Bool) (f : Nat → Nat) {C : Nat} : ∀ (j i x : Nat), i + j ≤ 12 → Sub x C → (∀ o y : Nat, o < 12 → c o y = true → Sub y C → Sub (f o) C) → Sub (fl c f j i x) C
  | 0, _, _, _, h, _ => h
  | j + 1, i, x, h0, h, hc => by
    show Sub (fl c f j (i + 1) (if c i x = true then x ||| f i else x)) C
    by_cases q : c i x = true
    · rw [if_pos q]
      exact fl_min c f j (i + 1) _ (by omega) (sub_or h (hc i x (by omega) q h)) hc
    · rw [if_neg q]
      exact fl_min c f j (i + 1) x (by omega) h hc
theorem or_lt {x y : Nat} (hx : x < 4096) (hy : y < 4096) : x ||| y < 4096 := Nat.or_lt_two_pow (n := 12) hx hy
theorem fl_lt (c : Nat → Nat → Bool) {f : Nat → Nat} (hf : ∀ o : Nat, o < 12 → f o < 4096) : ∀ (j i x : Nat), i + j ≤ 12 → x < 4096 → fl c f j i x < 4096
  | 0, _, _, _, h => h
  | j + 1, i, x, h0, h => by
    show fl c f j (i + 1) (if c i x = true then x ||| f i else x) < 4096
    by_cases q : c i x = true
    · rw [if_pos q]
      exact fl_lt c hf j (i + 1) _ (by omega) (or_lt h (hf i (by omega)))
    · rw [if_neg q]
      exact fl_lt c hf j (i + 1) x (by omega) h
def cdn : Nat → Nat → Nat
  | 0, _ => 0
  | n + 1, x => cdn n x + (x.testBit n).toNat
theorem cdn_le : ∀ (n x : Nat), cdn n x ≤ n
  | 0, _ => Nat.le_refl 0
  | n + 1, x => by
    have h := cdn_le n x
    have : (x.testBit n).toNat ≤ 1 := Bool.toNat_le _
    show cdn n x + (x.testBit n).toNat ≤ n + 1
    omega
theorem cdn_sub {A B : Nat} (h : Sub A B) : ∀ n : Nat, cdn n A ≤ cdn n B ∧ (cdn n A = cdn n B → ∀ k : Nat, k < n → A.testBit k = B.testBit k)
  | 0 => ⟨Nat.le_refl 0, fun _ k hk => absurd hk (Nat.not_lt_zero k)⟩
  | n + 1 => by
    obtain ⟨h1, h2⟩ := cdn_sub h n
    have hb : (A.testBit n).toNat ≤ (B.testBit n).toNat ∧ ((A.testBit n).toNat = (B.testBit n).toNat → A.testBit n = B.testBit n) := by
      cases ha : A.testBit n with
      | true => rw [h n ha]; exact ⟨Nat.le_refl _, fun _ => rfl⟩
      | false =>
        cases hb : B.testBit n with
        | true => exact ⟨by decide, fun q => by cases q⟩
        | false => exact ⟨Nat.le_refl _, fun _ => rfl⟩
    show cdn n A + (A.testBit n).toNat ≤ cdn n B + (B.testBit n).toNat ∧ (cdn n A + (A.testBit n).toNat = cdn n B + (B.testBit n).toNat → _)
    refine ⟨by omega, fun q k hk => ?_⟩
    by_cases e : k = n
    · rw [e]
      exact hb.2 (by omega)
    · exact h2 (by omega) k (by omega)
theorem bit_hi {x k : Nat} (hx : x < 4096) (hk : 12 ≤ k) : x.testBit k = false := Nat.testBit_lt_two_pow (Nat.lt_of_lt_of_le hx (Nat.le_trans (show 4096 ≤ 2 ^ 12 by decide) (Nat.pow_le_pow_right (by decide) hk)))
theorem cd_eq {A B : Nat} (hA : A < 4096) (hB : B < 4096) (h : Sub A B) (hc : cdn 12 B ≤ cdn 12 A) : A = B := by
  obtain ⟨h1, h2⟩ := cdn_sub h 12
  apply Nat.eq_of_testBit_eq
  intro k
  by_cases hk : k < 12
  · exact h2 (by omega) k hk
  · rw [bit_hi hA (by omega), bit_hi hB (by omega)]
theorem pc_cd {x : Nat} (hx : x < 4096) : pc (x : Int) = (cdn 12 x : Int) := by
  have e : ∀ k : Nat, k < 32 → bt (x : Int) (k : Int) = ((x.testBit k).toNat : Int) := by
    intro k hk
    rw [n_bt (by omega) hk]
    cases x.testBit k
    · rfl
    · rfl
  have e0 := e 0 (by decide)
  have e1 := e 1 (by decide)
  have e2 := e 2 (by decide)
  have e3 := e 3 (by decide)
  have e4 := e 4 (by decide)
  have e5 := e 5 (by decide)
  have e6 := e 6 (by decide)
  have e7 := e 7 (by decide)
  have e8 := e 8 (by decide)
  have e9 := e 9 (by decide)
  have e10 := e 10 (by decide)
  have e11 := e 11 (by decide)
  have ec : cdn 12 x = 0 + (x.testBit 0).toNat + (x.testBit 1).toNat + (x.testBit 2).toNat + (x.testBit 3).toNat + (x.testBit 4).toNat + (x.testBit 5).toNat + (x.testBit 6).toNat + (x.testBit 7).toNat + (x.testBit 8).toNat + (x.testBit 9).toNat + (x.testBit 10).toNat + (x.testBit 11).toNat := rfl
  have c0 : ((0 : Nat) : Int) = 0 := rfl
  have c1 : ((1 : Nat) : Int) = 1 := rfl
  have c2 : ((2 : Nat) : Int) = 2 := rfl
  have c3 : ((3 : Nat) : Int) = 3 := rfl
  have c4 : ((4 : Nat) : Int) = 4 := rfl
  have c5 : ((5 : Nat) : Int) = 5 := rfl
  have c6 : ((6 : Nat) : Int) = 6 := rfl
  have c7 : ((7 : Nat) : Int) = 7 := rfl
  have c8 : ((8 : Nat) : Int) = 8 := rfl
  have c9 : ((9 : Nat) : Int) = 9 := rfl
  have c10 : ((10 : Nat) : Int) = 10 := rfl
  have c11 : ((11 : Nat) : Int) = 11 := rfl
  rw [c0] at e0
  rw [c1] at e1
  rw [c2] at e2
  rw [c3] at e3
  rw [c4] at e4
  rw [c5] at e5
  rw [c6] at e6
  rw [c7] at e7
  rw [c8] at e8
  rw [c9] at e9
  rw [c10] at e10
  rw [c11] at e11
  unfold pc
  rw [e0, e1, e2, e3, e4, e5, e6, e7, e8, e9, e10, e11, ec]
  omega
/-- round by round, to the end -/
def rd (f : Nat → Nat) (x : Nat) : Nat := fl (fun o y => y.testBit o) f 12 0 x
def rds (f : Nat → Nat) : Nat → Nat → Nat
  | 0, x => x
  | j + 1, x => rds f j (rd f x)
def Hd (f : Nat → Nat) (v R : Nat) : Prop := R.testBit v = true ∧ Cls f R ∧ (∀ C : Nat, C.testBit v = true → Cls f C → Sub R C) ∧ R < 4096
theorem Hd.eq {f : Nat → Nat} {v A B : Nat} (h1 : Hd f v A) (h2 : Hd f v B) : A = B := Sub.anti (h1.2.2.1 B h2.1 h2.2.1) (h2.2.2.1 A h1.1 h1.2.1)
theorem rds_hd {f : Nat → Nat} (hf : ∀ o : Nat, o < 12 → f o < 4096) {v : Nat} : ∀ (j k x : Nat), k + j = 12 → x.testBit v = true → (∀ C : Nat, C.testBit v = true → Cls f C → Sub x C) → x < 4096 → (Cls f x ∨ k + 1 ≤ cdn 12 x) → Hd f v (rds f j x)
  | 0, k, x, h1, h2, h3, h4, h5 => by
    refine ⟨h2, ?_, h3, h4⟩
    rcases h5 with h | h
    · exact h
    · have := cdn_le 12 x
      omega
  | j + 1, k, x, h1, h2, h3, h4, h5 => by
    have u := fl_up (fun o y => y.testBit o) f 12 0 x
    have l := fl_lt (fun o y => y.testBit o) hf 12 0 x (by decide) h4
    refine rds_hd hf j (k + 1) (rd f x) (by omega) (u v h2) (fun C hC hCl => ?_) l ?_
    · exact fl_min _ f 12 0 x (by decide) (h3 C hC hCl) (fun o y ho hc hy => hCl o ho (hy o hc))
    · by_cases e : rd f x = x
      · refine Or.inl (fun o ho hc => ?_)
        rw [e] at hc
        exact fl_has _ f 12 0 x (by omega) (by omega) (fun y hy => hy o hc)
      · rcases h5 with h | h
        · exfalso
          apply e
          exact Sub.anti (fl_min _ f 12 0 x (by decide) (fun _ h => h) (fun o y ho hc hy => h o ho (hy o hc))) u
        · refine Or.inr ?_
          by_cases q : cdn 12 (rd f x) ≤ cdn 12 x
          · exact absurd (cd_eq h4 l u q).symm e
          · omega
/-- the class's way: only what is new is asked -/
def fC (A K : Nat) : Nat → Nat → Bool := fun o _ => A.testBit o && !K.testBit o
def cls (f : Nat → Nat) : Nat → Nat → Nat → Nat
  | 0, A, _ => A
  | j + 1, A, K => if K = A then A else cls f j (fl (fC A K) f 12 0 A) A
theorem cls_hd {f : Nat → Nat} (hf : ∀ o : Nat, o < 12 → f o < 4096) {v : Nat} : ∀ (j k A K : Nat), k + j = 12 → A.testBit v = true → (∀ C : Nat, C.testBit v = true → Cls f C → Sub A C) → A < 4096 → (∀ o : Nat, o < 12 → K.testBit o = true → Sub (f o) A) → (K = A ∨ k + 1 ≤ cdn 12 A) → Hd f v (cls f j A K)
  | 0, k, A, K, h1, h2, h3, h4, h5, h6 => by
    refine ⟨h2, ?_, h3, h4⟩
    rcases h6 with h | h
    · rw [h] at h5
      exact h5
    · have := cdn_le 12 A
      omega
  | j + 1, k, A, K, h1, h2, h3, h4, h5, h6 => by
    show Hd f v (if K = A then A else cls f j (fl (fC A K) f 12 0 A) A)
    by_cases e : K = A
    · rw [if_pos e]
      rw [e] at h5
      exact ⟨h2, h5, h3, h4⟩
    · rw [if_neg e]
      have u := fl_up (fC A K) f 12 0 A
      have l := fl_lt (fC A K) hf 12 0 A (by decide) h4
      refine cls_hd hf j (k + 1) _ A (by omega) (u v h2) (fun C hC hCl => ?_) l (fun o ho hc => ?_) ?_
      · refine fl_min _ f 12 0 A (by decide) (h3 C hC hCl) (fun o y ho hc hy => ?_)
        unfold fC at hc
        rw [Bool.and_eq_true] at hc
        exact hCl o ho (h3 C hC hCl o hc.1)
      · by_cases q : K.testBit o = true
        · exact fun k hk => u k (h5 o ho q k hk)
        · refine fl_has _ f 12 0 A (by omega) (by omega) (fun y hy => ?_)
          unfold fC
          rw [hc, Bool.true_and, Bool.not_eq_true']
          exact Bool.not_eq_true _ ▸ q
      · have h7 := h6.resolve_left e
        by_cases q : A = fl (fC A K) f 12 0 A
        · exact Or.inl q
        · refine Or.inr ?_
          by_cases q2 : cdn 12 (fl (fC A K) f 12 0 A) ≤ cdn 12 A
          · exact absurd (cd_eq h4 l u q2) q
          · omega
/-! the loops -/
def fN (w : Int → Int) (sil : Nat) (o : Nat) : Nat := (iand (w (210 + o)) (ixor (sil : Int) (-1))).toNat
theorem fN_e {w : Int → Int} (hV : WV w) {sil o : Nat} (ho : o < 12) : iand (w (210 + (o : Int))) (ixor (sil : Int) (-1)) = (fN w sil o : Int) ∧ fN w sil o < 4096 ∧ ∀ k : Nat, k < 32 → (fN w sil o).testBit k = ((w (210 + (o : Int))).toNat.testBit k && !((Int32.ofInt (sil : Int)).toBitVec.getLsbD k)) := by
  have h := (hV.2.2 o (by omega) (by omega)).2.2.1
  obtain ⟨y, y1, y2, y3⟩ := n_andn (x := (w (210 + (o : Int))).toNat) (s := sil) (by omega)
  have e : ((w (210 + (o : Int))).toNat : Int) = w (210 + (o : Int)) := by omega
  rw [e] at y1
  have ey : fN w sil o = y := by
    unfold fN
    rw [y1]
    exact Int.toNat_natCast y
  rw [ey]
  exact ⟨y1, by omega, y3⟩
section
variable {s t : Mem}
theorem c_h29 (h : IV s t) {sil A K : Nat} (hA : A < 4096) (hK : K < 4096) {k : Int → Res} : ∀ (j fu i x : Nat), j < fu → i + j = 12 → x < 4096 → f_X9_hearing_29 27 sil A K k s fu x i = k (fl (fC A K) (fN (t 1) sil) j i x : Nat) := by
  have hV := h.vil.2
  intro j
  induction j with
  | zero =>
    intro fu i x h1 h2 h3
    cases fu with
    | zero => exact absurd h1 (Nat.not_lt_zero _)
    | succ fu =>
      rw [f_X9_hearing_29, if_neg (by omega)]
      rfl
  | succ j ih =>
    intro fu i x h1 h2 h3
    cases fu with
    | zero => exact absurd h1 (Nat.not_lt_zero _)
    | succ fu =>
      have en : wr ((i : Int) + 1) = ((i + 1 : Nat) : Int) := wr_n (by omega)
      have e29 : s (27 + 2) (i : Int) = t 1 (210 + (i : Int)) := (h.vil.1.2 i (by omega) (by omega)).2
      obtain ⟨f1, f2, f3⟩ := fN_e hV (sil := sil) (o := i) (by omega)
      have ea : iand (ishr (A : Int) (i : Int)) 1 = if A.testBit i = true then 1 else 0 := n_bt (by omega) (by omega)
      have ek : iand (ishr (K : Int) (i : Int)) 1 = if K.testBit i = true then 1 else 0 := n_bt (by omega) (by omega)
      have hs : fl (fC A K) (fN (t 1) sil) (j + 1) i x = fl (fC A K) (fN (t 1) sil) j (i + 1) (if (A.testBit i && !K.testBit i) = true then x ||| fN (t 1) sil i else x) := rfl
      rw [f_X9_hearing_29, if_pos (by omega), jn_s, e29, f1, n_ior (by omega) (by omega), en, hs]
      by_cases qa : A.testBit i = true
      · have ea1 := ea.trans (if_pos qa)
        by_cases qk : K.testBit i = true
        · have ek1 := ek.trans (if_pos qk)
          have ec : ¬ (A.testBit i && !K.testBit i) = true := by rw [qa, qk]; decide
          rw [ea1, if_pos rfl, ek1, if_neg (by decide), if_neg ec]
          exact ih fu (i + 1) x (by omega) (by omega) h3
        · have ek0 := ek.trans (if_neg qk)
          have ec : (A.testBit i && !K.testBit i) = true := by rw [qa, eq_false_of_ne_true qk]; rfl
          rw [ea1, if_pos rfl, ek0, if_pos rfl, if_pos ec, gd_t (by omega)]
          exact ih fu (i + 1) _ (by omega) (by omega) (or_lt h3 f2)
      · have ea0 := ea.trans (if_neg qa)
        have ec : ¬ (A.testBit i && !K.testBit i) = true := by rw [eq_false_of_ne_true qa, Bool.false_and]; decide
        rw [ea0, if_neg (by decide), if_neg ec]
        exact ih fu (i + 1) x (by omega) (by omega) h3
theorem c_h10 (h : IV s t) {sil : Nat} : ∀ (j fu i A K : Nat), j < fu → i + j = 12 → A < 4096 → K < 4096 → f_X9_hearing_10 27 sil s fu A K i = some (((cls (fN (t 1) sil) j A K : Nat) : Int), s) := by
  have hV := h.vil.2
  have hf : ∀ o : Nat, o < 12 → fN (t 1) sil o < 4096 := fun o ho => (fN_e hV ho).2.1
  intro j
  induction j with
  | zero =>
    intro fu i A K h1 h2 h3 h4
    cases fu with
    | zero => exact absurd h1 (Nat.not_lt_zero _)
    | succ fu =>
      rw [f_X9_hearing_10, if_neg (by omega)]
      rfl
  | succ j ih =>
    intro fu i A K h1 h2 h3 h4
    cases fu with
    | zero => exact absurd h1 (Nat.not_lt_zero _)
    | succ fu =>
      have en : wr ((i : Int) + 1) = ((i + 1 : Nat) : Int) := wr_n (by omega)
      have hs : cls (fN (t 1) sil) (j + 1) A K = if K = A then A else cls (fN (t 1) sil) j (fl (fC A K) (fN (t 1) sil) 12 0 A) A := rfl
      rw [f_X9_hearing_10, if_pos (by omega), hs]
      by_cases e : K = A
      · rw [if_pos (by omega), if_pos e]
      · have ez : ((0 : Nat) : Int) = 0 := rfl
        have hh := c_h29 h h3 h4 (sil := sil) (k := fun v3 => f_X9_hearing_10 27 sil s fu v3 A (wr ((i : Int) + 1))) 12 FU 0 A (fu_lt (by omega)) (by omega) h3
        rw [ez] at hh
        rw [if_neg (by omega), if_neg e, jn_s, hh, en]
        exact ih fu (i + 1) _ A (by omega) (by omega) (fl_lt _ hf 12 0 A (by decide) h3) h3
theorem m_h17 (h : IV s t) {sil : Nat} {k : Int → Res} : ∀ (j fu i x : Nat), j < fu → i + j = 12 → x < 4096 → f_X12_heardFrom_17 0 sil k t fu x i = k (fl (fun o y => y.testBit o) (fN (t 1) sil) j i x : Nat) := by
  have hV := h.vil.2
  intro j
  induction j with
  | zero =>
    intro fu i x h1 h2 h3
    cases fu with
    | zero => exact absurd h1 (Nat.not_lt_zero _)
    | succ fu =>
      rw [f_X12_heardFrom_17, if_neg (by omega)]
      rfl
  | succ j ih =>
    intro fu i x h1 h2 h3
    cases fu with
    | zero => exact absurd h1 (Nat.not_lt_zero _)
    | succ fu =>
      have en : wr ((i : Int) + 1) = ((i + 1 : Nat) : Int) := wr_n (by omega)
      have e2 : wr (210 + (i : Int)) = 210 + (i : Int) := wr_n (by omega)
      obtain ⟨f1, f2, f3⟩ := fN_e hV (sil := sil) (o := i) (by omega)
      have ea : iand (ishr (x : Int) (i : Int)) 1 = if x.testBit i = true then 1 else 0 := n_bt (by omega) (by omega)
      have hs : fl (fun o y => y.testBit o) (fN (t 1) sil) (j + 1) i x = fl (fun o y => y.testBit o) (fN (t 1) sil) j (i + 1) (if x.testBit i = true then x ||| fN (t 1) sil i else x) := rfl
      rw [f_X12_heardFrom_17, if_pos (by omega), jn_s, e2, Nat.zero_add, f1, en, hs]
      by_cases qx : x.testBit i = true
      · have ea1 := ea.trans (if_pos qx)
        rw [ea1, if_pos rfl, if_pos qx, gd_t (by omega)]
        show f_X12_heardFrom_17 0 sil k t fu (ior (x : Int) (fN (t 1) sil i : Int)) ((i + 1 : Nat) : Int) = _
        rw [n_ior (by omega) (by omega)]
        exact ih fu (i + 1) _ (by omega) (by omega) (or_lt h3 f2)
      · have ea0 := ea.trans (if_neg qx)
        rw [ea0, if_neg (by decide), if_neg qx]
        show f_X12_heardFrom_17 0 sil k t fu (ior (x : Int) 0) ((i + 1 : Nat) : Int) = _
        rw [ior_0 (by unfold InR; omega)]
        exact ih fu (i + 1) x (by omega) (by omega) h3
theorem m_h7 (h : IV s t) {sil : Nat} : ∀ (j fu i x : Nat), j < fu → i + j = 12 → x < 4096 → f_X12_heardFrom_7 0 sil (fun v1 => some (v1, t)) t fu x i = some (((rds (fN (t 1) sil) j x : Nat) : Int), t) := by
  have hV := h.vil.2
  have hf : ∀ o : Nat, o < 12 → fN (t 1) sil o < 4096 := fun o ho => (fN_e hV ho).2.1
  intro j
  induction j with
  | zero =>
    intro fu i x h1 h2 h3
    cases fu with
    | zero => exact absurd h1 (Nat.not_lt_zero _)
    | succ fu =>
      rw [f_X12_heardFrom_7, if_neg (by omega)]
      rfl
  | succ j ih =>
    intro fu i x h1 h2 h3
    cases fu with
    | zero => exact absurd h1 (Nat.not_lt_zero _)
    | succ fu =>
      have en : wr ((i : Int) + 1) = ((i + 1 : Nat) : Int) := wr_n (by omega)
      have ez : ((0 : Nat) : Int) = 0 := rfl
      have hh := m_h17 h (sil := sil) (k := fun v3 => f_X12_heardFrom_7 0 sil (fun v1 => some (v1, t)) t fu v3 (wr ((i : Int) + 1))) 12 FU 0 x (fu_lt (by omega)) (by omega) h3
      rw [ez] at hh
      rw [f_X12_heardFrom_7, if_pos (by omega), jn_s, hh, en]
      exact ih fu (i + 1) _ (by omega) (by omega) (fl_lt _ hf 12 0 x (by decide) h3)
/-- what is heard -/
def HR (w : Int → Int) (sil v : Nat) : Nat := rds (fN w sil) 12 (2 ^ v)
theorem pow_lt {v : Nat} (hv : v < 12) : 2 ^ v < 4096 := Nat.lt_of_lt_of_le (Nat.pow_lt_pow_right (by decide) hv) (by decide)
theorem pow_bit {v k : Nat} : (2 ^ v).testBit k = true ↔ v = k := by
  rw [Nat.testBit_two_pow]
  exact decide_eq_true_iff
theorem HR_hd (h : IV s t) {sil v : Nat} (hv : v < 12) : Hd (fN (t 1) sil) v (HR (t 1) sil v) := by
  have hf : ∀ o : Nat, o < 12 → fN (t 1) sil o < 4096 := fun o ho => (fN_e h.vil.2 ho).2.1
  refine rds_hd hf 12 0 _ (by decide) (pow_bit.mpr rfl) (fun C hC _ k hk => by rw [← pow_bit.mp hk]; exact hC) (pow_lt hv) (Or.inr ?_)
  by_cases q : 0 + 1 ≤ cdn 12 (2 ^ v)
  · exact q
  · exfalso
    have e := cd_eq (A := 0) (B := 2 ^ v) (by decide) (pow_lt hv) (fun k hk => by rw [Nat.zero_testBit] at hk; cases hk) (by omega)
    have : 0 < 2 ^ v := Nat.pow_pos (by decide)
    omega
theorem m_heard (h : IV s t) {sil v : Nat} (hv : v < 12) : f_X12_heardFrom 0 v sil t = some (((HR (t 1) sil v : Nat) : Int), t) := by
  unfold f_X12_heardFrom
  rw [jn_s, shl_e (by omega)]
  exact m_h7 h 12 FU 0 (2 ^ v) (fu_lt (by omega)) (by omega) (pow_lt hv)
theorem c_hearing (h : IV s t) {sil v : Nat} (hv : v < 12) : f_X9_hearing 27 v sil s = some (((HR (t 1) sil v : Nat) : Int), s) := by
  have hf : ∀ o : Nat, o < 12 → fN (t 1) sil o < 4096 := fun o ho => (fN_e h.vil.2 ho).2.1
  have ez : ((0 : Nat) : Int) = 0 := rfl
  have hc := c_h10 h (sil := sil) 12 FU 0 (2 ^ v) 0 (fu_lt (by omega)) (by omega) (pow_lt hv) (by decide)
  have hd : Hd (fN (t 1) sil) v (cls (fN (t 1) sil) 12 (2 ^ v) 0) := by
    refine cls_hd hf 12 0 _ 0 (by decide) (pow_bit.mpr rfl) (fun C hC _ k hk => by rw [← pow_bit.mp hk]; exact hC) (pow_lt hv) (fun o ho hk => by rw [Nat.zero_testBit] at hk; cases hk) (Or.inr ?_)
    by_cases q : 0 + 1 ≤ cdn 12 (2 ^ v)
    · exact q
    · exfalso
      have e := cd_eq (A := 0) (B := 2 ^ v) (by decide) (pow_lt hv) (fun k hk => by rw [Nat.zero_testBit] at hk; cases hk) (by omega)
      have : 0 < 2 ^ v := Nat.pow_pos (by decide)
      omega
  rw [ez] at hc
  unfold f_X9_hearing
  rw [shl_e (by omega), hc, hd.eq (HR_hd h hv)]
theorem k_hears (h : IV s t) (v : Int) : Sim (f_X11_hears 0 v s) (f_X12_hears 0 v t) := by
  unfold f_X11_hears f_X12_hears
  simp only [Nat.zero_add, Nat.reduceAdd]
  rw [bd_e (c_isTold h v), bd_e (m_isTold h v), bI_z, bI_z]
  by_cases c : isV (t 1) v
  · have hv := c.1
    obtain ⟨m, rfl⟩ : ∃ m : Nat, v = (m : Int) := ⟨v.toNat, by omega⟩
    have ez : ((0 : Nat) : Int) = 0 := rfl
    have c1 := c_hearing h (sil := 0) (v := m) (by omega)
    have m1 := m_heard h (sil := 0) (v := m) (by omega)
    rw [ez] at c1 m1
    rw [if_pos c, if_pos c, bd_e c1, bd_e m1]
    exact Sim.rf h _
  · rw [if_neg c, if_neg c]
    exact Sim.rf h _
end

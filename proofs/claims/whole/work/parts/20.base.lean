/-! ===== L3: both sides over numbers: words ===== -/
def up (w : Int → Int) (i v : Int) : Int → Int := fun j => if j = i then v else w j
theorem up_eq {w : Int → Int} {i j v : Int} (h : j = i) : up w i v j = v := if_pos h
theorem up_ne {w : Int → Int} {i j v : Int} (h : j ≠ i) : up w i v j = w j := if_neg h
theorem mup_row (σ : Mem) (a : Nat) (i v : Int) : mup σ a i v a = up (σ a) i v := by
  funext j
  simp [mup, up]
theorem mup_o {σ : Mem} {a a' : Nat} {i v : Int} (h : a' ≠ a) : mup σ a i v a' = σ a' := by
  funext j
  simp [mup, h]
theorem mup_e {σ : Mem} {a a' : Nat} {i i' v : Int} (h : a' = a) (hi : i' = i) : mup σ a i v a' i' = v := if_pos ⟨h, hi⟩
theorem mup_n {σ : Mem} {a a' : Nat} {i i' v : Int} (h : a' ≠ a ∨ i' ≠ i) : mup σ a i v a' i' = σ a' i' := if_neg (fun q => h.elim (fun z => z q.1) (fun z => z q.2))
theorem mcp_o {σ : Mem} {x y a : Nat} {sp dp n : Int} (h : a ≠ y) : mcp σ x sp y dp n a = σ a := by
  funext j
  simp [mcp, h]
theorem mcp_e {σ : Mem} {x y : Nat} {n i : Int} (h : 0 ≤ i ∧ i < n) : mcp σ x 0 y 0 n y i = σ x i := by
  have h1 : y = y ∧ (0 : Int) ≤ i ∧ i < 0 + n := ⟨rfl, h.1, by omega⟩
  unfold mcp
  rw [if_pos h1, Int.sub_zero, Int.zero_add]
def sr (s : Mem) (a : Nat) (f : Int → Int) : Mem := fun b => if b = a then f else s b
theorem sr_e (s : Mem) (a : Nat) (f : Int → Int) : sr s a f a = f := if_pos rfl
theorem sr_o {s : Mem} {a b : Nat} {f : Int → Int} (h : b ≠ a) : sr s a f b = s b := if_neg h
theorem mup_to_sr (s : Mem) (a : Nat) (i v : Int) : mup s a i v = sr s a (up (s a) i v) := by
  funext b
  by_cases h : b = a
  · subst h
    rw [sr_e, mup_row]
  · rw [sr_o h, mup_o h]
theorem mup_sr (s : Mem) (a : Nat) (f : Int → Int) (i v : Int) : mup (sr s a f) a i v = sr s a (up f i v) := by
  funext b
  by_cases h : b = a
  · subst h
    rw [sr_e, mup_row, sr_e]
  · rw [sr_o h, mup_o h, sr_o h]
theorem sr_of {s s' : Mem} {a : Nat} (h : ∀ b : Nat, b ≠ a → s' b = s b) : s' = sr s a (s' a) := by
  funext b
  by_cases hb : b = a
  · subst hb
    rw [sr_e]
  · rw [sr_o hb, h b hb]
theorem gd_t {α : Type} {c : Prop} [Decidable c] {o : Option α} (h : c) : gd c o = o := if_pos h
theorem bd_s (r : Int) (s : Mem) (k : Int → Mem → Res) : bd (some (r, s)) k = k r s := rfl
theorem bd_e {o : Res} {r : Int} {s : Mem} {k : Int → Mem → Res} (h : o = some (r, s)) : bd o k = k r s := by rw [h]; rfl
theorem lm_s (σ : Mem) (k : Mem → Res) : lm σ k = k σ := rfl
theorem lts_s (v : Int) (k : Int → Res) : lt v k = k v := rfl
theorem jn_s {α : Type} (v : α) (k : α → Res) : jn v k = k v := rfl
theorem wr_n {x : Int} (h : -2147483648 ≤ x ∧ x ≤ 2147483647) : wr x = x := wr_id h
/-- 1 where so, else 0 -/
def bI (c : Prop) [Decidable c] : Int := if c then 1 else 0
theorem bI_t {c : Prop} [Decidable c] (h : c) : bI c = 1 := if_pos h
theorem bI_f {c : Prop} [Decidable c] (h : ¬ c) : bI c = 0 := if_neg h
theorem bI_0 {c : Prop} [Decidable c] : (bI c = 0) = ¬ c := by
  unfold bI
  by_cases h : c
  · simp [h]
  · simp [h]
theorem bI_z {α : Type} {c : Prop} [Decidable c] (x y : α) : (if bI c = 0 then x else y) = (if c then y else x) := by
  unfold bI
  by_cases h : c
  · simp [h]
  · simp [h]
theorem bI_1 {c : Prop} [Decidable c] : (bI c = 1) = c := by
  unfold bI
  by_cases h : c
  · simp [h]
  · simp [h]
theorem bI_cg {c d : Prop} [Decidable c] [Decidable d] (h : c ↔ d) : bI c = bI d := by
  unfold bI
  by_cases hc : c
  · rw [if_pos hc, if_pos (h.mp hc)]
  · rw [if_neg hc, if_neg (fun q => hc (h.mpr q))]
theorem bI_in {c : Prop} [Decidable c] : 0 ≤ bI c ∧ bI c ≤ 1 := by
  unfold bI
  by_cases h : c
  · simp [h]
  · simp [h]
/-! what comes out -/
def wp (o : Res) (Q : Int → Mem → Prop) : Prop := ∃ r s, o = some (r, s) ∧ Q r s
theorem wp_s {r : Int} {s : Mem} {Q : Int → Mem → Prop} (h : Q r s) : wp (some (r, s)) Q := ⟨r, s, rfl, h⟩
theorem wp_e {o o' : Res} {Q : Int → Mem → Prop} (h : o = o') (hq : wp o' Q) : wp o Q := h ▸ hq
theorem wp_b {o : Res} {k : Int → Mem → Res} {P Q : Int → Mem → Prop} (h : wp o P) (hk : ∀ r s, P r s → wp (k r s) Q) : wp (bd o k) Q := by
  obtain ⟨r, s, h1, h2⟩ := h
  rw [h1]
  exact hk r s h2
theorem wp_be {o : Res} {r : Int} {s : Mem} {k : Int → Mem → Res} {Q : Int → Mem → Prop} (h : o = some (r, s)) (hk : wp (k r s) Q) : wp (bd o k) Q := by
  rw [h]
  exact hk
theorem wp_g {c : Prop} [Decidable c] {o : Res} {Q : Int → Mem → Prop} (h : c) (hk : wp o Q) : wp (gd c o) Q := by
  rw [gd_t h]
  exact hk
theorem wp_i {c : Prop} [Decidable c] {o1 o2 : Res} {Q : Int → Mem → Prop} (h1 : c → wp o1 Q) (h2 : ¬ c → wp o2 Q) : wp (if c then o1 else o2) Q := by
  by_cases h : c
  · rw [if_pos h]
    exact h1 h
  · rw [if_neg h]
    exact h2 h
theorem wp_m {o : Res} {P Q : Int → Mem → Prop} (h : wp o P) (hq : ∀ r s, P r s → Q r s) : wp o Q := by
  obtain ⟨r, s, h1, h2⟩ := h
  exact ⟨r, s, h1, hq r s h2⟩
/-- a join: what holds wherever it is gone on from -/
theorem wp_j {α : Type} {J : α} {k : α → Res} {Q : Int → Mem → Prop} (P : α → Prop) (h : P J) (hk : ∀ j, P j → wp (k j) Q) : wp (jn J k) Q := hk J h
/-- a loop, by a number that falls -/
theorem wp_loop {α : Type} {F : Nat → α → Res} {Q : Int → Mem → Prop} (P : Nat → α → Prop) (step : ∀ n j a, P j a → (∀ i a', i < j → P i a' → wp (F n a') Q) → wp (F (n + 1) a) Q) : ∀ n j a, j < n → P j a → wp (F n a) Q := by
  intro n
  induction n with
  | zero => intro j a h; exact absurd h (Nat.not_lt_zero j)
  | succ n ih => intro j a h hP; exact step n j a hP (fun i a' hi hP' => ih i a' (by omega) hP')
/-- the same in steps of one, to an equation -/
theorem fu_lt {j : Nat} (h : j ≤ 5999) : j < FU := Nat.lt_of_le_of_lt h (by decide)
/-! leaves of both sides -/
theorem e_within (x l g : Int) (s : Mem) : f_X11_within x l g s = some (bI (l ≤ x ∧ x ≤ g), s) := by
  unfold f_X11_within bI
  by_cases h1 : x < l
  · rw [if_pos h1, if_neg (by omega)]
  · rw [if_neg h1]
    by_cases h2 : g < x
    · rw [if_pos h2, if_neg (by omega)]
    · rw [if_neg h2, if_pos (by omega)]
theorem e_isIn (x l g : Int) (s : Mem) : f_X12_isIn x l g s = some (bI (l ≤ x ∧ x ≤ g), s) := by
  unfold f_X12_isIn bI
  by_cases h1 : x < l
  · rw [if_pos h1, if_neg (by omega)]
  · rw [if_neg h1]
    by_cases h2 : g < x
    · rw [if_pos h2, if_neg (by omega)]
    · rw [if_neg h2, if_pos (by omega)]

/-! ===== L3: texts: tokens ===== -/
abbrev isL (c : Int) : Prop := (97 ≤ c ∧ c ≤ 122) ∨ (65 ≤ c ∧ c ≤ 90)
abbrev isD (c : Int) : Prop := 48 ≤ c ∧ c ≤ 57
abbrev isS (c : Int) : Prop := c = 59 ∨ c = 43 ∨ c = 45 ∨ c = 42 ∨ c = 47 ∨ c = 40 ∨ c = 41 ∨ c = 60 ∨ c = 61 ∨ c = 62
def eLf (B : Int → Int) : Nat → Nat → Nat
  | 0, p => p
  | j + 1, p => if isL (B p) then eLf B j (p + 1) else p
def eDf (B : Int → Int) : Nat → Nat → Nat
  | 0, p => p
  | j + 1, p => if isD (B p) then eDf B j (p + 1) else p
def eL (B : Int → Int) (L p : Nat) : Nat := eLf B (L - p) p
def eD (B : Int → Int) (L p : Nat) : Nat := eDf B (L - p) p
def vl (B : Int → Int) : Nat → Nat → Int → Int
  | 0, _, v => v
  | j + 1, p, v => vl B j (p + 1) (v * 10 + B p - 48)
theorem eLf_in (B : Int → Int) : ∀ (j p : Nat), p ≤ eLf B j p ∧ eLf B j p ≤ p + j
  | 0, p => ⟨Nat.le_refl p, Nat.le_refl p⟩
  | j + 1, p => by
    have h := eLf_in B j (p + 1)
    show p ≤ (if isL (B p) then eLf B j (p + 1) else p) ∧ (if isL (B p) then eLf B j (p + 1) else p) ≤ p + (j + 1)
    split
    · omega
    · omega
theorem eDf_in (B : Int → Int) : ∀ (j p : Nat), p ≤ eDf B j p ∧ eDf B j p ≤ p + j
  | 0, p => ⟨Nat.le_refl p, Nat.le_refl p⟩
  | j + 1, p => by
    have h := eDf_in B j (p + 1)
    show p ≤ (if isD (B p) then eDf B j (p + 1) else p) ∧ (if isD (B p) then eDf B j (p + 1) else p) ≤ p + (j + 1)
    split
    · omega
    · omega
noncomputable def tokc (B : Int → Int) (L p : Nat) : Int := if isL (B p) then kw B p (eL B L (p + 1) : Nat) else if isD (B p) then (if 4 < (eD B L (p + 1) : Int) - p then 32 else 31) else if isS (B p) then B p else 32
def tokv (B : Int → Int) (L p : Nat) : Int := if isL (B p) then 0 else if isD (B p) then vl B (min (eD B L (p + 1) - p) 4) p 0 else 0
def toke (B : Int → Int) (L p : Nat) : Nat := if isL (B p) then eL B L (p + 1) else if isD (B p) then eD B L (p + 1) else p + 1
theorem toke_in (B : Int → Int) {L p : Nat} (h : p < L) : p < toke B L p ∧ toke B L p ≤ L := by
  unfold toke eL eD
  have h1 := eLf_in B (L - (p + 1)) (p + 1)
  have h2 := eDf_in B (L - (p + 1)) (p + 1)
  split
  · omega
  · split
    · omega
    · omega
abbrev Tk : Type := Int × Int × Int
noncomputable def TB (B : Int → Int) (L : Nat) : Nat → Nat → List Tk
  | 0, _ => []
  | j + 1, p => if p < L then (if B p = 32 ∨ B p = 10 then TB B L j (p + 1) else (tokc B L p, tokv B L p, (p : Int)) :: TB B L j (toke B L p)) else []
theorem TB_fu (B : Int → Int) (L : Nat) : ∀ (j j' p : Nat), L - p ≤ j → L - p ≤ j' → TB B L j p = TB B L j' p := by
  intro j
  induction j with
  | zero =>
    intro j' p h1 h2
    cases j' with
    | zero => rfl
    | succ j' =>
      show [] = if p < L then _ else []
      rw [if_neg (by omega)]
  | succ j ih =>
    intro j' p h1 h2
    cases j' with
    | zero =>
      show (if p < L then _ else []) = []
      rw [if_neg (by omega)]
    | succ j' =>
      show (if p < L then (if B p = 32 ∨ B p = 10 then TB B L j (p + 1) else (tokc B L p, tokv B L p, (p : Int)) :: TB B L j (toke B L p)) else []) = (if p < L then (if B p = 32 ∨ B p = 10 then TB B L j' (p + 1) else (tokc B L p, tokv B L p, (p : Int)) :: TB B L j' (toke B L p)) else [])
      by_cases c : p < L
      · have ht := toke_in B c
        rw [if_pos c, if_pos c, ih j' (p + 1) (by omega) (by omega), ih j' (toke B L p) (by omega) (by omega)]
      · rw [if_neg c, if_neg c]
noncomputable def TL (B : Int → Int) (L p : Nat) : List Tk := TB B L (L - p) p ++ [(30, 0, (L : Int))]
theorem TL_end {B : Int → Int} {L p : Nat} (h : ¬ p < L) : TL B L p = [(30, 0, (L : Int))] := by
  have e : L - p = 0 := by omega
  unfold TL
  rw [e]
  rfl
theorem TB_sp {B : Int → Int} {L p : Nat} (h : p < L) (hs : B p = 32 ∨ B p = 10) : TB B L (L - p) p = TB B L (L - (p + 1)) (p + 1) := by
  have e : L - p = (L - (p + 1)) + 1 := by omega
  rw [e]
  show (if p < L then (if B p = 32 ∨ B p = 10 then TB B L (L - (p + 1)) (p + 1) else _) else []) = _
  rw [if_pos h, if_pos hs]
theorem TB_tk {B : Int → Int} {L p : Nat} (h : p < L) (hs : ¬ (B p = 32 ∨ B p = 10)) : TB B L (L - p) p = (tokc B L p, tokv B L p, (p : Int)) :: TB B L (L - toke B L p) (toke B L p) := by
  have e : L - p = (L - (p + 1)) + 1 := by omega
  have ht := toke_in B h
  rw [e]
  show (if p < L then (if B p = 32 ∨ B p = 10 then _ else (tokc B L p, tokv B L p, (p : Int)) :: TB B L (L - (p + 1)) (toke B L p)) else []) = _
  rw [if_pos h, if_neg hs, TB_fu B L (L - (p + 1)) (L - toke B L p) (toke B L p) (by omega) (by omega)]
theorem TL_sp {B : Int → Int} {L p : Nat} (h : p < L) (hs : B p = 32 ∨ B p = 10) : TL B L p = TL B L (p + 1) := by
  unfold TL
  rw [TB_sp h hs]
theorem TL_tk {B : Int → Int} {L p : Nat} (h : p < L) (hs : ¬ (B p = 32 ∨ B p = 10)) : TL B L p = (tokc B L p, tokv B L p, (p : Int)) :: TL B L (toke B L p) := by
  unfold TL
  rw [TB_tk h hs]
  rfl
theorem TB_len (B : Int → Int) (L : Nat) : ∀ (j p : Nat), (TB B L j p).length ≤ L - p := by
  intro j
  induction j with
  | zero => exact fun p => Nat.zero_le _
  | succ j ih =>
    intro p
    show (if p < L then (if B p = 32 ∨ B p = 10 then TB B L j (p + 1) else (tokc B L p, tokv B L p, (p : Int)) :: TB B L j (toke B L p)) else []).length ≤ L - p
    by_cases c : p < L
    · have ht := toke_in B c
      have h1 := ih (p + 1)
      have h2 := ih (toke B L p)
      rw [if_pos c]
      split
      · omega
      · rw [List.length_cons]
        omega
    · rw [if_neg c]
      exact Nat.zero_le _
def Byt (B : Int → Int) (L : Nat) : Prop := ∀ i : Int, 0 ≤ i → i < L → 0 ≤ B i ∧ B i ≤ 255
theorem vl_in {B : Int → Int} : ∀ (j p : Nat) (v M : Int), 0 ≤ v ∧ v ≤ M → (∀ k : Nat, k < j → 48 ≤ B (p + k : Nat) ∧ B (p + k : Nat) ≤ 57) → 0 ≤ vl B j p v ∧ vl B j p v ≤ 10 ^ j * (M + 1) - 1
  | 0, p, v, M, h, _ => by
    show 0 ≤ v ∧ v ≤ 10 ^ 0 * (M + 1) - 1
    omega
  | j + 1, p, v, M, h, hb => by
    have h0 := hb 0 (by omega)
    rw [Nat.add_zero] at h0
    have r := vl_in j (p + 1) (v * 10 + B p - 48) (M * 10 + 9) (by omega) (fun k hk => by
      have := hb (k + 1) (by omega)
      have e : p + 1 + k = p + (k + 1) := by omega
      rw [e]
      exact this)
    show 0 ≤ vl B j (p + 1) (v * 10 + B p - 48) ∧ vl B j (p + 1) (v * 10 + B p - 48) ≤ 10 ^ (j + 1) * (M + 1) - 1
    have e : (10 : Int) ^ (j + 1) * (M + 1) = 10 ^ j * (M * 10 + 9 + 1) := by
      rw [Int.pow_succ, Int.mul_assoc]
      congr 1
      omega
    rw [e]
    exact r
theorem eDf_dig (B : Int → Int) : ∀ (j p k : Nat), p ≤ k → k < eDf B j p → isD (B k)
  | 0, p, k, h1, h2 => by
    have h3 : k < p := h2
    omega
  | j + 1, p, k, h1, h2 => by
    have h3 : k < (if isD (B p) then eDf B j (p + 1) else p) := h2
    by_cases c : isD (B p)
    · rw [if_pos c] at h3
      by_cases e : k = p
      · rw [e]
        exact c
      · exact eDf_dig B j (p + 1) k (by omega) h3
    · rw [if_neg c] at h3
      omega
theorem tokv_in {B : Int → Int} {L p : Nat} (h : p < L) : 0 ≤ tokv B L p ∧ tokv B L p ≤ 9999 := by
  unfold tokv
  by_cases c1 : isL (B p)
  · rw [if_pos c1]
    omega
  · rw [if_neg c1]
    by_cases c2 : isD (B p)
    · rw [if_pos c2]
      have hd : ∀ k : Nat, k < min (eD B L (p + 1) - p) 4 → 48 ≤ B (p + k : Nat) ∧ B (p + k : Nat) ≤ 57 := by
        intro k hk
        by_cases e : k = 0
        · rw [e, Nat.add_zero]
          exact c2
        · exact eDf_dig B (L - (p + 1)) (p + 1) (p + k) (by omega) (by
            have : k < eD B L (p + 1) - p := by omega
            show p + k < eD B L (p + 1)
            omega)
      have r := vl_in (B := B) (min (eD B L (p + 1) - p) 4) p 0 0 ⟨by decide, by decide⟩ hd
      have hm : min (eD B L (p + 1) - p) 4 ≤ 4 := Nat.min_le_right _ _
      generalize min (eD B L (p + 1) - p) 4 = m at r hm
      rcases (show m = 0 ∨ m = 1 ∨ m = 2 ∨ m = 3 ∨ m = 4 by omega) with q | q | q | q | q
      · rw [q] at r ⊢; exact ⟨r.1, by have := r.2; omega⟩
      · rw [q] at r ⊢; exact ⟨r.1, by have := r.2; omega⟩
      · rw [q] at r ⊢; exact ⟨r.1, by have := r.2; omega⟩
      · rw [q] at r ⊢; exact ⟨r.1, by have := r.2; omega⟩
      · rw [q] at r ⊢; exact ⟨r.1, by have := r.2; omega⟩
    · rw [if_neg c2]
      omega
/-! the class cuts -/
def LsT (s : Mem) (T : List Tk) : Prop := LsC (s 257) 0 (T.map (fun q => q.1)) ∧ LsC (s 258) 0 (T.map (fun q => q.2.1)) ∧ LsC (s 259) 0 (T.map (fun q => q.2.2)) ∧ s 236 11 = T.length
def FrK (s0 s : Mem) : Prop := (∀ c : Nat, c ≠ 236 → c ≠ 257 → c ≠ 258 → c ≠ 259 → s c = s0 c) ∧ ∀ i : Int, i ≠ 11 → i ≠ 12 → s 236 i = s0 236 i
theorem e_let (c : Int) (s : Mem) : f_X7_isLetter c s = some (bI (isL c), s) := by
  unfold f_X7_isLetter
  rw [bd_e (e_within _ _ _ _), bI_z]
  by_cases h1 : 97 ≤ c ∧ c ≤ 122
  · rw [if_pos h1, bI_t (Or.inl h1)]
  · rw [if_neg h1, bd_e (e_within _ _ _ _), bI_z]
    by_cases h2 : 65 ≤ c ∧ c ≤ 90
    · rw [if_pos h2, bI_t (Or.inr h2)]
    · rw [if_neg h2, bI_f (fun q => q.elim h1 h2)]
theorem e_dig (c : Int) (s : Mem) : f_X7_isDigit c s = some (bI (isD c), s) := by
  unfold f_X7_isDigit
  rw [bd_e (e_within _ _ _ _)]
theorem e_mlet (c : Int) (s : Mem) : f_X12_isLetter c s = some (bI (isL c), s) := by
  unfold f_X12_isLetter
  rw [bd_e (e_isIn _ _ _ _), bI_z]
  by_cases h1 : 97 ≤ c ∧ c ≤ 122
  · rw [if_pos h1, bI_t (Or.inl h1)]
  · rw [if_neg h1, bd_e (e_isIn _ _ _ _), bI_z]
    by_cases h2 : 65 ≤ c ∧ c ≤ 90
    · rw [if_pos h2, bI_t (Or.inr h2)]
    · rw [if_neg h2, bI_f (fun q => q.elim h1 h2)]
theorem e_mdig (c : Int) (s : Mem) : f_X12_isDigit c s = some (bI (isD c), s) := by
  unfold f_X12_isDigit
  rw [bd_e (e_isIn _ _ _ _)]
section
variable {s : Mem} {L : Nat}
theorem c_eL (hL : s 236 4 = L) (hL4 : L ≤ 400) : ∀ (j fu p : Nat), j < fu → j = L - p → f_X7_endOfLetters_2 236 fu p s = some (((eLf (s 256) j p : Nat) : Int), s) := by
  intro j
  induction j with
  | zero =>
    intro fu p h1 h2
    cases fu with
    | zero => exact absurd h1 (Nat.not_lt_zero _)
    | succ fu =>
      rw [f_X7_endOfLetters_2, hL, if_neg (by omega)]
      rfl
  | succ j ih =>
    intro fu p h1 h2
    cases fu with
    | zero => exact absurd h1 (Nat.not_lt_zero _)
    | succ fu =>
      have en : wr ((p : Int) + 1) = ((p + 1 : Nat) : Int) := wr_n (by omega)
      have e56 : s (236 + 20) (p : Int) = s 256 (p : Int) := rfl
      have hs : eLf (s 256) (j + 1) p = if isL (s 256 p) then eLf (s 256) j (p + 1) else p := rfl
      rw [f_X7_endOfLetters_2, hL, if_pos (by omega), gd_t (by omega), e56, bd_e (e_let _ _), bI_z, en, hs]
      by_cases c : isL (s 256 p)
      · rw [if_pos c, if_pos c]
        exact ih fu (p + 1) (by omega) (by omega)
      · rw [if_neg c, if_neg c]
theorem c_eD (hL : s 236 4 = L) (hL4 : L ≤ 400) : ∀ (j fu p : Nat), j < fu → j = L - p → f_X7_endOfDigits_2 236 fu p s = some (((eDf (s 256) j p : Nat) : Int), s) := by
  intro j
  induction j with
  | zero =>
    intro fu p h1 h2
    cases fu with
    | zero => exact absurd h1 (Nat.not_lt_zero _)
    | succ fu =>
      rw [f_X7_endOfDigits_2, hL, if_neg (by omega)]
      rfl
  | succ j ih =>
    intro fu p h1 h2
    cases fu with
    | zero => exact absurd h1 (Nat.not_lt_zero _)
    | succ fu =>
      have en : wr ((p : Int) + 1) = ((p + 1 : Nat) : Int) := wr_n (by omega)
      have e56 : s (236 + 20) (p : Int) = s 256 (p : Int) := rfl
      have hs : eDf (s 256) (j + 1) p = if isD (s 256 p) then eDf (s 256) j (p + 1) else p := rfl
      rw [f_X7_endOfDigits_2, hL, if_pos (by omega), gd_t (by omega), e56, bd_e (e_dig _ _), bI_z, en, hs]
      by_cases c : isD (s 256 p)
      · rw [if_pos c, if_pos c]
        exact ih fu (p + 1) (by omega) (by omega)
      · rw [if_neg c, if_neg c]
def Vb (x p : Nat) (v : Int) : Prop := 0 ≤ v ∧ ((x = p ∧ v = 0) ∨ (x = p + 1 ∧ v ≤ 9) ∨ (x = p + 2 ∧ v ≤ 99) ∨ (x = p + 3 ∧ v ≤ 999) ∨ (x = p + 4 ∧ v ≤ 9999))
theorem Vb_s {x p : Nat} {v c : Int} (h : Vb x p v) (hx : x < p + 4) (hc : 48 ≤ c ∧ c ≤ 57) : Vb (x + 1) p (v * 10 + c - 48) := by
  unfold Vb at h ⊢
  omega
theorem Vb_in {x p : Nat} {v : Int} (h : Vb x p v) : 0 ≤ v ∧ v ≤ 9999 := by
  unfold Vb at h
  omega
theorem c_val {p e : Nat} (he : e ≤ 400) (hpe : p ≤ e) (hd : ∀ k : Nat, p ≤ k → k < e → isD (s 256 k)) : ∀ (j fu x : Nat) (v : Int), j < fu → p ≤ x → x + j = p + min (e - p) 4 → Vb x p v → f_X7_valueOf_5 236 p e s fu v x = some (vl (s 256) j x v, s) := by
  have hm : min (e - p) 4 ≤ 4 ∧ min (e - p) 4 ≤ e - p ∧ (min (e - p) 4 = 4 ∨ min (e - p) 4 = e - p) := by omega
  generalize min (e - p) 4 = m at hm ⊢
  intro j
  induction j with
  | zero =>
    intro fu x v h1 h3 h4 h5
    cases fu with
    | zero => exact absurd h1 (Nat.not_lt_zero _)
    | succ fu =>
      have ew : wr ((p : Int) + 4) = (p : Int) + 4 := wr_n (by omega)
      rw [f_X7_valueOf_5, ew]
      by_cases c : (x : Int) < (e : Int)
      · rw [if_pos c, if_neg (by omega)]
        rfl
      · rw [if_neg c]
        rfl
  | succ j ih =>
    intro fu x v h1 h3 h4 h5
    cases fu with
    | zero => exact absurd h1 (Nat.not_lt_zero _)
    | succ fu =>
      have ew : wr ((p : Int) + 4) = (p : Int) + 4 := wr_n (by omega)
      have en : wr ((x : Int) + 1) = ((x + 1 : Nat) : Int) := wr_n (by omega)
      have e56 : s (236 + 20) (x : Int) = s 256 (x : Int) := rfl
      have hdx := hd x h3 (by omega)
      have hvi := Vb_in h5
      have h5' := Vb_s h5 (by omega) hdx
      have hv : vl (s 256) (j + 1) x v = vl (s 256) j (x + 1) (v * 10 + s 256 x - 48) := rfl
      rw [f_X7_valueOf_5, ew, if_pos (by omega), if_pos (by omega), gd_t (by omega), e56, wr_n (x := v * 10) (by omega), wr_n (x := v * 10 + s 256 x) (by omega), wr_n (x := v * 10 + s 256 x - 48) (by omega), en, hv]
      exact ih fu (x + 1) _ (by omega) (by omega) (by omega) h5'
/-- a token noted -/
theorem c_note {T : List Tk} {c v pl : Int} (hT : LsT s T) (hl : T.length ≤ 400) : ∃ s1 : Mem, f_X7_note 236 c v pl s = some (0, s1) ∧ LsT s1 (T ++ [(c, v, pl)]) ∧ FrK s s1 ∧ s1 236 12 = s 236 12 := by
  obtain ⟨h1, h2, h3, h4⟩ := hT
  unfold f_X7_note
  simp only [Nat.reduceAdd]
  rw [h4, if_pos (by omega), gd_t (by omega), lm_s, mup_o (a := 257) (by decide), h4, gd_t (by omega), lm_s, mup_o (a := 258) (by decide), mup_o (a := 257) (by decide), h4, gd_t (by omega), lm_s, mup_o (a := 259) (by decide), mup_o (a := 258) (by decide), mup_o (a := 257) (by decide), h4, wr_n (x := (T.length : Int) + 1) (by omega), lm_s]
  have m1 : (T.map (fun q => q.1)).length = T.length := List.length_map _
  have m2 : (T.map (fun q => q.2.1)).length = T.length := List.length_map _
  have m3 : (T.map (fun q => q.2.2)).length = T.length := List.length_map _
  refine ⟨_, rfl, ⟨?_, ?_, ?_, ?_⟩, ⟨fun a a1 a2 a3 a4 => by rw [mup_o a1, mup_o a4, mup_o a3, mup_o a2], fun i i1 i2 => by rw [mup_n (Or.inr i1), mup_o (by decide), mup_o (by decide), mup_o (by decide)]⟩, by rw [mup_n (Or.inr (by decide)), mup_o (by decide), mup_o (by decide), mup_o (by decide)]⟩
  · rw [mup_o (by decide), mup_o (by decide), mup_o (by decide), mup_row, List.map_append]
    exact (LsC_app _ _ _ _).mpr ⟨LsC_up _ _ h1 (by omega), by rw [m1]; exact ⟨up_eq (by omega), trivial⟩⟩
  · rw [mup_o (by decide), mup_o (by decide), mup_row, mup_o (by decide), List.map_append]
    exact (LsC_app _ _ _ _).mpr ⟨LsC_up _ _ h2 (by omega), by rw [m2]; exact ⟨up_eq (by omega), trivial⟩⟩
  · rw [mup_o (by decide), mup_row, mup_o (by decide), mup_o (by decide), List.map_append]
    exact (LsC_app _ _ _ _).mpr ⟨LsC_up _ _ h3 (by omega), by rw [m3]; exact ⟨up_eq (by omega), trivial⟩⟩
  · rw [mup_e rfl rfl, List.length_append]
    rfl
end
theorem FrK.tr {s s1 s2 : Mem} (h1 : FrK s s1) (h2 : FrK s1 s2) : FrK s s2 := ⟨fun c a b d e => (h2.1 c a b d e).trans (h1.1 c a b d e), fun i a b => (h2.2 i a b).trans (h1.2 i a b)⟩
theorem FrK.rf (s : Mem) : FrK s s := ⟨fun _ _ _ _ _ => rfl, fun _ _ _ => rfl⟩
/-- the signs -/
theorem sg_all : (List.range 256).all (fun c => decide (ii2c (c : Int) = (c : Int)) && decide (((List.range 10).all (fun k => decide (sbyt 0 (k : Int) ≠ ii2b (c : Int))) = true) ↔ ¬ isS (c : Int))) = true := by decide +kernel
theorem wb0_len : (wb 0).length = 10 := by decide +kernel
theorem c_idx {c : Int} (hc : 0 ≤ c ∧ c ≤ 255) (s : Mem) : ∃ r : Int, f_J0_indexOf_0f7a4 0 (ii2c c) s = some (r, s) ∧ (r < 0 ↔ ¬ isS c) := by
  have hall := List.all_eq_true.mp sg_all c.toNat (List.mem_range.mpr (by omega))
  rw [Bool.and_eq_true] at hall
  have ec : ((c.toNat : Nat) : Int) = c := by omega
  have e1 := of_decide_eq_true hall.1
  have e2 := of_decide_eq_true hall.2
  rw [ec] at e1 e2
  have key : ∀ (j fu x : Nat), j < fu → x + j = 10 → (∀ k : Nat, k < x → sbyt 0 (k : Int) ≠ ii2b c) → ∃ r : Int, f_J1_indexOfChar_4cfef_7 0 10 (ii2b c) (fun _ => some (-1, s)) s fu x = some (r, s) ∧ ((r = -1 ∧ ∀ k : Nat, k < 10 → sbyt 0 (k : Int) ≠ ii2b c) ∨ (0 ≤ r ∧ ∃ k : Nat, k < 10 ∧ sbyt 0 (k : Int) = ii2b c)) := by
    intro j
    induction j with
    | zero =>
      intro fu x h1 h2 h3
      have e : x = 10 := by omega
      subst e
      cases fu with
      | zero => exact absurd h1 (Nat.not_lt_zero _)
      | succ fu =>
        rw [f_J1_indexOfChar_4cfef_7, if_neg (by decide)]
        exact ⟨-1, rfl, Or.inl ⟨rfl, h3⟩⟩
    | succ j ih =>
      intro fu x h1 h2 h3
      cases fu with
      | zero => exact absurd h1 (Nat.not_lt_zero _)
      | succ fu =>
        have en : wr ((x : Int) + 1) = ((x + 1 : Nat) : Int) := wr_n (by omega)
        have hl : slen 0 = 10 := rfl
        rw [f_J1_indexOfChar_4cfef_7, if_pos (by omega), gd_t (by omega), en]
        by_cases c1 : sbyt 0 (x : Int) = ii2b c
        · rw [if_pos c1]
          exact ⟨x, rfl, Or.inr ⟨by omega, x, by omega, c1⟩⟩
        · rw [if_neg c1]
          exact ih fu (x + 1) (by omega) (by omega) (fun k hk => by
            by_cases q : k = x
            · rw [q]
              exact c1
            · exact h3 k (by omega))
  obtain ⟨r, r1, r2⟩ := key 10 FU 0 (fu_lt (by omega)) (by omega) (fun k hk => absurd hk (Nat.not_lt_zero k))
  have ez : ((0 : Nat) : Int) = 0 := rfl
  have hl : slen 0 = 10 := rfl
  have hm1 : mmx 0 0 = 0 := rfl
  have hm2 : mmn 10 10 = 10 := rfl
  have hw := wb0_len
  rw [ez] at r1
  refine ⟨r, ?_, ?_⟩
  · have ew : (((wb 0).length : Nat) : Int) = 10 := by rw [hw]; rfl
    unfold f_J0_indexOf_0f7a4 f_J0_indexOf_7cf53 f_J0_isLatin1_aae02 f_J1_indexOf_4cfef f_J1_canEncode_9a6ad f_J1_indexOfChar_4cfef
    rw [if_neg (by decide), if_pos rfl, bd_s, if_neg (by decide), bd_e (len_e (by decide) s), ew, hl, hm1, hm2, e1, if_neg (by omega), if_neg (by omega), bd_s, if_neg (by decide), if_pos (by decide), jn_s, r1]
    rfl
  · rw [← e2]
    rcases r2 with ⟨q1, q2⟩ | ⟨q1, k, k1, k2⟩
    · refine ⟨fun _ => List.all_eq_true.mpr (fun k hk => decide_eq_true (q2 k (List.mem_range.mp hk))), fun _ => by omega⟩
    · refine ⟨fun z => absurd z (by omega), fun z => ?_⟩
      exact absurd k2 (of_decide_eq_true (List.all_eq_true.mp z k (List.mem_range.mpr k1)))

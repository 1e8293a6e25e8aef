/-! ===== L3: texts: constants, words ===== -/
def wb (k : Nat) : List Int := (strB.getD k []).map Int32.toInt
theorem sl_all : (List.range 29).all (fun k => decide (ishr (slen k) 0 = slen k ∧ slen k = (wb k).length ∧ slen k ≤ 139) && (List.range (wb k).length).all (fun x => decide (ii2c (iand (sbyt k (x : Int)) 255) = (wb k).getD x 0 ∧ sbyt k (x : Int) = (wb k).getD x 0))) = true := by decide +kernel
theorem sl_e {k : Nat} (hk : k < 29) : ishr (slen k) 0 = slen k ∧ slen k = (wb k).length ∧ slen k ≤ 139 := by
  have h := List.all_eq_true.mp sl_all k (List.mem_range.mpr hk)
  rw [Bool.and_eq_true] at h
  exact of_decide_eq_true h.1
theorem sc_e {k x : Nat} (hk : k < 29) (hx : x < (wb k).length) : ii2c (iand (sbyt k (x : Int)) 255) = (wb k).getD x 0 ∧ sbyt k (x : Int) = (wb k).getD x 0 := by
  have h := List.all_eq_true.mp sl_all k (List.mem_range.mpr hk)
  rw [Bool.and_eq_true] at h
  exact of_decide_eq_true (List.all_eq_true.mp h.2 x (List.mem_range.mpr hx))
theorem len_e {k : Nat} (hk : k < 29) (s : Mem) : f_J0_length_8abf5 k s = some (((wb k).length : Int), s) := by
  obtain ⟨h1, h2, h3⟩ := sl_e hk
  unfold f_J0_length_8abf5 f_J0_coder_7d493
  rw [if_neg (by decide), bd_s, h1, h2]
theorem chr_e {k x : Nat} (hk : k < 29) (hx : x < (wb k).length) (s : Mem) : f_J0_charAt_5068e k (x : Int) s = some ((wb k).getD x 0, s) := by
  obtain ⟨h1, h2, h3⟩ := sl_e hk
  unfold f_J0_charAt_5068e f_J0_isLatin1_aae02 f_J1_charAt_3b067 f_J0_checkIndex_df160 f_J3_checkIndex_8e157
  rw [if_neg (by decide), if_pos rfl, bd_s, if_neg (by decide), jn_s, if_neg (by omega), if_pos (by omega), bd_s, bd_s, gd_t (by omega), bd_s, (sc_e hk hx).1]
/-- the bytes from p on are the word -/
def mtL (B : Int → Int) : Int → List Int → Prop
  | _, [] => True
  | p, c :: w => B p = c ∧ mtL B (p + 1) w
def Mt (B : Int → Int) (p e : Int) (w : List Int) : Prop := mtL B p w ∧ p + w.length = e
theorem mtL_cg {B B' : Int → Int} {lo hi : Int} (h : ∀ i : Int, lo ≤ i → i < hi → B' i = B i) : ∀ (w : List Int) (p : Int), lo ≤ p → p + w.length ≤ hi → (mtL B' p w ↔ mtL B p w)
  | [], _, _, _ => Iff.rfl
  | c :: w, p, h1, h2 => by
    have e : ((c :: w).length : Int) = (w.length : Int) + 1 := by rw [List.length_cons]; omega
    show (B' p = c ∧ mtL B' (p + 1) w) ↔ (B p = c ∧ mtL B (p + 1) w)
    rw [h p h1 (by omega), mtL_cg h w (p + 1) (by omega) (by omega)]
theorem Mt_one {B : Int → Int} {p e : Int} : ∀ {w v : List Int}, Mt B p e w → Mt B p e v → w = v := by
  intro w v h1 h2
  have hl : w.length = v.length := by
    have := h1.2
    have := h2.2
    omega
  have key : ∀ (w v : List Int) (p : Int), w.length = v.length → mtL B p w → mtL B p v → w = v := by
    intro w
    induction w with
    | nil =>
      intro v p hl _ _
      cases v with
      | nil => rfl
      | cons c v => cases hl
    | cons c w ih =>
      intro v p hl h1 h2
      cases v with
      | nil => cases hl
      | cons d v =>
        have e1 : c = d := h1.1.symm.trans h2.1
        rw [e1, ih v (p + 1) (by simpa using hl) h1.2 h2.2]
  exact key w v p hl h1.1 h2.1
/-! the model's -/
section
variable {t : Mem}
theorem m_is_l {k : Nat} (hk : k < 29) {p : Int} (h19 : t 0 19 = p) (hp : 0 ≤ p) (hb : p + (wb k).length ≤ 400) : ∀ (j fu x : Nat), j + 1 < fu → x + j = (wb k).length → (mtL (t 8) (p + x) ((wb k).drop x) → f_X12_is_24 0 k fu 1 x t = some (1, t)) ∧ (¬ mtL (t 8) (p + x) ((wb k).drop x) → f_X12_is_24 0 k fu 1 x t = some (0, t)) := by
  intro j
  induction j with
  | zero =>
    intro fu x h1 h2
    cases fu with
    | zero => exact absurd h1 (Nat.not_lt_zero _)
    | succ fu =>
      rw [f_X12_is_24, bd_e (len_e hk t), if_neg (by omega), List.drop_eq_nil_of_le (by omega)]
      exact ⟨fun _ => rfl, fun q => absurd trivial q⟩
  | succ j ih =>
    intro fu x h1 h2
    cases fu with
    | zero => exact absurd h1 (Nat.not_lt_zero _)
    | succ fu =>
      have hx : x < (wb k).length := by omega
      have ed : (wb k).drop x = (wb k).getD x 0 :: (wb k).drop (x + 1) := by
        rw [List.drop_eq_getElem_cons hx, List.getD_eq_getElem?_getD, List.getElem?_eq_getElem hx]
        rfl
      have en : wr ((x : Int) + 1) = ((x + 1 : Nat) : Int) := wr_n (by omega)
      have ep : p + (x : Int) + 1 = p + ((x + 1 : Nat) : Int) := by omega
      obtain ⟨b1, b2⟩ := ih fu (x + 1) (by omega) (by omega)
      rw [f_X12_is_24, bd_e (len_e hk t), if_pos (by omega), if_neg (by decide), h19, wr_n (x := p + (x : Int)) (by omega), gd_t (by omega), bd_e (chr_e hk hx t), jn_s, Nat.zero_add, ed, en]
      have z : f_X12_is_24 0 k fu 0 ((x + 1 : Nat) : Int) t = some (0, t) := by
        cases fu with
        | zero => omega
        | succ fu =>
          rw [f_X12_is_24, bd_e (len_e hk t)]
          by_cases c : ((x + 1 : Nat) : Int) < ((wb k).length : Int)
          · rw [if_pos c, if_pos rfl]
          · rw [if_neg c]
      refine ⟨fun q => ?_, fun q => ?_⟩
      · rw [if_pos q.1]
        exact b1 (by rw [← ep]; exact q.2)
      · by_cases c : t 8 (p + (x : Int)) = (wb k).getD x 0
        · rw [if_pos c]
          exact b2 (fun y => q ⟨c, by rw [ep]; exact y⟩)
        · rw [if_neg c]
          exact z
theorem m_is {k : Nat} (hk : k < 29) {p e : Int} (h19 : t 0 19 = p) (h17 : t 0 17 = e) (hp : 0 ≤ p) (he : p ≤ e ∧ e ≤ 400) : (Mt (t 8) p e (wb k) → f_X12_is 0 k t = some (1, t)) ∧ (¬ Mt (t 8) p e (wb k) → f_X12_is 0 k t = some (0, t)) := by
  have hl := (sl_e hk).2.2
  have hl2 := (sl_e hk).2.1
  unfold f_X12_is
  rw [bd_e (len_e hk t), jn_s, h17, h19, wr_n (by omega)]
  by_cases c : e - p = ((wb k).length : Int)
  · rw [if_pos c]
    have ez : ((0 : Nat) : Int) = 0 := rfl
    obtain ⟨b1, b2⟩ := m_is_l hk h19 hp (by omega) (wb k).length FU 0 (by have : (wb k).length ≤ 139 := by omega
                                                                          show _ + 1 < FU
                                                                          exact Nat.lt_of_le_of_lt (Nat.succ_le_succ this) (by decide)) (by omega)
    rw [ez, Int.add_zero, List.drop_zero] at b1 b2
    exact ⟨fun q => b1 q.1, fun q => b2 (fun y => q ⟨y, by omega⟩)⟩
  · rw [if_neg c]
    refine ⟨fun q => absurd q.2 (by omega), fun _ => ?_⟩
    have ef : ∃ m : Nat, FU = m + 1 := ⟨5999, rfl⟩
    obtain ⟨m, em⟩ := ef
    show f_X12_is_24 0 k FU 0 0 t = _
    rw [em, f_X12_is_24, bd_e (len_e hk t)]
    by_cases c0 : (0 : Int) < ((wb k).length : Int)
    · rw [if_pos c0, if_pos rfl]
    · rw [if_neg c0]
end
/-! the class's -/
def sn (i : Nat) : Nat := [2, 3, 4, 5, 6, 7, 8, 9, 10, 11, 16, 17, 18, 19, 12, 13, 14, 15, 27, 28, 20, 21, 22, 23, 24, 25, 26].getD i 0
def wsr : Nat → List (List Int)
  | 0 => []
  | j + 1 => wb (sn (27 - (j + 1))) :: wsr j
def cat : List (List Int) → List Int
  | [] => []
  | w :: ws => w ++ 32 :: cat ws
theorem cat_all : cat (wsr 27) = wb 1 := by decide +kernel
theorem no32_all : (wsr 27).all (fun w => w.all (fun c => decide (c ≠ 32))) = true := by decide +kernel
noncomputable def kwI (B : Int → Int) (p e : Int) : List (List Int) → Int → Int
  | [], _ => 32
  | w :: ws, i => (have := Classical.propDecidable (Mt B p e w); if Mt B p e w then i else kwI B p e ws (i + 1))
theorem kwI_t {B : Int → Int} {p e : Int} {w : List Int} {ws : List (List Int)} {i : Int} (h : Mt B p e w) : kwI B p e (w :: ws) i = i := if_pos h
theorem kwI_f {B : Int → Int} {p e : Int} {w : List Int} {ws : List (List Int)} {i : Int} (h : ¬ Mt B p e w) : kwI B p e (w :: ws) i = kwI B p e ws (i + 1) := if_neg h
section
variable {s : Mem}
theorem wb1_len : (wb 1).length = 139 := by decide +kernel
/-- the letters of one word -/
theorem c_kw_w {p e : Int} {k : Mem → Res} (hp : 0 ≤ p) (he : e ≤ 400) : ∀ (w : List Int) (fu x : Nat) (wd i sm : Int) (rest : List Int), (∀ c ∈ w, c ≠ 32) → (wb 1).drop x = w ++ 32 :: rest → p ≤ i → i ≤ p + x → p ≤ 400 → (sm = 0 ∨ sm = 1) →
    ∃ sm' : Int, (sm' = 0 ∨ sm' = 1) ∧ f_X7_keyword_11 236 p e k (fu + w.length) wd i sm x s = f_X7_keyword_11 236 p e k fu wd (i + w.length) sm' ((x + w.length : Nat) : Int) s ∧ ((sm' = 1 ∧ i + w.length = e) ↔ (sm = 1 ∧ mtL (s 256) i w ∧ i + w.length = e)) := by
  intro w
  induction w with
  | nil =>
    intro fu x wd i sm rest h1 h2 h3 h4 h5 h6
    have e0 : i + ((([] : List Int).length : Nat) : Int) = i := by show i + 0 = i; omega
    have ex : x + ([] : List Int).length = x := rfl
    have ef : fu + ([] : List Int).length = fu := rfl
    rw [e0, ex, ef]
    exact ⟨sm, h6, rfl, ⟨fun q => ⟨q.1, trivial, q.2⟩, fun q => ⟨q.1, q.2.2⟩⟩⟩
  | cons c w ih =>
    intro fu x wd i sm rest h1 h2 h3 h4 h5 h6
    have hlx : x < (wb 1).length := by
      by_cases q : x < (wb 1).length
      · exact q
      · rw [List.drop_eq_nil_of_le (by omega)] at h2
        cases h2
    have ed : (wb 1).drop x = (wb 1).getD x 0 :: (wb 1).drop (x + 1) := by
      rw [List.drop_eq_getElem_cons hlx, List.getD_eq_getElem?_getD, List.getElem?_eq_getElem hlx]
      rfl
    rw [ed] at h2
    injection h2 with hc hd
    have hcn : c ≠ 32 := h1 c List.mem_cons_self
    have hl := wb1_len
    have en : wr ((x : Int) + 1) = ((x + 1 : Nat) : Int) := wr_n (by omega)
    have ef : fu + (c :: w).length = (fu + w.length) + 1 := by rw [List.length_cons]; omega
    have ex : x + (c :: w).length = (x + 1) + w.length := by rw [List.length_cons]; omega
    have ei : i + ((c :: w).length : Int) = i + 1 + (w.length : Int) := by rw [List.length_cons]; omega
    have nx : ∀ y : Int, (y = 0 ∨ y = 1) → ((y = 1 ∧ i + 1 + w.length = e) ↔ (sm = 1 ∧ s 256 i = c ∧ i + 1 + w.length = e)) → ∃ sm' : Int, (sm' = 0 ∨ sm' = 1) ∧ f_X7_keyword_11 236 p e k (fu + w.length) wd (wr (i + 1)) y ((x + 1 : Nat) : Int) s = f_X7_keyword_11 236 p e k fu wd (i + 1 + w.length) sm' ((x + 1 + w.length : Nat) : Int) s ∧ ((sm' = 1 ∧ i + 1 + w.length = e) ↔ (sm = 1 ∧ mtL (s 256) i (c :: w) ∧ i + 1 + w.length = e)) := by
      intro y hy hq
      obtain ⟨sm', a1, a2, a3⟩ := ih fu (x + 1) wd (i + 1) y rest (fun d hd => h1 d (List.mem_cons_of_mem _ hd)) hd (by omega) (by omega) h5 hy
      rw [wr_n (by omega)]
      refine ⟨sm', a1, a2, a3.trans ?_⟩
      constructor
      · intro ⟨z1, z2, z3⟩
        have := hq.mp ⟨z1, z3⟩
        exact ⟨this.1, ⟨this.2.1, z2⟩, z3⟩
      · intro ⟨z1, z2, z3⟩
        have := hq.mpr ⟨z1, z2.1, z3⟩
        exact ⟨this.1, z2.2, z3⟩
    rw [ef, ex, ei, f_X7_keyword_11, bd_e (len_e (by decide) s), if_pos (by omega), bd_e (chr_e (by decide) hlx s), jn_s, hc, if_neg hcn, jn_s, jn_s, en]
    by_cases c0 : sm = 0
    · rw [if_pos c0]
      exact nx 0 (Or.inl rfl) ⟨fun q => absurd q.1 (by decide), fun q => absurd q.1 (by omega)⟩
    · rw [if_neg c0]
      by_cases c1 : i < e
      · rw [if_pos c1, gd_t (by omega)]
        have e256 : s (236 + 20) i = s 256 i := rfl
        rw [e256]
        by_cases c2 : s 256 i = c
        · rw [if_pos c2]
          exact nx 1 (Or.inr rfl) ⟨fun q => ⟨by omega, c2, q.2⟩, fun q => ⟨rfl, q.2.2⟩⟩
        · rw [if_neg c2]
          exact nx 0 (Or.inl rfl) ⟨fun q => absurd q.1 (by decide), fun q => absurd q.2.1 c2⟩
      · rw [if_neg c1]
        exact nx 0 (Or.inl rfl) ⟨fun q => absurd q.1 (by decide), fun q => absurd q.2.2 (by omega)⟩
theorem om1 {wd : Int} {a b : Nat} (h : wd + (b : Int) ≤ 30) (e : b = a + 1) : wd + 1 + (a : Int) ≤ 30 := by omega
theorem om2 {x a c : Nat} (h : x + (a + 1 + c) = 139) : x + a + 1 ≤ 139 := by omega
theorem om3 {wd : Int} {b : Nat} (h3 : 0 ≤ wd) (h4 : wd + (b : Int) ≤ 30) : -2147483648 ≤ wd + 1 ∧ wd + 1 ≤ 2147483647 := by omega
theorem c_kw {p e : Int} (hp : 0 ≤ p ∧ p ≤ 400) (he : e ≤ 400) {W : List Int} (hW : W = wb 1) : ∀ (ws : List (List Int)) (fu x : Nat) (wd : Int), (∀ w ∈ ws, ∀ c ∈ w, c ≠ 32) → W.drop x = cat ws → 0 ≤ wd → wd + ws.length ≤ 30 → x ≤ 139 → f_X7_keyword_11 236 p e (fun s1 => some (32, s1)) (fu + 1 + (cat ws).length) wd p 1 x s = some (kwI (s 256) p e ws wd, s) := by
  intro ws
  induction ws with
  | nil =>
    intro fu x wd h1 h2 h3 h4 h5
    have hx : W.length ≤ x := List.drop_eq_nil_iff.mp h2
    have hlw : (wb 1).length = W.length := by rw [hW]
    have ef : fu + 1 + (cat []).length = fu + 1 := rfl
    rw [ef, f_X7_keyword_11, bd_e (len_e (by decide) s), hlw, if_neg (by omega)]
    rfl
  | cons w ws ih =>
    intro fu x wd h1 h2 h3 h4 h5
    have el : (w :: ws).length = ws.length + 1 := List.length_cons
    have ec : cat (w :: ws) = w ++ 32 :: cat ws := rfl
    have ecl : (cat (w :: ws)).length = (cat ws).length + 1 + w.length := by
      rw [ec, List.length_append, List.length_cons]
      omega
    have hl : W.length = 139 := by rw [hW]; exact wb1_len
    have hlen : x + (w.length + 1 + (cat ws).length) = 139 := by
      have h := congrArg List.length h2
      rw [List.length_drop, ecl] at h
      omega
    obtain ⟨sm, a1, a2, a3⟩ := c_kw_w (s := s) (p := p) (e := e) (k := fun s1 => some (32, s1)) hp.1 he w (fu + 1 + (cat ws).length + 1) x wd p 1 (cat ws) (h1 w List.mem_cons_self) (by rw [← hW]; exact h2) (Int.le_refl p) (by omega) hp.2 (Or.inr rfl)
    have ef : fu + 1 + (cat (w :: ws)).length = fu + 1 + (cat ws).length + 1 + w.length := by omega
    have hx2 : x + w.length < W.length := by omega
    have hd : W.drop (x + w.length) = 32 :: cat ws := by
      rw [← List.drop_drop, h2, ec, List.drop_left]
    have ed : W.drop (x + w.length) = W.getD (x + w.length) 0 :: W.drop (x + w.length + 1) := by
      rw [List.drop_eq_getElem_cons hx2, List.getD_eq_getElem?_getD, List.getElem?_eq_getElem hx2]
      rfl
    rw [ed] at hd
    injection hd with hc hd2
    have en : wr (((x + w.length : Nat) : Int) + 1) = ((x + w.length + 1 : Nat) : Int) := wr_n (by omega)
    have nx := ih fu (x + w.length + 1) (wd + 1) (fun v hv => h1 v (List.mem_cons_of_mem _ hv)) hd2 (Int.add_nonneg h3 (by decide)) (om1 h4 el) (om2 hlen)
    have hlw : (wb 1).length = W.length := by rw [hW]
    have hch := chr_e (k := 1) (x := x + w.length) (by decide) (by rw [hlw]; exact hx2) s
    rw [← hW] at hch
    rw [ef, a2, f_X7_keyword_11, bd_e (len_e (by decide) s), hlw, if_pos (Int.ofNat_lt.mpr hx2), bd_e hch, jn_s, hc, if_pos rfl, jn_s, en, wr_n (x := wd + 1) (om3 h3 h4)]
    by_cases c0 : sm = 0
    · have hn : ¬ Mt (s 256) p e w := fun q => by
        have := a3.mpr ⟨rfl, q.1, q.2⟩
        omega
      rw [if_pos c0, kwI_f hn]
      exact nx
    · rw [if_neg c0]
      have c1 : sm = 1 := by omega
      by_cases c2 : p + (w.length : Int) = e
      · have hy : Mt (s 256) p e w := ⟨(a3.mp ⟨c1, c2⟩).2.1, c2⟩
        rw [if_pos c2, kwI_t hy]
      · rw [if_neg c2, kwI_f (fun q => c2 q.2)]
        exact nx
theorem c_keyword {p e : Int} (hp : 0 ≤ p ∧ p ≤ 400) (he : e ≤ 400) : f_X7_keyword 236 p e s = some (kwI (s 256) p e (wsr 27) 0, s) := by
  have ef : FU = 5860 + 1 + (cat (wsr 27)).length := by rw [cat_all, wb1_len]; rfl
  have ez : ((0 : Nat) : Int) = 0 := rfl
  have h := c_kw (s := s) hp he (W := wb 1) rfl (wsr 27) 5860 0 0 (fun w hw c hc => of_decide_eq_true (List.all_eq_true.mp (List.all_eq_true.mp no32_all w hw) c hc)) (by rw [List.drop_zero, cat_all]) (by decide) (by decide) (by decide)
  rw [← ef, ez] at h
  unfold f_X7_keyword
  rw [jn_s]
  exact h
end
/-- which word it is -/
theorem kw_lt (B : Int → Int) (p e : Int) : ∀ (j : Nat) (i : Nat), i + j = 27 → (kwI B p e (wsr j) i = 32 ∧ ∀ k : Nat, i ≤ k → k < 27 → ¬ Mt B p e (wb (sn k))) ∨ (∃ k : Nat, i ≤ k ∧ k < 27 ∧ kwI B p e (wsr j) i = (k : Int) ∧ Mt B p e (wb (sn k))) := by
  intro j
  induction j with
  | zero => exact fun i h => Or.inl ⟨rfl, fun k h1 h2 => absurd h2 (by omega)⟩
  | succ j ih =>
    intro i h
    have e1 : 27 - (j + 1) = i := by omega
    have ew : wsr (j + 1) = wb (sn i) :: wsr j := by
      show wb (sn (27 - (j + 1))) :: wsr j = _
      rw [e1]
    rw [ew]
    rcases Classical.em (Mt B p e (wb (sn i))) with q | q
    · rw [kwI_t q]
      exact Or.inr ⟨i, Nat.le_refl i, by omega, rfl, q⟩
    · rw [kwI_f q]
      have ei : (i : Int) + 1 = ((i + 1 : Nat) : Int) := by omega
      rw [ei]
      rcases ih (i + 1) (by omega) with ⟨a1, a2⟩ | ⟨k, a1, a2, a3, a4⟩
      · refine Or.inl ⟨a1, fun k h1 h2 => ?_⟩
        by_cases c : k = i
        · rw [c]
          exact q
        · exact a2 k (by omega) h2
      · exact Or.inr ⟨k, by omega, a2, a3, a4⟩
theorem wdis_all : (List.range 29).all (fun a => (List.range 29).all (fun b => decide (a = b ∨ a < 2 ∨ b < 2 ∨ wb a ≠ wb b))) = true := by decide +kernel
theorem wdis {a b : Nat} (ha : 2 ≤ a ∧ a < 29) (hb : 2 ≤ b ∧ b < 29) (h : a ≠ b) : wb a ≠ wb b := by
  have h1 := of_decide_eq_true (List.all_eq_true.mp (List.all_eq_true.mp wdis_all a (List.mem_range.mpr ha.2)) b (List.mem_range.mpr hb.2))
  rcases h1 with q | q | q | q
  · exact absurd q h
  · omega
  · omega
  · exact q
theorem sn_all : (List.range 27).all (fun k => decide (2 ≤ sn k ∧ sn k < 29)) = true ∧ (List.range 29).all (fun m => decide (m < 2 ∨ m ∈ (List.range 27).map sn)) = true := by
  constructor
  · decide +kernel
  · decide +kernel
theorem sn_in {k : Nat} (hk : k < 27) : 2 ≤ sn k ∧ sn k < 29 := of_decide_eq_true (List.all_eq_true.mp sn_all.1 k (List.mem_range.mpr hk))
theorem sn_on {m : Nat} (hm : 2 ≤ m ∧ m < 29) : ∃ k : Nat, k < 27 ∧ sn k = m := by
  have h := of_decide_eq_true (List.all_eq_true.mp sn_all.2 m (List.mem_range.mpr hm.2))
  have h2 := h.resolve_left (by omega)
  rw [List.mem_map] at h2
  obtain ⟨k, k1, k2⟩ := h2
  exact ⟨k, List.mem_range.mp k1, k2⟩
/-- the keyword's number, and what each constant says of it -/
noncomputable def kw (B : Int → Int) (p e : Int) : Int := kwI B p e (wsr 27) 0
theorem kw_is (B : Int → Int) (p e : Int) : (kw B p e = 32 ∧ ∀ m : Nat, 2 ≤ m → m < 29 → ¬ Mt B p e (wb m)) ∨ ∃ k : Nat, k < 27 ∧ kw B p e = (k : Int) ∧ Mt B p e (wb (sn k)) ∧ ∀ m : Nat, 2 ≤ m → m < 29 → m ≠ sn k → ¬ Mt B p e (wb m) := by
  rcases kw_lt B p e 27 0 (by decide) with ⟨a1, a2⟩ | ⟨k, a1, a2, a3, a4⟩
  · refine Or.inl ⟨a1, fun m h1 h2 => ?_⟩
    obtain ⟨k, k1, k2⟩ := sn_on ⟨h1, h2⟩
    rw [← k2]
    exact a2 k (by omega) k1
  · refine Or.inr ⟨k, a2, a3, a4, fun m h1 h2 h3 q => ?_⟩
    exact wdis ⟨h1, h2⟩ (sn_in a2) h3 (Mt_one q a4)

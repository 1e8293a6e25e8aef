/-! ===== L3: texts: both readers at one token ===== -/
abbrev TokD (x : Int) : Prop := (0 ≤ x ∧ x < 27) ∨ x = 30 ∨ x = 31 ∨ x = 32 ∨ isS x
theorem tk_all : (List.range 4).all (fun r => (List.range 63).all (fun x => (List.range 63).all (fun c => decide (TokD (x : Int) → TokD (c : Int) → tkm (r : Int) (x : Int) = tkm (r : Int) (c : Int) → tkm (r : Int) (c : Int) ≠ 1 → x = c)))) = true := by decide +kernel
theorem tk_eq {r x c m : Int} (hr : 0 ≤ r ∧ r ≤ 3) (hx : TokD x) (hc : TokD c) (hm : tkm r c = m) (h1 : m ≠ 1) : tkm r x = m ↔ x = c := by
  constructor
  · intro h
    have xi : 0 ≤ x ∧ x < 63 := by omega
    have ci : 0 ≤ c ∧ c < 63 := by omega
    have q := of_decide_eq_true (List.all_eq_true.mp (List.all_eq_true.mp (List.all_eq_true.mp tk_all r.toNat (List.mem_range.mpr (by omega))) x.toNat (List.mem_range.mpr (by omega))) c.toNat (List.mem_range.mpr (by omega)))
    have er : ((r.toNat : Nat) : Int) = r := by omega
    have ex : ((x.toNat : Nat) : Int) = x := by omega
    have ec : ((c.toNat : Nat) : Int) = c := by omega
    rw [er, ex, ec] at q
    have := q hx hc (h.trans hm.symm) (by rw [hm]; exact h1)
    omega
  · intro h
    rw [h]
    exact hm
theorem tokc_dom {B : Int → Int} {L p : Nat} : TokD (tokc B L p) := by
  unfold tokc
  by_cases c1 : isL (B p)
  · rw [if_pos c1]
    have := kw_in B p (eL B L (p + 1) : Nat)
    omega
  · rw [if_neg c1]
    by_cases c2 : isD (B p)
    · rw [if_pos c2]
      split
      · exact Or.inr (Or.inr (Or.inr (Or.inl rfl)))
      · exact Or.inr (Or.inr (Or.inl rfl))
    · rw [if_neg c2]
      by_cases c3 : isS (B p)
      · rw [if_pos c3]
        exact Or.inr (Or.inr (Or.inr (Or.inr c3)))
      · rw [if_neg c3]
        exact Or.inr (Or.inr (Or.inr (Or.inl rfl)))
def TokOk (x : Tk) : Prop := TokD x.1 ∧ 0 ≤ x.2.1 ∧ x.2.1 ≤ 9999
theorem TB_dom (B : Int → Int) (L : Nat) : ∀ (j p : Nat), ∀ x ∈ TB B L j p, TokOk x ∧ x.1 ≠ 30 := by
  intro j
  induction j with
  | zero =>
    intro p x hx
    cases hx
  | succ j ih =>
    intro p x hx
    have e : TB B L (j + 1) p = if p < L then (if B p = 32 ∨ B p = 10 then TB B L j (p + 1) else (tokc B L p, tokv B L p, (p : Int)) :: TB B L j (toke B L p)) else [] := rfl
    rw [e] at hx
    by_cases c : p < L
    · rw [if_pos c] at hx
      by_cases c2 : B p = 32 ∨ B p = 10
      · rw [if_pos c2] at hx
        exact ih (p + 1) x hx
      · rw [if_neg c2] at hx
        rcases List.mem_cons.mp hx with q | q
        · rw [q]
          exact ⟨⟨tokc_dom, tokv_in c⟩, tokc_30⟩
        · exact ih _ x q
    · rw [if_neg c] at hx
      cases hx
theorem TL_dom {B : Int → Int} {L p : Nat} {x : Tk} (hx : x ∈ TL B L p) : TokOk x := by
  unfold TL at hx
  rcases List.mem_append.mp hx with q | q
  · exact (TB_dom B L _ p x q).1
  · rw [List.mem_singleton] at q
    rw [q]
    exact ⟨Or.inr (Or.inl rfl), Int.le_refl 0, by show (0 : Int) ≤ 9999; decide⟩
def PC (T : List Tk) (B : Int → Int) (L : Nat) (r : Int) : Prop := T = TL B L 0 ∧ L ≤ 400 ∧ T.length ≤ 401 ∧ Byt B L ∧ (0 ≤ r ∧ r ≤ 3)
def PT (T : List Tk) (B : Int → Int) (L : Nat) (r : Int) (s t : Mem) (R : List Tk) : Prop := LsT s T ∧ (∃ P : List Tk, T = P ++ R ∧ s 236 12 = P.length) ∧ MT B L t R ∧ t 0 16 = L ∧ t 8 = B ∧ t 0 12 = r
/-- what the class's reader never touches; the model's -/
def FC (s0 s : Mem) : Prop := (∀ c : Nat, c < 236 → s c = s0 c) ∧ s 236 4 = s0 236 4 ∧ s 236 5 = s0 236 5 ∧ s 236 6 = s0 236 6
/-- the same, but for a fault that was told -/
def FD (s0 s : Mem) : Prop := (∀ c : Nat, c < 236 → s c = s0 c) ∧ s 236 4 = s0 236 4
def FM (t0 t : Mem) : Prop := (∀ c : Nat, c ≠ 0 → c ≠ 5 → c ≠ 6 → c ≠ 7 → t c = t0 c) ∧ ∀ i : Int, (i = 4 ∨ i = 5 ∨ i = 12 ∨ i = 16 ∨ i = 23 ∨ i = 25 ∨ i = 26) → t 0 i = t0 0 i
theorem FC.rf (s : Mem) : FC s s := ⟨fun _ _ => rfl, rfl, rfl, rfl⟩
theorem FC.tr {s s1 s2 : Mem} (h1 : FC s s1) (h2 : FC s1 s2) : FC s s2 := ⟨fun c a => (h2.1 c a).trans (h1.1 c a), h2.2.1.trans h1.2.1, h2.2.2.1.trans h1.2.2.1, h2.2.2.2.trans h1.2.2.2⟩
theorem FC.fd {s s1 : Mem} (h : FC s s1) : FD s s1 := ⟨h.1, h.2.1⟩
theorem FC.tl {s s1 s2 : Mem} (h1 : FC s s1) (h2 : FD s1 s2) : FD s s2 := ⟨fun c a => (h2.1 c a).trans (h1.1 c a), h2.2.trans h1.2.1⟩
theorem FD.up {s s1 : Mem} (h : FD s s1) {a : Nat} {i v : Int} (ha : 236 ≤ a) (hi : a ≠ 236 ∨ i ≠ 4) : FD s (mup s1 a i v) := ⟨fun c hc => by rw [mup_o (by omega)]; exact h.1 c hc, by rw [mup_n (by omega)]; exact h.2⟩
theorem FC.up {s s1 : Mem} (h : FC s s1) {a : Nat} {i v : Int} (ha : 236 ≤ a) (hi : a ≠ 236 ∨ (i ≠ 4 ∧ i ≠ 5 ∧ i ≠ 6)) : FC s (mup s1 a i v) := ⟨fun c hc => by rw [mup_o (by omega)]; exact h.1 c hc, by rw [mup_n (by omega)]; exact h.2.1, by rw [mup_n (by omega)]; exact h.2.2.1, by rw [mup_n (by omega)]; exact h.2.2.2⟩
theorem FM.rf (t : Mem) : FM t t := ⟨fun _ _ _ _ _ => rfl, fun _ _ => rfl⟩
theorem FM.tr {t t1 t2 : Mem} (h1 : FM t t1) (h2 : FM t1 t2) : FM t t2 := ⟨fun c a b d e => (h2.1 c a b d e).trans (h1.1 c a b d e), fun i a => (h2.2 i a).trans (h1.2 i a)⟩
theorem FM.f4 {t t1 : Mem} (h : Fr4 t t1) : FM t t1 := ⟨fun c a _ _ _ => h.1 c a, fun i hi => h.2 i (by omega) (by omega) (by omega) (by omega)⟩
theorem FM.up0 {t t1 : Mem} (h : FM t t1) {i : Int} (hi : ¬ (i = 4 ∨ i = 5 ∨ i = 12 ∨ i = 16 ∨ i = 23 ∨ i = 25 ∨ i = 26)) (v : Int) : FM t (mup t1 0 i v) := ⟨fun c a b d e => by rw [mup_o a]; exact h.1 c a b d e, fun k hk => by rw [mup_n (Or.inr (by omega))]; exact h.2 k hk⟩
theorem FM.up7 {t t1 : Mem} (h : FM t t1) {a : Nat} (ha : a = 5 ∨ a = 6 ∨ a = 7) (i v : Int) : FM t (mup t1 a i v) := ⟨fun c a1 b d e => by rw [mup_o (by omega)]; exact h.1 c a1 b d e, fun k hk => by rw [mup_o (by omega)]; exact h.2 k hk⟩
def Er (s t : Mem) : Prop := s 236 5 = t 0 21 ∧ s 236 6 = t 0 22
def adv (s : Mem) : Mem := mup s 236 12 (s 236 12 + 1)
theorem adv_fc (s : Mem) : FC s (adv s) := (FC.rf s).up (by decide) (Or.inr (by decide))
section
variable {T : List Tk} {B : Int → Int} {L : Nat} {r : Int} {s t : Mem} {x : Tk} {R : List Tk}
theorem PT.ok (hc : PC T B L r) (h : PT T B L r s t (x :: R)) : TokOk x := by
  obtain ⟨P, p1, p2⟩ := h.2.1
  have hx : x ∈ T := by
    rw [p1]
    exact List.mem_append_right _ List.mem_cons_self
  rw [hc.1] at hx
  exact TL_dom hx
theorem PT.at (hc : PC T B L r) (h : PT T B L r s t (x :: R)) : ∃ i : Nat, s 236 12 = i ∧ i + (R.length + 1) = T.length ∧ s 236 11 = T.length ∧ s 257 i = x.1 ∧ s 258 i = x.2.1 ∧ s 259 i = x.2.2 ∧ i ≤ 400 := by
  obtain ⟨⟨a1, a2, a3, a4⟩, ⟨P, p1, p2⟩, -⟩ := h
  have hl := hc.2.2.1
  have el : T.length = P.length + (R.length + 1) := by
    rw [p1, List.length_append, List.length_cons]
  have m1 : (P.map (fun q : Tk => q.1)).length = P.length := List.length_map _
  have m2 : (P.map (fun q : Tk => q.2.1)).length = P.length := List.length_map _
  have m3 : (P.map (fun q : Tk => q.2.2)).length = P.length := List.length_map _
  rw [p1, List.map_append] at a1 a2 a3
  have b1 := ((LsC_app _ _ _ _).mp a1).2.1
  have b2 := ((LsC_app _ _ _ _).mp a2).2.1
  have b3 := ((LsC_app _ _ _ _).mp a3).2.1
  rw [m1, Int.zero_add] at b1
  rw [m2, Int.zero_add] at b2
  rw [m3, Int.zero_add] at b3
  exact ⟨P.length, p2, by omega, a4, b1, b2, b3, by omega⟩
theorem c_next (hc : PC T B L r) (h : PT T B L r s t (x :: R)) : f_X7_next 236 s = some (x.1, s) := by
  obtain ⟨i, i1, i2, i3, i4, i5, i6, i7⟩ := h.at hc
  unfold f_X7_next
  simp only [Nat.reduceAdd]
  rw [i1, i3, if_neg (by omega), if_pos (by omega), gd_t (by omega), i4]
theorem c_refuse (hc : PC T B L r) (h : PT T B L r s t (x :: R)) (why : Int) : ∃ (s1 t1 : Mem), f_X7_refuse 236 why s = some (0, s1) ∧ f_X12_bad 0 why t = some (0, t1) ∧ Er s1 t1 ∧ FD s s1 ∧ FM t t1 := by
  obtain ⟨i, i1, i2, i3, i4, i5, i6, i7⟩ := h.at hc
  have h19 : t 0 19 = x.2.2 := h.2.2.1.2.1
  unfold f_X7_refuse f_X12_bad
  simp only [Nat.reduceAdd]
  rw [lm_s, jn_s, jn_s, mup_n (i' := 12) (Or.inr (by decide)), mup_n (i' := 11) (Or.inr (by decide)), i1, i3, if_neg (by omega), if_pos (by omega), gd_t (by omega), mup_o (by decide), i6, lm_s, lm_s]
  show ∃ s1 t1 : Mem, lm _ _ = _ ∧ _
  rw [lm_s, mup_n (i' := 19) (Or.inr (by decide)), h19]
  exact ⟨_, _, rfl, rfl, ⟨by rw [mup_n (Or.inr (by decide)), mup_e rfl rfl, mup_n (Or.inr (by decide)), mup_e rfl rfl], by rw [mup_e rfl rfl, mup_e rfl rfl]⟩, ((FC.rf s).fd.up (by decide) (Or.inr (by decide))).up (by decide) (Or.inr (by decide)), ((FM.rf t).up0 (by decide) _).up0 (by decide) _⟩
/-- both go on by one token -/
theorem both_adv (hc : PC T B L r) (h : PT T B L r s t (x :: R)) (hx : x.1 ≠ 30) : ∃ t1 : Mem, f_X12_next0 0 t = some (0, t1) ∧ PT T B L r (adv s) t1 R ∧ Fr4 t t1 ∧ wr (s 236 12 + 1) = s 236 12 + 1 := by
  obtain ⟨i, i1, i2, i3, i4, i5, i6, i7⟩ := h.at hc
  obtain ⟨a1, ⟨P, p1, p2⟩, m1, m2, m3, m4⟩ := h
  obtain ⟨q1, q2, q3, q4⟩ := m1
  obtain ⟨p, z1, z2, z3⟩ := (q4.resolve_left (fun z => hx z.1)).2
  obtain ⟨t1, b1, b2, b3⟩ := m_next (t := t) (L := L) (p := p) m2 hc.2.1 (by rw [m3]; exact hc.2.2.2.1) (by rw [m4]; exact hc.2.2.2.2) z1 z2
  rw [m3, ← z3] at b3
  refine ⟨t1, b1, ⟨⟨?_, ?_, ?_, ?_⟩, ⟨P ++ [x], by rw [List.append_assoc]; exact p1, ?_⟩, b3, ?_, by rw [b2.b]; exact m3, ?_⟩, b2, wr_n (by omega)⟩
  · unfold adv
    rw [mup_o (by decide)]
    exact a1.1
  · unfold adv
    rw [mup_o (by decide)]
    exact a1.2.1
  · unfold adv
    rw [mup_o (by decide)]
    exact a1.2.2.1
  · unfold adv
    rw [mup_n (Or.inr (by decide))]
    exact a1.2.2.2
  · unfold adv
    rw [mup_e rfl rfl, p2, List.length_append]
    rfl
  · rw [b2.2 16 (by decide) (by decide) (by decide) (by decide)]
    exact m2
  · rw [b2.2 12 (by decide) (by decide) (by decide) (by decide)]
    exact m4
theorem PT.sc {s1 t1 : Mem} (h : PT T B L r s t R) (q1 : ∀ c : Nat, (c = 257 ∨ c = 258 ∨ c = 259) → s1 c = s c) (q2 : s1 236 11 = s 236 11 ∧ s1 236 12 = s 236 12) (q3 : ∀ i : Int, (i = 12 ∨ i = 16 ∨ i = 17 ∨ i = 18 ∨ i = 19 ∨ i = 20) → t1 0 i = t 0 i) (q4 : t1 8 = t 8) : PT T B L r s1 t1 R := by
  obtain ⟨⟨a1, a2, a3, a4⟩, ⟨P, p1, p2⟩, m1, m2, m3, m4⟩ := h
  refine ⟨⟨by rw [q1 257 (by decide)]; exact a1, by rw [q1 258 (by decide)]; exact a2, by rw [q1 259 (by decide)]; exact a3, q2.1.trans a4⟩, ⟨P, p1, q2.2.trans p2⟩, ?_, (q3 16 (by decide)).trans m2, q4.trans m3, (q3 12 (by decide)).trans m4⟩
  cases R with
  | nil => exact m1
  | cons y R =>
    obtain ⟨z1, z2, z3, z4⟩ := m1
    exact ⟨by rw [q3 18 (by decide), q3 12 (by decide)]; exact z1, (q3 19 (by decide)).trans z2, fun z => (q3 20 (by decide)).trans (z3 z), z4.imp id (fun ⟨w1, p, w2⟩ => ⟨w1, p, (q3 17 (by decide)).trans w2.1, w2.2⟩)⟩
theorem PT.tk (h : PT T B L r s t (x :: R)) : t 0 18 = tkm r x.1 := by
  rw [← h.2.2.2.2.2]
  exact h.2.2.1.1
theorem PT.val (h : PT T B L r s t (x :: R)) (hx : x.1 = 31) : t 0 20 = x.2.1 := h.2.2.1.2.2.1 hx
theorem l_pass (hc : PC T B L r) (h : PT T B L r s t (x :: R)) {c m : Int} (hd : TokD c) (hm : tkm r c = m) (h1 : m ≠ 1) (h30 : c ≠ 30) : (x.1 = c → ∃ t1 : Mem, f_X7_passes 236 c s = some (1, adv s) ∧ f_X12_need 0 m t = some (1, t1) ∧ PT T B L r (adv s) t1 R ∧ Fr4 t t1) ∧ (x.1 ≠ c → ∃ s1 t1 : Mem, f_X7_passes 236 c s = some (0, s1) ∧ f_X12_need 0 m t = some (0, t1) ∧ Er s1 t1 ∧ FD s s1 ∧ FM t t1) := by
  have hk := tk_eq hc.2.2.2.2 (h.ok hc).1 hd hm h1
  unfold f_X7_passes f_X12_need
  rw [bd_e (c_next hc h), h.tk]
  refine ⟨fun q => ?_, fun q => ?_⟩
  · obtain ⟨t1, a1, a2, a3, a4⟩ := both_adv hc h (by rw [q]; exact h30)
    rw [if_pos q, if_pos (hk.mpr q), a4, lm_s, bd_e a1]
    exact ⟨t1, rfl, rfl, a2, a3⟩
  · obtain ⟨s1, t1, a1, a2, a3, a4, a5⟩ := c_refuse hc h 1
    rw [if_neg q, if_neg (fun z => q (hk.mp z)), bd_e a1, bd_e a2]
    exact ⟨s1, t1, rfl, rfl, a3, a4, a5⟩
end

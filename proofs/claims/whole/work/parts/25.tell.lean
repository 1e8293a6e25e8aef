/-! ===== L3: what THE LAW tells ===== -/
abbrev Lin : Type := Int × List Sg × List Sg
def sFx (w : Int → Int) (b : Int) (k : Int) : Int :=
  if k = 1 then w 1 else if k = 2 then w 2 else if k = 3 then w 3 else if k = 8 then (w 0).tmod 24 else if hasB w b then (if k = 4 then w (85 + w (7 + b)) else if k = 5 then w (65 + b) else if k = 6 then w (75 + b) else if k = 7 then w (7 + b) else if k = 9 then sStk w b else if k = 10 then sLean w b else 0) else 0
def LwM (w : Int → Int) : Int → Int → List Lin → Prop
  | _, _, [] => True
  | i, p, l :: r => w (896 + i) = l.1 ∧ w (848 + i) = p ∧ w (864 + i) = p + l.2.1.length ∧ w (880 + i) = p + l.2.1.length + l.2.2.length ∧ StM w p l.2.1 ∧ StM w (p + l.2.1.length) l.2.2 ∧ LwM w (i + 1) (p + l.2.1.length + l.2.2.length) r
def LwC (f1 f2 f3 f4 : Int → Int) : Int → Int → List Lin → Prop
  | _, _, [] => True
  | i, p, l :: r => f1 i = l.1 - 10 ∧ f2 i = p + (trs l.2.1).length ∧ f3 i = p + (trs l.2.1).length + (trs l.2.2).length ∧ LsC f4 p (trs l.2.1) ∧ LsC f4 (p + (trs l.2.1).length) (trs l.2.2) ∧ LwC f1 f2 f3 f4 (i + 1) (p + (trs l.2.1).length + (trs l.2.2).length) r
def OkE (E : List Sg) : Prop := Dp E 0 1 ∧ ∀ fx : Int → Int, ∃ v, ev fx E [] = [v]
def OkB (B : List Sg) : Prop := B = [] ∨ (B ≠ [] ∧ Dp B 0 1 ∧ ∀ fx : Int → Int, ∃ v, (v = 0 ∨ v = 1) ∧ ev fx B [] = [v])
def OkL (l : Lin) : Prop := 20 ≤ l.1 ∧ l.1 ≤ 23 ∧ OkE l.2.1 ∧ OkB l.2.2
def nSt : List Lin → Nat
  | [] => 0
  | l :: r => l.2.1.length + l.2.2.length + nSt r
def nCo : List Lin → Nat
  | [] => 0
  | l :: r => (trs l.2.1).length + (trs l.2.2).length + nCo r
def OkW (lw : List Lin) : Prop := lw.length ≤ 16 ∧ nSt lw ≤ 410 ∧ nCo lw ≤ 400 ∧ ∀ l ∈ lw, OkL l
def LawM (w : Int → Int) (lw : List Lin) : Prop := w 59 = lw.length ∧ LwM w 0 0 lw
def LawC (s : Mem) (a : Nat) (lw : List Lin) : Prop := s a 4 = lw.length ∧ LwC (s (a + 1)) (s (a + 2)) (s (a + 3)) (s (a + 4)) 0 0 lw
/-- what is told: of the first line with that word whose B is so -/
def isSo (fx : Int → Int) (l : Lin) : Prop := l.2.2 = [] ∨ ev fx l.2.2 [] = [1]
def sTell (fx : Int → Int) (wd dflt : Int) : List Lin → Int
  | [] => dflt
  | l :: r => if l.1 = wd then (if l.2.2.length = 0 then (ev fx l.2.1 []).headD 0 else if (ev fx l.2.2 []).headD 0 = 1 then (ev fx l.2.1 []).headD 0 else sTell fx wd dflt r) else sTell fx wd dflt r
theorem trs_pos : ∀ (L : List Sg), L ≠ [] → 1 ≤ (trs L).length
  | [], h => absurd rfl h
  | q :: L, _ => by
    have h : 1 ≤ (tr q).length := by
      unfold tr
      repeat' split
      all_goals exact Nat.le_of_ble_eq_true rfl
    show 1 ≤ (tr q ++ trs L).length
    rw [List.length_append]
    omega
/-! the model's side -/
section
variable {fx : Int → Int}
theorem m_isSo {t : Mem} {i p : Int} {l : Lin} (hi : 0 ≤ i ∧ i < 16) (hp : 0 ≤ p) (hl : OkL l) (hp2 : p + l.2.1.length + l.2.2.length ≤ 410) (h3 : t 1 (864 + i) = p + l.2.1.length) (h4 : t 1 (880 + i) = p + l.2.1.length + l.2.2.length) (hS : StM (t 1) (p + l.2.1.length) l.2.2) (hf : ∀ k : Int, 1 ≤ k → k ≤ 10 → t 10 k = fx k) :
    ∃ t1 : Mem, f_X12_isSo 0 i t = some (bI (l.2.2.length = 0 ∨ (ev fx l.2.2 []).headD 0 = 1), t1) ∧ ∀ a : Nat, a ≠ 9 → t1 a = t a := by
  have E1 : wr (880 + i) = 880 + i := wr_n (by omega)
  have E2 : wr (864 + i) = 864 + i := wr_n (by omega)
  unfold f_X12_isSo
  rw [Nat.zero_add, E1, E2, gd_t (by omega), gd_t (by omega), h3, h4]
  by_cases hB : l.2.2.length = 0
  · rw [if_pos (by omega), bI_t (Or.inl hB)]
    exact ⟨t, rfl, fun _ _ => rfl⟩
  · rw [if_neg (by omega), gd_t (by omega), gd_t (by omega)]
    obtain ⟨-, -, -, hB2⟩ := hl
    rcases hB2 with hB2 | ⟨-, hD, hv⟩
    · exact absurd (by rw [hB2]; rfl) hB
    · obtain ⟨v, hv1, hv2⟩ := hv fx
      obtain ⟨t1, e1, ho⟩ := m_comes (fx := fx) (L := l.2.2) (p := p + l.2.1.length) (e := p + l.2.1.length + l.2.2.length) (v := v) (t := t) (by omega) rfl hp2 hS hD hv2 hf
      rw [bd_e e1]
      refine ⟨t1, ?_, ho⟩
      have ev2 : (ev fx l.2.2 []).headD 0 = v := by rw [hv2]; rfl
      rw [ev2]
      by_cases h1 : v = 1
      · rw [if_pos h1, bI_t (Or.inr h1)]
      · rw [if_neg h1, bI_f (fun q => q.elim hB (fun z => h1 z))]
theorem m_says {k79 : Mem → Res} {k39 : Int → Mem → Res} {wd : Int} {Q : Int → Mem → Prop} {w : Int → Int} : ∀ (r : List Lin) (n : Nat) (i p : Int) (t : Mem), r.length < n → 0 ≤ i → w 59 = i + r.length → i + r.length ≤ 16 → 0 ≤ p → p + nSt r ≤ 410 → LwM w i p r → (∀ l ∈ r, OkL l) → t 1 = w → (∀ k : Int, 1 ≤ k → k ≤ 10 → t 10 k = fx k) →
    (∀ t1 : Mem, (∀ a : Nat, a ≠ 9 → t1 a = t a) → (∀ d : Int, sTell fx wd d r = d) → wp (k79 t1) Q) →
    (∀ t1 : Mem, (∀ a : Nat, a ≠ 9 → t1 a = t a) → ∀ (j q : Int) (E : List Sg), 0 ≤ j → j < 16 → 0 ≤ q → q + E.length ≤ 410 → w (848 + j) = q → w (864 + j) = q + E.length → StM w q E → OkE E → (∀ d : Int, sTell fx wd d r = (ev fx E []).headD 0) → wp (k39 j t1) Q) →
    wp (f_X12_says_3 0 wd k79 k39 n i t) Q := by
  intro r
  induction r with
  | nil =>
    intro n i p t hn hi hc h16 hp hp2 hL hO ht hf h79 h39
    cases n with
    | zero => exact absurd hn (Nat.not_lt_zero _)
    | succ n =>
      have e : (([] : List Lin).length : Int) = 0 := rfl
      rw [f_X12_says_3, gd_t (by decide), Nat.zero_add, ht, if_neg (by omega)]
      exact h79 t (fun _ _ => rfl) (fun _ => rfl)
  | cons l r ih =>
    intro n i p t hn hi hc h16 hp hp2 hL hO ht hf h79 h39
    have e : ((l :: r).length : Int) = (r.length : Int) + 1 := by rw [List.length_cons]; omega
    have e2 : ((nSt (l :: r) : Nat) : Int) = l.2.1.length + l.2.2.length + nSt r := by
      show ((l.2.1.length + l.2.2.length + nSt r : Nat) : Int) = _
      omega
    cases n with
    | zero => exact absurd hn (Nat.not_lt_zero _)
    | succ n =>
      obtain ⟨g1, g2, g3, g4, g5, g6, g7⟩ := hL
      have hl := hO l List.mem_cons_self
      have E1 : wr (896 + i) = 896 + i := wr_n (by omega)
      have E2 : wr (i + 1) = i + 1 := wr_n (by omega)
      rw [f_X12_says_3, gd_t (by decide), Nat.zero_add, ht, if_pos (by omega)]
      rw [E1, gd_t (by omega), jn_s, g1]
      -- on to the next line
      have hnext : ∀ t1 : Mem, (∀ a : Nat, a ≠ 9 → t1 a = t a) → (∀ d : Int, sTell fx wd d (l :: r) = sTell fx wd d r) → wp (f_X12_says_3 0 wd k79 k39 n (wr (i + 1)) t1) Q := by
        intro t1 ho hs
        rw [E2]
        refine ih n (i + 1) (p + l.2.1.length + l.2.2.length) t1 (by rw [List.length_cons] at hn; omega) (by omega) (by omega) (by omega) (by omega) (by omega) g7 (fun x hx => hO x (List.mem_cons_of_mem _ hx)) (by rw [ho 1 (by decide), ht]) (fun j h1 h2 => by rw [ho 10 (by decide)]; exact hf j h1 h2) ?_ ?_
        · intro t2 ho2 hd
          exact h79 t2 (fun a ha => (ho2 a ha).trans (ho a ha)) (fun d => by rw [hs d, hd d])
        · intro t2 ho2 j q E x1 x2 x3 x4 x5 x6 x7 x8 x9
          exact h39 t2 (fun a ha => (ho2 a ha).trans (ho a ha)) j q E x1 x2 x3 x4 x5 x6 x7 x8 (fun d => by rw [hs d, x9 d])
      have hst : ∀ d : Int, sTell fx wd d (l :: r) = if l.1 = wd then (if l.2.2.length = 0 then (ev fx l.2.1 []).headD 0 else if (ev fx l.2.2 []).headD 0 = 1 then (ev fx l.2.1 []).headD 0 else sTell fx wd d r) else sTell fx wd d r := fun _ => rfl
      by_cases hw1 : l.1 = wd
      · rw [if_pos hw1]
        obtain ⟨t1, e3, ho⟩ := m_isSo (fx := fx) (t := t) (i := i) (p := p) (l := l) (by omega) hp hl (by omega) (by rw [ht]; exact g3) (by rw [ht]; exact g4) (by rw [ht]; exact g6) hf
        rw [bd_e e3, bI_z]
        by_cases hso : l.2.2.length = 0 ∨ (ev fx l.2.2 []).headD 0 = 1
        · rw [if_pos hso]
          refine h39 t1 ho i p l.2.1 hi (by omega) hp (by omega) g2 g3 g5 hl.2.2.1 (fun d => ?_)
          rw [hst d, if_pos hw1]
          by_cases hb0 : l.2.2.length = 0
          · rw [if_pos hb0]
          · rw [if_neg hb0, if_pos (hso.resolve_left hb0)]
        · rw [if_neg hso]
          refine hnext t1 ho (fun d => ?_)
          rw [hst d, if_pos hw1, if_neg (fun q => hso (Or.inl q)), if_neg (fun q => hso (Or.inr q))]
      · rw [if_neg hw1]
        refine hnext t (fun _ _ => rfl) (fun d => ?_)
        rw [hst d, if_neg hw1]
theorem e_says {t : Mem} {lw : List Lin} {wd d lo hi : Int} (hM : LawM (t 1) lw) (hO : OkW lw) (hf : ∀ k : Int, 1 ≤ k → k ≤ 10 → t 10 k = fx k) :
    ∃ t1 : Mem, f_X12_says 0 wd d lo hi t = some (mmx lo (mmn hi (sTell fx wd d lw)), t1) ∧ ∀ a : Nat, a ≠ 9 → t1 a = t a := by
  obtain ⟨o1, o2, o3, o4⟩ := hO
  have h := m_says (fx := fx) (wd := wd) (w := t 1) (Q := fun r s => r = mmx lo (mmn hi (sTell fx wd d lw)) ∧ ∀ a : Nat, a ≠ 9 → s a = t a)
    (k79 := fun s1 => bd (f_X12_held d lo hi s1) fun r2 s3 => some (r2, s3))
    (k39 := fun v4 s5 => gd ((0 : Int) ≤ wr (848 + v4) ∧ wr (848 + v4) < 1732) (gd ((0 : Int) ≤ wr (864 + v4) ∧ wr (864 + v4) < 1732) (bd (f_X12_comesTo 0 0 (s5 (0 + 1) (wr (848 + v4))) (s5 (0 + 1) (wr (864 + v4))) s5) fun r8 s9 => bd (f_X12_held r8 lo hi s9) fun r10 s11 => some (r10, s11))))
    lw FU 0 0 t (fu_lt (by omega)) (by omega) (by rw [hM.1]; omega) (by omega) (by omega) (by omega) hM.2 o4 rfl hf
    (fun t1 ho hd => by
      rw [bd_e (e_held d lo hi t1)]
      refine wp_s ⟨?_, ho⟩
      rw [hd d])
    (fun t1 ho j q E x1 x2 x3 x4 x5 x6 x7 x8 x9 => by
      have E1 : wr (848 + j) = 848 + j := wr_n (by omega)
      have E2 : wr (864 + j) = 864 + j := wr_n (by omega)
      rw [Nat.zero_add, E1, E2, gd_t (by omega), gd_t (by omega), ho 1 (by decide), x5, x6]
      obtain ⟨v, hv⟩ := x8.2 fx
      obtain ⟨t2, e3, ho2⟩ := m_comes (fx := fx) (L := E) (p := q) (e := q + E.length) (v := v) (t := t1) x3 rfl x4 (by rw [ho 1 (by decide)]; exact x7) x8.1 hv (fun k h1 h2 => by rw [ho 10 (by decide)]; exact hf k h1 h2)
      rw [bd_e e3, bd_e (e_held v lo hi t2)]
      refine wp_s ⟨?_, fun a ha => (ho2 a ha).trans (ho a ha)⟩
      rw [x9 d, hv]
      rfl)
  obtain ⟨r, s, h1, h2, h3⟩ := h
  have h1' : f_X12_says 0 wd d lo hi t = some (r, s) := h1
  exact ⟨s, by rw [h1', h2], h3⟩
end

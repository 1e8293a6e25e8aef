/-! ===== L3: texts: numbers; CURRENTS ===== -/
/-- how both readers of a line end: alike, with a fault told alike, or both with what holds then -/
def Two (o1 o2 : Res) (s t : Mem) (Q : Mem → Mem → Prop) : Prop := (∃ s1 t1 : Mem, o1 = some (1, s1) ∧ o2 = some (1, t1) ∧ FC s s1 ∧ FM t t1 ∧ Q s1 t1) ∨ (∃ s1 t1 : Mem, o1 = some (0, s1) ∧ o2 = some (0, t1) ∧ Er s1 t1 ∧ FD s s1 ∧ FM t t1)
theorem Two.no {o1 o2 : Res} {s t s1 t1 s2 t2 : Mem} {Q : Mem → Mem → Prop} (h1 : o1 = some (0, s2)) (h2 : o2 = some (0, t2)) (he : Er s2 t2) (f1 : FC s s1) (f2 : FD s1 s2) (g1 : FM t t1) (g2 : FM t1 t2) : Two o1 o2 s t Q := Or.inr ⟨s2, t2, h1, h2, he, f1.tl f2, g1.tr g2⟩
section
variable {T : List Tk} {B : Int → Int} {L : Nat} {r : Int} {s t : Mem} {x : Tk} {R : List Tk}
theorem num_tk {r : Int} (hr : 0 ≤ r ∧ r ≤ 3) : tkm r 31 = 2 := rfl
theorem l_num (hc : PC T B L r) (h : PT T B L r s t (x :: R)) {lo hi pl : Int} (hp : 0 ≤ pl ∧ pl < 64) : (x.1 = 31 ∧ lo ≤ x.2.1 ∧ x.2.1 ≤ hi → ∃ t1 : Mem, f_X7_passesNumber 236 lo hi s = some (1, adv (mup s 236 13 x.2.1)) ∧ f_X12_number 0 pl lo hi t = some (1, t1) ∧ PT T B L r (adv (mup s 236 13 x.2.1)) t1 R ∧ t1 7 = up (t 7) pl x.2.1 ∧ (∀ c : Nat, c ≠ 0 → c ≠ 7 → t1 c = t c) ∧ ∀ i : Int, i ≠ 17 → i ≠ 18 → i ≠ 19 → i ≠ 20 → t1 0 i = t 0 i) ∧ (¬ (x.1 = 31 ∧ lo ≤ x.2.1 ∧ x.2.1 ≤ hi) → ∃ s1 t1 : Mem, f_X7_passesNumber 236 lo hi s = some (0, s1) ∧ f_X12_number 0 pl lo hi t = some (0, t1) ∧ Er s1 t1 ∧ FD s s1 ∧ FM t t1) := by
  obtain ⟨i, i1, i2, i3, i4, i5, i6, i7⟩ := h.at hc
  have hk := tk_eq hc.2.2.2.2 (h.ok hc).1 (show TokD 31 by decide) (num_tk hc.2.2.2.2) (by decide)
  have e58 : s (236 + 22) (s 236 12) = x.2.1 := by
    rw [i1]
    exact i5
  have hu : ∀ v : Int, PT T B L r (mup s 236 13 v) t (x :: R) := fun v => h.sc (fun c hc => mup_o (by omega)) ⟨mup_n (Or.inr (by decide)), mup_n (Or.inr (by decide))⟩ (fun _ _ => rfl) rfl
  unfold f_X7_passesNumber f_X12_number
  rw [bd_e (c_next hc h), h.tk]
  by_cases c1 : x.1 = 31
  · rw [if_pos c1, if_pos (hk.mpr c1), gd_t (by omega), e58, lm_s, mup_e rfl rfl, bd_e (e_within _ _ _ _), bI_z, h.val c1, bd_e (e_isIn _ _ _ _), bI_z]
    by_cases c2 : lo ≤ x.2.1 ∧ x.2.1 ≤ hi
    · have hu7 : PT T B L r (mup s 236 13 x.2.1) (mup t 7 pl x.2.1) (x :: R) := (hu x.2.1).sc (fun _ _ => rfl) ⟨rfl, rfl⟩ (fun i _ => by rw [mup_o (by decide)]) (mup_o (by decide))
      obtain ⟨t1, a1, a2, a3, a4⟩ := both_adv hc hu7 (by rw [c1]; decide)
      rw [if_pos c2, if_pos c2, gd_t hp, a4, lm_s, lm_s, h.val c1, Nat.zero_add, bd_e a1]
      refine ⟨fun _ => ⟨t1, rfl, rfl, a2, by rw [a3.1 7 (by decide), mup_row], fun c q1 q2 => by rw [a3.1 c q1, mup_o q2], fun i q1 q2 q3 q4 => by rw [a3.2 i q1 q2 q3 q4, mup_o (by decide)]⟩, fun q => absurd ⟨c1, c2⟩ q⟩
    · obtain ⟨s1, t1, a1, a2, a3, a4, a5⟩ := c_refuse hc (hu x.2.1) 2
      rw [if_neg c2, if_neg c2, bd_e a1, bd_e a2]
      exact ⟨fun q => absurd q.2 c2, fun _ => ⟨s1, t1, rfl, rfl, a3, ((FC.rf s).up (by decide) (Or.inr (by decide))).tl a4, a5⟩⟩
  · obtain ⟨s1, t1, a1, a2, a3, a4, a5⟩ := c_refuse hc h 1
    rw [if_neg c1, if_neg (fun z => c1 (hk.mp z)), bd_e a1, bd_e a2]
    exact ⟨fun q => absurd q.1 c1, fun _ => ⟨s1, t1, rfl, rfl, a3, a4, a5⟩⟩
/-- the lines read so far, of CURRENTS -/
def CuR (s t : Mem) (n : Nat) : Prop := s 244 2 = n ∧ t 0 15 = n ∧ n ≤ 16 ∧ ∀ i : Int, 0 ≤ i → i < n → s 245 i = t 7 (2 * i) ∧ s 246 i = t 7 (2 * i + 1) ∧ (0 ≤ t 7 (2 * i) ∧ t 7 (2 * i) ≤ 23) ∧ (-5 ≤ t 7 (2 * i + 1) ∧ t 7 (2 * i + 1) ≤ 5)
end

/-! ===== L3: texts: a line of A PLAN ===== -/
def PlR (bo : Int) (s t : Mem) (n : Nat) : Prop := s 247 4 = n ∧ t 0 15 = n ∧ n ≤ 16 ∧ t 1 58 = bo ∧ ∀ i : Int, 0 ≤ i → i < n → s 248 i = t 7 (4 * i) ∧ s 249 i = actC (t 7 (4 * i + 1)) ∧ (t 7 (4 * i + 1) ≠ 12 → s 250 i = t 7 (4 * i + 2)) ∧ (t 7 (4 * i + 1) = 12 → s 251 i = t 7 (4 * i + 2)) ∧ (t 7 (4 * i + 1) = 14 → s 251 i = t 7 (4 * i + 3)) ∧ (11 ≤ t 7 (4 * i + 1) ∧ t 7 (4 * i + 1) ≤ 14) ∧ (t 7 (4 * i + 1) = 12 → 0 ≤ t 7 (4 * i + 2) ∧ t 7 (4 * i + 2) ≤ 9) ∧ (t 7 (4 * i + 1) = 14 → 0 ≤ t 7 (4 * i + 3) ∧ t 7 (4 * i + 3) ≤ 15)
section
variable {T : List Tk} {B : Int → Int} {L : Nat} {r : Int} {s t : Mem} {x : Tk} {R : List Tk}
theorem Two.fr {o1 o2 : Res} {s1 t1 : Mem} {Q : Mem → Mem → Prop} (f : FC s s1) (g : FM t t1) (h : Two o1 o2 s1 t1 Q) : Two o1 o2 s t Q := by
  rcases h with ⟨s2, t2, z1, z2, z3, z4, z5⟩ | ⟨s2, t2, z1, z2, z3, z4, z5⟩
  · exact Or.inl ⟨s2, t2, z1, z2, f.tr z3, g.tr z4, z5⟩
  · exact Or.inr ⟨s2, t2, z1, z2, z3, f.tl z4, g.tr z5⟩
/-- the end of the line: what is entered -/
theorem p_end (hc : PC T B L 2) {bo : Int} {n : Nat} (h : PT T B L 2 s t R) {hour act boat a2 a3 : Int} {f7 : Int → Int} {s0 : Mem} (hn : n < 16) (h24 : ∀ c : Nat, c ≠ 236 → s c = s0 c) (h15 : t 0 15 = n) (h58 : t 1 58 = bo) (h7 : ∀ i : Int, 0 ≤ i → i < 4 * n → t 7 i = f7 i) (n1 : s0 247 4 = n) (n4 : ∀ i : Int, 0 ≤ i → i < n → s0 248 i = f7 (4 * i) ∧ s0 249 i = actC (f7 (4 * i + 1)) ∧ (f7 (4 * i + 1) ≠ 12 → s0 250 i = f7 (4 * i + 2)) ∧ (f7 (4 * i + 1) = 12 → s0 251 i = f7 (4 * i + 2)) ∧ (f7 (4 * i + 1) = 14 → s0 251 i = f7 (4 * i + 3)) ∧ (11 ≤ f7 (4 * i + 1) ∧ f7 (4 * i + 1) ≤ 14) ∧ (f7 (4 * i + 1) = 12 → 0 ≤ f7 (4 * i + 2) ∧ f7 (4 * i + 2) ≤ 9) ∧ (f7 (4 * i + 1) = 14 → 0 ≤ f7 (4 * i + 3) ∧ f7 (4 * i + 3) ≤ 15))
    (e0 : t 7 (4 * n) = hour) (e1 : t 7 (4 * n + 1) = act) (e2 : t 7 (4 * n + 2) = a2) (e3 : t 7 (4 * n + 3) = a3) (ha : 11 ≤ act ∧ act ≤ 14) (hb : act ≠ 12 → boat = a2) (hd : act = 12 → s 236 13 = a2 ∧ 0 ≤ a2 ∧ a2 ≤ 9) (hm : act = 14 → s 236 13 = a3 ∧ 0 ≤ a3 ∧ a3 ≤ 15) {k : Nat} (hk : R.length ≤ k) :
    Two (bd (f_X7_passes 236 59 s) fun r15 s16 => if r15 = 0 then (some (0, s16)) else (bd (f_X6_enter 247 hour (actC act) boat (s 236 13) s16) fun r18 s19 => some (1, s19))) (bd (f_X12_need 0 159 t) fun r2 s3 => if r2 = 0 then some (0, s3) else some (1, s3)) s t (fun s1 t1 => ∃ R', PT T B L 2 s1 t1 R' ∧ R'.length ≤ k ∧ PlR bo s1 (mup t1 0 15 ((n + 1 : Nat) : Int)) (n + 1) ∧ t1 0 15 = n) := by
  obtain ⟨o, R4, e4⟩ := h.ne
  rw [e4] at h hk
  refine Two.b (t_pass hc h (c := 59) (m := 159) (by decide) rfl (by decide) (by decide)) (fun s => by rw [if_pos rfl]) (fun t => by rw [if_pos rfl]) (fun s6 t6 f6 g6 ⟨k1, k2, k3⟩ => ?_)
  have y24 : ∀ c : Nat, c ≠ 236 → s6 c = s0 c := fun c hc => by rw [k2, adv_r hc, h24 c hc]
  have y2 : s6 247 4 = n := by rw [y24 247 (by decide)]; exact n1
  have y15 : t6 0 15 = n := (k3.2 15 (by decide) (by decide) (by decide) (by decide)).trans h15
  have y7 : t6 7 = t 7 := k3.1 7 (by decide)
  rw [if_neg (by decide), if_neg (by decide)]
  unfold f_X6_enter
  simp only [Nat.reduceAdd]
  rw [y2, if_pos (by omega), gd_t (by omega), lm_s, mup_o (a := 248) (by decide), y2, gd_t (by omega), lm_s, mup_o (a := 249) (by decide), mup_o (a := 248) (by decide), y2, gd_t (by omega), lm_s, mup_o (a := 250) (by decide), mup_o (a := 249) (by decide), mup_o (a := 248) (by decide), y2, gd_t (by omega), lm_s, mup_o (a := 251) (by decide), mup_o (a := 250) (by decide), mup_o (a := 249) (by decide), mup_o (a := 248) (by decide), y2, wr_n (x := (n : Int) + 1) (by omega), lm_s, bd_s]
  refine Two.ok rfl rfl (((((FC.rf s6).up (by decide) (Or.inl (by decide))).up (by decide) (Or.inl (by decide))).up (by decide) (Or.inl (by decide))).up (by decide) (Or.inl (by decide)) |>.up (by decide) (Or.inl (by decide))) (FM.rf t6) ⟨R4, ?_, ?_, ?_, y15⟩
  · exact k1.sc (fun c hc => by rw [mup_o (by omega), mup_o (by omega), mup_o (by omega), mup_o (by omega), mup_o (by omega)]) ⟨by rw [mup_o (by decide), mup_o (by decide), mup_o (by decide), mup_o (by decide), mup_o (by decide)], by rw [mup_o (by decide), mup_o (by decide), mup_o (by decide), mup_o (by decide), mup_o (by decide)]⟩ (fun _ _ => rfl) rfl
  · rw [List.length_cons] at hk
    omega
  · refine ⟨by rw [mup_e rfl rfl]; omega, by rw [mup_e rfl rfl], by omega, by rw [mup_o (by decide), k3.1 1 (by decide)]; exact h58, fun i g1 g2 => ?_⟩
    have et : mup t6 0 15 ((n + 1 : Nat) : Int) 7 = t 7 := (mup_o (by decide)).trans y7
    have c8 : ∀ v0 v1 v2 v3 v4 : Int, mup (mup (mup (mup (mup s6 248 n v0) 249 n v1) 250 n v2) 251 n v3) 247 4 v4 248 = up (s0 248) n v0 := fun v0 v1 v2 v3 v4 => by rw [mup_o (by decide), mup_o (by decide), mup_o (by decide), mup_o (by decide), mup_row, y24 248 (by decide)]
    have c9 : ∀ v0 v1 v2 v3 v4 : Int, mup (mup (mup (mup (mup s6 248 n v0) 249 n v1) 250 n v2) 251 n v3) 247 4 v4 249 = up (s0 249) n v1 := fun v0 v1 v2 v3 v4 => by rw [mup_o (by decide), mup_o (by decide), mup_o (by decide), mup_row, mup_o (by decide), y24 249 (by decide)]
    have c10 : ∀ v0 v1 v2 v3 v4 : Int, mup (mup (mup (mup (mup s6 248 n v0) 249 n v1) 250 n v2) 251 n v3) 247 4 v4 250 = up (s0 250) n v2 := fun v0 v1 v2 v3 v4 => by rw [mup_o (by decide), mup_o (by decide), mup_row, mup_o (by decide), mup_o (by decide), y24 250 (by decide)]
    have c11 : ∀ v0 v1 v2 v3 v4 : Int, mup (mup (mup (mup (mup s6 248 n v0) 249 n v1) 250 n v2) 251 n v3) 247 4 v4 251 = up (s0 251) n v3 := fun v0 v1 v2 v3 v4 => by rw [mup_o (by decide), mup_row, mup_o (by decide), mup_o (by decide), mup_o (by decide), y24 251 (by decide)]
    rw [et, c8, c9, c10, c11]
    by_cases ci : i = n
    · subst ci
      rw [up_eq rfl, up_eq rfl, up_eq rfl, up_eq rfl, e0, e1, e2, e3]
      exact ⟨rfl, rfl, hb, fun q => (hd q).1, fun q => (hm q).1, ha, fun q => (hd q).2, fun q => (hm q).2⟩
    · have hh := n4 i g1 (by omega)
      rw [up_ne ci, up_ne ci, up_ne ci, up_ne ci, h7 _ (by omega) (by omega), h7 _ (by omega) (by omega), h7 _ (by omega) (by omega), h7 _ (by omega) (by omega)]
      exact hh
end

/-! ===== L3: texts: a village entered ===== -/
def VlC (s : Mem) (n : Nat) : Prop := s 252 3 = n ∧ n = cn (s 253) 12 ∧ ∀ v : Int, 0 ≤ v → v < 12 → (0 ≤ s 253 v ∧ s 253 v ≤ 99) ∧ M12 (s 255 v)
def VlR0 (A Z : Int → Int) (a b : Int) : Prop := 0 < A a ∧ 0 < A b ∧ (bt (Z a) b = 1 ∨ bt (Z b) a = 1)
def VlF (F A Z : Int → Int) : Prop := ∀ a b : Int, 0 ≤ a → a < 12 → 0 ≤ b → b < 12 → M12 (F a) ∧ (bt (F a) b = 1 ↔ VlR0 A Z a b)
theorem VlR0.sy {A Z : Int → Int} {a b : Int} (h : VlR0 A Z a b) : VlR0 A Z b a := ⟨h.2.1, h.1, h.2.2.symm⟩
theorem c_told0 {s : Mem} {v : Int} (hv : 0 ≤ v ∧ v < 12) : f_X9_isTold 252 v s = some (bI (0 < s 253 v), s) := by
  unfold f_X9_isTold
  simp only [Nat.reduceAdd]
  rw [bd_e (e_within _ _ _ _), bI_z, if_pos (by omega), gd_t (by omega)]
  by_cases c : 0 < s 253 v
  · rw [if_pos c, bI_t c]
  · rw [if_neg c, bI_f c]
section
variable {A Z F0 : Int → Int} {v x3 : Int}
theorem c_ent {k : Mem → Res} (hv : 0 ≤ v ∧ v < 12) (hZ : ∀ a : Int, 0 ≤ a → a < 12 → M12 (Z a)) (hz : Z v = x3) (hs : ¬ bt x3 v = 1) (hA : 0 < A v) : ∀ (j fu : Nat) (x : Int) (s : Mem), j < fu → 0 ≤ x → x + j = 12 → s 253 = A → s 255 = Z → (∀ a b : Int, 0 ≤ a → a < 12 → 0 ≤ b → b < 12 → M12 (s 254 a) ∧ (bt (s 254 a) b = 1 ↔ bt (F0 a) b = 1 ∨ (VlR0 A Z a b ∧ ((a = v ∧ b < x) ∨ (b = v ∧ a < x))))) →
    ∃ s1 : Mem, f_X9_enter_38 252 v x3 k fu x s = k s1 ∧ (∀ c : Nat, c ≠ 254 → s1 c = s c) ∧ ∀ a b : Int, 0 ≤ a → a < 12 → 0 ≤ b → b < 12 → M12 (s1 254 a) ∧ (bt (s1 254 a) b = 1 ↔ bt (F0 a) b = 1 ∨ (VlR0 A Z a b ∧ ((a = v ∧ b < 12) ∨ (b = v ∧ a < 12)))) := by
  intro j
  induction j with
  | zero =>
    intro fu x s h1 h2 h3 h4 h5 h6
    have e : x = 12 := by omega
    subst e
    cases fu with
    | zero => exact absurd h1 (Nat.not_lt_zero _)
    | succ fu =>
      rw [f_X9_enter_38, if_neg (by decide)]
      exact ⟨s, rfl, fun _ _ => rfl, h6⟩
  | succ j ih =>
    intro fu x s h1 h2 h3 h4 h5 h6
    cases fu with
    | zero => exact absurd h1 (Nat.not_lt_zero _)
    | succ fu =>
      have hx : 0 ≤ x ∧ x < 12 := by omega
      rw [f_X9_enter_38, if_pos (by omega), bd_e (c_told0 hx), jn_s, bI_z]
      have nx : ∀ s' : Mem, (∀ c : Nat, c ≠ 254 → s' c = s c) → (∀ a b : Int, 0 ≤ a → a < 12 → 0 ≤ b → b < 12 → M12 (s' 254 a) ∧ (bt (s' 254 a) b = 1 ↔ bt (F0 a) b = 1 ∨ (VlR0 A Z a b ∧ ((a = v ∧ b < x + 1) ∨ (b = v ∧ a < x + 1))))) → ∃ s1 : Mem, f_X9_enter_38 252 v x3 k fu (wr (x + 1)) s' = k s1 ∧ (∀ c : Nat, c ≠ 254 → s1 c = s c) ∧ ∀ a b : Int, 0 ≤ a → a < 12 → 0 ≤ b → b < 12 → M12 (s1 254 a) ∧ (bt (s1 254 a) b = 1 ↔ bt (F0 a) b = 1 ∨ (VlR0 A Z a b ∧ ((a = v ∧ b < 12) ∨ (b = v ∧ a < 12)))) := by
        intro s' q1 q2
        obtain ⟨s1, a1, a2, a3⟩ := ih fu (x + 1) s' (by omega) (by omega) (by omega) ((q1 253 (by decide)).trans h4) ((q1 255 (by decide)).trans h5) q2
        rw [wr_n (by omega)]
        exact ⟨s1, a1, fun c hc => (a2 c hc).trans (q1 c hc), a3⟩
      have same : ¬ VlR0 A Z v x → ∀ a b : Int, 0 ≤ a → a < 12 → 0 ≤ b → b < 12 → M12 (s 254 a) ∧ (bt (s 254 a) b = 1 ↔ bt (F0 a) b = 1 ∨ (VlR0 A Z a b ∧ ((a = v ∧ b < x + 1) ∨ (b = v ∧ a < x + 1)))) := by
        intro hn a b g1 g2 g3 g4
        obtain ⟨p, q⟩ := h6 a b g1 g2 g3 g4
        refine ⟨p, q.trans (or_congr Iff.rfl ⟨fun z => ⟨z.1, by omega⟩, fun z => ⟨z.1, ?_⟩⟩)⟩
        rcases z.2 with w | w
        · by_cases e : b = x
          · rw [w.1, e] at z
            exact absurd z.1 hn
          · exact Or.inl ⟨w.1, by omega⟩
        · by_cases e : a = x
          · rw [w.1, e] at z
            exact absurd z.1.sy hn
          · exact Or.inr ⟨w.1, by omega⟩
      rw [h4]
      by_cases ct : 0 < A x
      · have hc := bt_orsh (x := x3) (y := Z x) (a := x) (b := v) (by rw [← hz]; exact hZ v hv.1 hv.2) (hZ x hx.1 hx.2) hx hv
        rw [if_pos ct, gd_t (by omega), h5]
        by_cases cr : iand (ior (ishr x3 x) (ishr (Z x) v)) 1 = 1
        · rw [if_pos cr, gd_t (by omega), gd_t (by omega), lm_s, gd_t (by omega), gd_t (by omega), lm_s]
          have hxv : x ≠ v := by
            intro e
            have := hc.mp cr
            rw [e, hz] at this
            exact hs (this.elim id id)
          have hR : VlR0 A Z v x := ⟨hA, ct, by rw [hz]; exact hc.mp cr⟩
          obtain ⟨o1, o2⟩ := M12_1 hx
          obtain ⟨o3, o4⟩ := M12_1 hv
          have m254 : ∀ a : Int, 0 ≤ a → a < 12 → M12 (s 254 a) := fun a g1 g2 => (h6 a a g1 g2 g1 g2).1
          obtain ⟨u1, u2⟩ := M12_or (m254 v hv.1 hv.2) o1
          obtain ⟨w1, w2⟩ := M12_or (m254 x hx.1 hx.2) o3
          refine nx _ (fun c hc => by rw [mup_o hc, mup_o hc]) (fun a b g1 g2 g3 g4 => ?_)
          rw [mup_n (i' := x) (Or.inr hxv), mup_row, mup_row]
          obtain ⟨p, q⟩ := h6 a b g1 g2 g3 g4
          by_cases ea : a = x
          · have ev : a ≠ v := by omega
            rw [up_eq ea]
            refine ⟨w1, (w2 b g3 g4).trans ?_⟩
            subst ea
            rw [q, o4 b g3 g4]
            constructor
            · rintro ((z | z) | z)
              · exact Or.inl z
              · exact Or.inr ⟨z.1, by omega⟩
              · exact Or.inr ⟨by rw [z]; exact hR.sy, Or.inr ⟨z, by omega⟩⟩
            · rintro (z | z)
              · exact Or.inl (Or.inl z)
              · rcases z.2 with y | y
                · exact absurd y.1 ev
                · exact Or.inr y.1
          · rw [up_ne ea]
            by_cases ev : a = v
            · rw [up_eq ev]
              refine ⟨u1, (u2 b g3 g4).trans ?_⟩
              rw [← ev] at hR ⊢
              rw [← ev] at q
              rw [q, o2 b g3 g4]
              constructor
              · rintro ((z | z) | z)
                · exact Or.inl z
                · exact Or.inr ⟨z.1, by omega⟩
                · exact Or.inr ⟨by rw [z]; exact hR, Or.inl ⟨rfl, by omega⟩⟩
              · rintro (z | z)
                · exact Or.inl (Or.inl z)
                · by_cases eb : b = x
                  · exact Or.inr eb
                  · exact Or.inl (Or.inr ⟨z.1, by omega⟩)
            · rw [up_ne ev]
              refine ⟨p, q.trans (or_congr Iff.rfl ⟨fun z => ⟨z.1, by omega⟩, fun z => ⟨z.1, by omega⟩⟩)⟩
        · rw [if_neg cr]
          exact nx s (fun _ _ => rfl) (same (fun z => cr (hc.mpr (by rw [← hz]; exact z.2.2))))
      · rw [if_neg ct]
        exact nx s (fun _ _ => rfl) (same (fun z => ct z.2.1))
end
theorem c_enter {s : Mem} {n : Nat} {v x2 x3 : Int} (hC : VlC s n) (hF : VlF (s 254) (s 253) (s 255)) (hv : 0 ≤ v ∧ v < 12) (h0 : ¬ 0 < s 253 v) (hx2 : 1 ≤ x2 ∧ x2 ≤ 99) (hx3 : M12 x3) (hs : ¬ bt x3 v = 1) : ∃ s1 : Mem, f_X9_enter 252 v x2 x3 s = some (0, s1) ∧ s1 253 = up (s 253) v x2 ∧ s1 255 = up (s 255) v x3 ∧ VlC s1 (n + 1) ∧ VlF (s1 254) (s1 253) (s1 255) ∧ ∀ c : Nat, (c < 252 ∨ 255 < c) → s1 c = s c := by
  obtain ⟨c1, c2, c3⟩ := hC
  have hn : n ≤ 12 := by
    rw [c2]
    exact cn_le _ _
  unfold f_X9_enter
  simp only [Nat.reduceAdd]
  rw [bd_e (e_within _ _ _ _), bI_z, if_pos (by omega), gd_t (by omega), lm_s, gd_t (by omega), lm_s, lm_s, jn_s]
  have e2 : mup (mup s 253 v x2) 255 v x3 252 3 = n := by rw [mup_o (by decide), mup_o (by decide)]; exact c1
  rw [e2, wr_n (x := (n : Int) + 1) (by omega)]
  have hZ : ∀ a : Int, 0 ≤ a → a < 12 → M12 (up (s 255) v x3 a) := by
    intro a g1 g2
    by_cases e : a = v
    · rw [up_eq e]
      exact hx3
    · rw [up_ne e]
      exact (c3 a g1 g2).2
  have q3 : mup (mup (mup s 253 v x2) 255 v x3) 252 3 ((n : Int) + 1) 253 = up (s 253) v x2 := by rw [mup_o (by decide), mup_o (by decide), mup_row]
  have q5 : mup (mup (mup s 253 v x2) 255 v x3) 252 3 ((n : Int) + 1) 255 = up (s 255) v x3 := by rw [mup_o (by decide), mup_row, mup_o (by decide)]
  have q4 : mup (mup (mup s 253 v x2) 255 v x3) 252 3 ((n : Int) + 1) 254 = s 254 := by rw [mup_o (by decide), mup_o (by decide), mup_o (by decide)]
  have q2 : mup (mup (mup s 253 v x2) 255 v x3) 252 3 ((n : Int) + 1) 252 3 = (n + 1 : Nat) := by rw [mup_e rfl rfl]; omega
  have qo : ∀ c : Nat, (c < 252 ∨ 255 < c) → mup (mup (mup s 253 v x2) 255 v x3) 252 3 ((n : Int) + 1) c = s c := fun c hc => by rw [mup_o (by omega), mup_o (by omega), mup_o (by omega)]
  generalize mup (mup (mup s 253 v x2) 255 v x3) 252 3 ((n : Int) + 1) = s0 at q2 q3 q4 q5 qo ⊢
  obtain ⟨s1, a1, a2, a3⟩ := c_ent (A := up (s 253) v x2) (Z := up (s 255) v x3) (F0 := s 254) (v := v) (x3 := x3) (k := fun s9 => some (0, s9)) hv hZ (up_eq rfl) hs (by rw [up_eq rfl]; omega) 12 FU 0 s0 (fu_lt (by decide)) (by decide) rfl q3 q5 (fun a b g1 g2 g3 g4 => by
    rw [q4]
    exact ⟨(hF a b g1 g2 g3 g4).1, ⟨fun z => Or.inl z, fun z => z.elim id (fun y => by omega)⟩⟩)
  have b3 := (a2 253 (by decide)).trans q3
  have b5 := (a2 255 (by decide)).trans q5
  refine ⟨s1, a1, b3, b5, ⟨by rw [a2 252 (by decide)]; exact q2, ?_, fun a g1 g2 => ?_⟩, fun a b g1 g2 g3 g4 => ?_, fun c hc => (a2 c (by omega)).trans (qo c hc)⟩
  · rw [b3, cn_up h0 (by omega) hv.1, if_pos (by omega), ← c2]
  · rw [b3, b5]
    refine ⟨?_, hZ a g1 g2⟩
    by_cases e : a = v
    · rw [up_eq e]
      omega
    · rw [up_ne e]
      exact (c3 a g1 g2).1
  · obtain ⟨p, q⟩ := a3 a b g1 g2 g3 g4
    refine ⟨p, q.trans ?_⟩
    rw [b3, b5, (hF a b g1 g2 g3 g4).2]
    by_cases ea : a = v
    · refine ⟨fun z => z.elim (fun y => absurd (by rw [← ea]; exact y.1) h0) (fun y => y.1), fun z => Or.inr ⟨z, Or.inl ⟨ea, g4⟩⟩⟩
    · by_cases eb : b = v
      · refine ⟨fun z => z.elim (fun y => absurd (by rw [← eb]; exact y.2.1) h0) (fun y => y.1), fun z => Or.inr ⟨z, Or.inr ⟨eb, g2⟩⟩⟩
      · unfold VlR0
        rw [up_ne ea, up_ne eb, up_ne ea, up_ne eb]
        exact ⟨fun z => z.elim id (fun y => y.1), fun z => Or.inl z⟩

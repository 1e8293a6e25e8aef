/-! ===== L3: texts: line by line (not THE LAW) ===== -/
noncomputable def clL (r bo : Int) (s : Mem) : Res := if r = 1 then f_X7_currentLine 236 s else if r = 2 then f_X7_planLine 236 bo s else f_X7_villageLine 236 s
theorem bad_0 (w : Int) (t : Mem) : ∃ t1 : Mem, f_X12_bad 0 w t = some (0, t1) := ⟨_, rfl⟩
section
variable {T : List Tk} {B : Int → Int} {L : Nat} {r : Int}
theorem l_rows (hc : PC T B L r) (hr : r ≠ 0) {bo m : Int} (hm : ∃ c : Int, TokD c ∧ tkm r c = m ∧ m ≠ 1 ∧ m ≠ 0) {I : Mem → Mem → Nat → Prop} (h15 : ∀ s t n, I s t n → t 0 15 = n ∧ n ≤ 16)
    (hl : ∀ (s t : Mem) (x : Tk) (R : List Tk) (n : Nat), PT T B L r s t (x :: R) → I s t n → Two (clL r bo s) (lnM m t) s t (fun s1 t1 => ∃ R' : List Tk, PT T B L r s1 t1 R' ∧ R'.length ≤ R.length ∧ I s1 (mup t1 0 15 ((n + 1 : Nat) : Int)) (n + 1) ∧ t1 0 15 = n)) :
    ∀ (j f1 f2 : Nat) (c n : Nat) (s t : Mem) (R : List Tk), R.length ≤ j → j < f1 → j + 1 < f2 → c + R.length ≤ T.length → PT T B L r s t R → I s t n → Two (f_X7_reads_71 236 r bo f1 c s) (f_X12_readsRows_36 0 m (fun s6 => bd (f_X12_bad 0 1 s6) fun r7 s8 => some (r7, s8)) (fun s3 => bd (f_X12_bad 0 3 s3) fun r4 s5 => some (r4, s5)) f2 1 t) s t (fun s1 t1 => ∃ n : Nat, I s1 t1 n) := by
  intro j
  induction j with
  | zero =>
    intro f1 f2 c n s t R g1 g2 g3 g4 h hI
    obtain ⟨x, R', e⟩ := h.ne
    rw [e] at g1
    simp only [List.length_cons] at g1
    omega
  | succ j ih =>
    intro f1 f2 c n s t R g1 g2 g3 g4 h hI
    obtain ⟨x, R', e⟩ := h.ne
    subst e
    have el : (x :: R').length = R'.length + 1 := List.length_cons
    have h401 := hc.2.2.1
    cases f1 with
    | zero => omega
    | succ f1 =>
      cases f2 with
      | zero => omega
      | succ f2 =>
        obtain ⟨i, i1, i2, i3, i4, i5, i6, i7⟩ := h.at hc
        have hk0 := tk_eq hc.2.2.2.2 (h.ok hc).1 (show TokD 30 by decide) (show tkm r 30 = 0 by rfl) (by decide)
        obtain ⟨c0, m1, m2, m3, m4⟩ := hm
        rw [f_X7_reads_71, f_X12_readsRows_36, i3, if_pos (by omega), bd_e (c_next hc h), if_neg (show ¬ (1 : Int) = 0 by decide), h.tk]
        by_cases c30 : x.1 = 30
        · rw [if_pos c30, if_pos (hk0.mpr c30)]
          exact Two.ok rfl rfl (FC.rf s) (FM.rf t) ⟨n, hI⟩
        · rw [if_neg c30, if_neg (fun z => c30 (hk0.mp z)), jn_s, if_neg hr]
          have hk := hl s t x R' n h hI
          -- the class's line, whichever it is
          have cl : ∀ (K : Int → Mem → Res), (if r = 1 then (bd (f_X7_currentLine 236 s) fun r26 s27 => K r26 s27) else (if r = 2 then (bd (f_X7_planLine 236 bo s) fun r29 s30 => K r29 s30) else (bd (f_X7_villageLine 236 s) fun r31 s32 => K r31 s32))) = bd (clL r bo s) K := by
            intro K
            unfold clL
            by_cases r1 : r = 1
            · rw [if_pos r1, if_pos r1]
            · rw [if_neg r1, if_neg r1]
              by_cases r2 : r = 2
              · rw [if_pos r2, if_pos r2]
              · rw [if_neg r2, if_neg r2]
          have cl2 := cl (fun (v19 : Int) (s20 : Mem) => if v19 = 0 then (some (0, s20)) else (f_X7_reads_71 236 r bo f1 (wr ((c : Int) + 1)) s20))
          rw [cl2]
          unfold lnM at hk
          rw [h.tk] at hk
          have h15n := h15 s t n hI
          by_cases cm : tkm r x.1 = m
          · rw [if_pos cm]
            rw [if_pos cm] at hk
            by_cases c16 : t 0 15 = 16
            · rw [if_pos c16]
              rw [if_pos c16] at hk
              rcases hk with ⟨s1, t1, a1, a2, -⟩ | ⟨s1, t1, a1, a2, a3, a4, a5⟩
              · obtain ⟨t9, z⟩ := bad_0 3 t
                rw [z] at a2
                injection a2 with a2
                injection a2 with a2
                cases a2
              · rw [bd_e a1, bd_e a2, if_pos rfl]
                exact Or.inr ⟨s1, t1, rfl, rfl, a3, a4, a5⟩
            · rw [if_neg c16]
              rw [if_neg c16] at hk
              rcases hk with ⟨s1, t1, a1, a2, a3, a4, R2, b1, b2, b3, b4⟩ | ⟨s1, t1, a1, a2, a3, a4, a5⟩
              · rw [bd_e a1, bd_e a2, jn_s, if_neg (by decide), if_neg (by decide)]
                have b5 := h15 _ _ _ b3
                show Two _ (lm _ _) s t _
                rw [b4, lm_s, wr_s (by omega), wr_s (by omega)]
                have g5 : FM t (mup t1 0 15 ((n + 1 : Nat) : Int)) := a4.up0 (by decide) _
                have nx := ih f1 f2 (c + 1) (n + 1) s1 (mup t1 0 15 ((n + 1 : Nat) : Int)) R2 (by omega) (by omega) (by omega) (by omega) (b1.sc (fun _ _ => rfl) ⟨rfl, rfl⟩ (fun i hi => mup_n (Or.inr (by omega))) (mup_o (by decide))) b3
                rcases nx with ⟨s2, t2, z1, z2, z3, z4, z5⟩ | ⟨s2, t2, z1, z2, z3, z4, z5⟩
                · exact Or.inl ⟨s2, t2, z1, z2, a3.tr z3, g5.tr z4, z5⟩
                · exact Or.inr ⟨s2, t2, z1, z2, z3, a3.tl z4, g5.tr z5⟩
              · rw [bd_e a1, bd_e a2, jn_s, if_pos rfl, if_pos rfl]
                show Two _ (lm _ _) s t _
                rw [lm_s]
                cases f2 with
                | zero => omega
                | succ f2 =>
                  rw [f_X12_readsRows_36, if_pos rfl]
                  exact Or.inr ⟨s1, _, rfl, rfl, ⟨a3.1.trans (mup_n (Or.inr (by decide))).symm, a3.2.trans (mup_n (Or.inr (by decide))).symm⟩, a4, a5.up0 (by decide) _⟩
          · rw [if_neg cm]
            rw [if_neg cm] at hk
            rcases hk with ⟨s1, t1, a1, a2, -⟩ | ⟨s1, t1, a1, a2, a3, a4, a5⟩
            · obtain ⟨t9, z⟩ := bad_0 1 t
              rw [z] at a2
              injection a2 with a2
              injection a2 with a2
              cases a2
            · rw [bd_e a1, bd_e a2, if_pos rfl]
              exact Or.inr ⟨s1, t1, rfl, rfl, a3, a4, a5⟩
end

/-! ===== L3: texts: with whom a village talks ===== -/
section
variable {T : List Tk} {B : Int → Int} {L : Nat}
theorem adv_up {s : Mem} {v : Int} {i : Nat} (h : s 236 12 = i) (hi : i ≤ 401) : ∀ c : Nat, c ≠ 236 → mup (adv (mup s 236 13 v)) 236 12 (wr (adv (mup s 236 13 v) 236 12 - 1)) c = s c := fun c hc => by rw [mup_o hc, adv_r hc, mup_o hc]
theorem back_pt {s t t1 : Mem} {y : Tk} {R : List Tk} (hc : PC T B L 3) (h : PT T B L 3 s t (y :: R)) (v : Int) : PT T B L 3 (mup (adv (mup s 236 13 v)) 236 12 (wr (adv (mup s 236 13 v) 236 12 - 1))) t (y :: R) := by
  obtain ⟨i, i1, i2, i3, i4, i5, i6, i7⟩ := h.at hc
  refine h.sc (fun c hc => by rw [mup_o (by omega), adv_r (by omega), mup_o (by omega)]) ⟨?_, ?_⟩ (fun _ _ => rfl) rfl
  · rw [mup_n (Or.inr (by decide)), adv_o (Or.inr (by decide)), mup_n (Or.inr (by decide))]
  · have e : adv (mup s 236 13 v) 236 12 = (i : Int) + 1 := by
      unfold adv
      rw [mup_e rfl rfl, mup_n (Or.inr (by decide)), i1]
    rw [mup_e rfl rfl, e, wr_n (by omega), i1]
    omega
theorem l_talk (hc : PC T B L 3) {v pl : Int} (hv : 0 ≤ v ∧ v < 12) (hp : 0 ≤ pl ∧ pl ≤ 60) {k177 : Int → Mem → Res} {k142 k150 : Mem → Res} (h142 : ∀ s : Mem, k142 s = (lm (mup s 236 12 (wr ((s 236 12) - 1))) fun s24 => bd (f_X7_refuse 236 2 s24) fun r25 s26 => some (r25, s26))) :
    ∀ (j f1 f2 c : Nat) (J X : Int) (s t : Mem) (x : Tk) (R : List Tk), R.length ≤ j → j < f1 → j < f2 → c + R.length + 1 ≤ T.length → PT T B L 3 s t (x :: R) → (J = 26 ∨ J = 16) → t 7 pl = v → t 7 (pl + 2) = X → M12 X → ¬ bt X v = 1 →
    (∃ (s1 t1 : Mem) (X' : Int) (R' : List Tk), f_X7_villageLine_94 236 v k177 k142 f1 X J c s = k177 X' s1 ∧ f_X12_aVillage_115 0 pl k150 f2 (bI (x.1 = J)) t = k150 t1 ∧ FC s s1 ∧ FM t t1 ∧ PT T B L 3 s1 t1 R' ∧ R'.length ≤ R.length + 1 ∧ M12 X' ∧ ¬ bt X' v = 1 ∧ (∀ i : Int, i ≠ pl + 2 → t1 7 i = t 7 i) ∧ t1 7 (pl + 2) = X' ∧ t1 0 15 = t 0 15 ∧ ∀ c : Nat, c ≠ 236 → s1 c = s c) ∨
    (∃ s1 t1 : Mem, f_X7_villageLine_94 236 v k177 k142 f1 X J c s = some (0, s1) ∧ f_X12_aVillage_115 0 pl k150 f2 (bI (x.1 = J)) t = some (0, t1) ∧ Er s1 t1 ∧ FD s s1 ∧ FM t t1) := by
  intro j
  induction j with
  | zero =>
    intro f1 f2 c J X s t x R g1 g2 g3 g4 h hJ h0 h2 hX hb
    have hR : R = [] := List.eq_nil_of_length_eq_zero (by omega)
    subst hR
    obtain ⟨i, i1, i2, i3, i4, i5, i6, i7⟩ := h.at hc
    have hx : x.1 = 30 := by
      rcases h.2.2.1.2.2.2 with q | q
      · exact q.1
      · obtain ⟨p, p1, p2, p3⟩ := q.2
        have : TL B L p ≠ [] := by
          unfold TL
          exact List.append_ne_nil_of_right_ne_nil _ (List.cons_ne_nil _ _)
        exact absurd p3.symm this
    cases f1 with
    | zero => omega
    | succ f1 =>
      cases f2 with
      | zero => omega
      | succ f2 =>
        rw [f_X7_villageLine_94, f_X12_aVillage_115, i3, if_pos (by omega), bd_e (c_next hc h), if_neg (by omega), bI_z, if_neg (by omega)]
        exact Or.inl ⟨s, t, X, [x], rfl, rfl, FC.rf s, FM.rf t, h, Nat.le_refl _, hX, hb, fun _ _ => rfl, h2, rfl, fun _ _ => rfl⟩
  | succ j ih =>
    intro f1 f2 c J X s t x R g1 g2 g3 g4 h hJ h0 h2 hX hb
    cases f1 with
    | zero => omega
    | succ f1 =>
      cases f2 with
      | zero => omega
      | succ f2 =>
        obtain ⟨i, i1, i2, i3, i4, i5, i6, i7⟩ := h.at hc
        rw [f_X7_villageLine_94, f_X12_aVillage_115, i3, if_pos (by omega), bd_e (c_next hc h), bI_z]
        by_cases cj : x.1 = J
        · rw [if_pos cj, if_pos cj]
          obtain ⟨t1, a1, a2, a3, a4⟩ := both_adv hc h (by omega)
          have ead : mup s 236 12 (wr (s 236 12 + 1)) = adv s := by
            rw [a4]
            rfl
          rw [ead, lm_s, bd_e a1]
          have fa : FC s (adv s) := adv_fc s
          have ga : FM t t1 := FM.f4 a3
          have sa : ∀ c : Nat, c ≠ 236 → adv s c = s c := fun c hc => adv_r hc
          have t17 : t1 7 = t 7 := a3.1 7 (by decide)
          have t115 : t1 0 15 = t 0 15 := a3.2 15 (by decide) (by decide) (by decide) (by decide)
          generalize adv s = s1 at a2 fa sa ⊢
          obtain ⟨y, R1, e1⟩ := a2.ne
          subst e1
          obtain ⟨i', j1, j2, j3, j4, j5, j6, j7⟩ := a2.at hc
          have hk := tk_eq hc.2.2.2.2 (a2.ok hc).1 (show TokD 31 by decide) (num_tk hc.2.2.2.2) (by decide)
          have e58 : s1 (236 + 22) (s1 236 12) = y.2.1 := by
            rw [j1]
            exact j5
          have h13 : ∀ v : Int, PT T B L 3 (mup s1 236 13 v) t1 (y :: R1) := fun v => a2.sc (fun c hc => mup_o (by omega)) ⟨mup_n (Or.inr (by decide)), mup_n (Or.inr (by decide))⟩ (fun _ _ => rfl) rfl
          have f13 : ∀ v : Int, FC s1 (mup s1 236 13 v) := fun v => (FC.rf s1).up (by decide) (Or.inr (by decide))
          have lR : (y :: R1).length = R1.length + 1 := List.length_cons
          unfold f_X7_passesNumber f_X12_another
          rw [jn_s, jn_s, a2.tk, bd_e (c_next hc a2)]
          dsimp only
          by_cases c1 : y.1 = 31
          · have hval := a2.val c1
            rw [if_pos c1, if_pos (hk.mpr c1), gd_t (by omega), e58, lm_s, mup_e rfl rfl, bd_e (e_within _ _ _ _), bI_z, gd_t (by omega), hval, t17, h0, wr_n (x := pl + 2) (by omega)]
            by_cases cv : y.2.1 = v
            · -- the village itself
              obtain ⟨t9, b1, b2, b3, b4⟩ := both_adv hc (h13 y.2.1) (by omega)
              have ead : mup (mup s1 236 13 y.2.1) 236 12 (wr (mup s1 236 13 y.2.1 236 12 + 1)) = adv (mup s1 236 13 y.2.1) := by
                rw [b4]
                rfl
              have e13 : adv (mup s1 236 13 y.2.1) 236 13 = y.2.1 := by rw [adv_o (Or.inr (by decide)), mup_e rfl rfl]
              obtain ⟨s8, t8, z1, z2, z3, z4, z5⟩ := c_refuse hc (back_pt (t1 := t1) hc a2 y.2.1) 2
              rw [if_pos (by omega), ead, lm_s, bd_s, if_neg (by decide), e13, if_pos cv, if_pos cv, h142, lm_s, bd_e z1, bd_e z2, bd_s, if_pos rfl]
              refine Or.inr ⟨s8, t8, rfl, rfl, z3, fa.tl (FC.tl ?_ z4), ga.tr z5⟩
              exact ((f13 y.2.1).tr (adv_fc _)).up (by decide) (Or.inr (by decide))
            · rw [if_neg cv]
              by_cases cr : 0 ≤ y.2.1 ∧ y.2.1 ≤ 11
              · rw [if_pos cr, if_pos (hk.mpr c1), bd_e (e_isIn _ _ _ _), bI_z, if_pos cr, a2.tk, if_pos (hk.mpr c1), gd_t (by omega), gd_t (by omega), Nat.zero_add, hval, t17, h2, lm_s]
                obtain ⟨o1, o2⟩ := M12_1 (o := y.2.1) (by omega)
                obtain ⟨u1, u2⟩ := M12_or hX o1
                have hq : PT T B L 3 (mup s1 236 13 y.2.1) (mup t1 7 (pl + 2) (ior X (ishl 1 y.2.1))) (y :: R1) := (h13 y.2.1).sc (fun _ _ => rfl) ⟨rfl, rfl⟩ (fun i _ => by rw [mup_o (by decide)]) (mup_o (by decide))
                obtain ⟨t9, b1, b2, b3, b4⟩ := both_adv hc hq (by omega)
                have ead : mup (mup s1 236 13 y.2.1) 236 12 (wr (mup s1 236 13 y.2.1 236 12 + 1)) = adv (mup s1 236 13 y.2.1) := by
                  rw [b4]
                  rfl
                have e13 : adv (mup s1 236 13 y.2.1) 236 13 = y.2.1 := by rw [adv_o (Or.inr (by decide)), mup_e rfl rfl]
                rw [ead, lm_s, bd_s, if_neg (by decide), e13, if_neg cv, bd_e b1, bd_s, if_neg (by decide), jn_s]
                obtain ⟨z, R2, e2⟩ := b2.ne
                subst e2
                have lR2 : (z :: R2).length = R2.length + 1 := List.length_cons
                have hk5 := tk_eq hc.2.2.2.2 (b2.ok hc).1 (show TokD 16 by decide) (show tkm 3 16 = 5 by rfl) (by decide)
                have w7 : t9 7 = up (t 7) (pl + 2) (ior X (ishl 1 y.2.1)) := by rw [b3.1 7 (by decide), mup_row, t17]
                have w15 : t9 0 15 = t 0 15 := by rw [b3.2 15 (by decide) (by decide) (by decide) (by decide), mup_o (by decide)]; exact t115
                have fb : FC s (adv (mup s1 236 13 y.2.1)) := fa.tr ((f13 y.2.1).tr (adv_fc _))
                have gb : FM t t9 := ga.tr (((FM.rf t1).up7 (by decide) _ _).tr (FM.f4 b3))
                have sb : ∀ c : Nat, c ≠ 236 → adv (mup s1 236 13 y.2.1) c = s c := fun c hc => by rw [adv_r hc, mup_o hc, sa c hc]
                generalize adv (mup s1 236 13 y.2.1) = s9 at b2 fb sb ⊢
                have ek : (if t9 0 18 = 5 then f_X12_aVillage_115 0 pl k150 f2 1 t9 else f_X12_aVillage_115 0 pl k150 f2 0 t9) = f_X12_aVillage_115 0 pl k150 f2 (bI (z.1 = 16)) t9 := by
                  rw [b2.tk]
                  by_cases c5 : z.1 = 16
                  · rw [if_pos (hk5.mpr c5), bI_t c5]
                  · rw [if_neg (fun q => c5 (hk5.mp q)), bI_f c5]
                rw [ek, wr_s (by omega)]
                have nx := ih f1 f2 (c + 1) 16 (ior X (ishl 1 y.2.1)) s9 t9 z R2 (by omega) (by omega) (by omega) (by omega) b2 (Or.inr rfl) (by rw [w7, up_ne (by omega)]; exact h0) (by rw [w7, up_eq rfl]) u1 (fun q => by
                  rcases (u2 v hv.1 hv.2).mp q with w | w
                  · exact hb w
                  · exact cv ((o2 v hv.1 hv.2).mp w).symm)
                rcases nx with ⟨s5, t5, X', R', z1, z2, z3, z4, z5, z6, z7, z8, z9, z10, z11, z12⟩ | ⟨s5, t5, z1, z2, z3, z4, z5⟩
                · refine Or.inl ⟨s5, t5, X', R', z1, z2, fb.tr z3, gb.tr z4, z5, by omega, z7, z8, fun i hi => ?_, z10, z11.trans w15, fun c hc => (z12 c hc).trans (sb c hc)⟩
                  rw [z9 i hi, w7, up_ne hi]
                · exact Or.inr ⟨s5, t5, z1, z2, z3, fb.tl z4, gb.tr z5⟩
              · obtain ⟨s8, t8, z1, z2, z3, z4, z5⟩ := c_refuse hc (h13 y.2.1) 2
                rw [if_neg cr, if_pos (hk.mpr c1), bd_e (e_isIn _ _ _ _), bI_z, if_neg cr, bd_e z1, bd_e z2, bd_s, bd_s, if_pos rfl, if_pos rfl]
                exact Or.inr ⟨s8, t8, rfl, rfl, z3, fa.tl ((f13 y.2.1).tl z4), ga.tr z5⟩
          · have k1 : ¬ tkm 3 y.1 = 2 := fun q => c1 (hk.mp q)
            obtain ⟨s8, t8, z1, z2, z3, z4, z5⟩ := c_refuse hc a2 1
            rw [if_neg c1, if_neg k1, if_neg k1, a2.tk, if_neg k1, bd_e z1, bd_e z2, bd_s, bd_s, if_pos rfl, if_pos rfl]
            exact Or.inr ⟨s8, t8, rfl, rfl, z3, fa.tl z4, ga.tr z5⟩
        · rw [if_neg cj, if_neg cj]
          exact Or.inl ⟨s, t, X, x :: R, rfl, rfl, FC.rf s, FM.rf t, h, by rw [List.length_cons]; exact Nat.le_refl _, hX, hb, fun _ _ => rfl, h2, rfl, fun _ _ => rfl⟩
end

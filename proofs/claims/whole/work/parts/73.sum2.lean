/-! ===== L3: texts: THE LAW: an E ===== -/
def ExN (N : Nat) (E : List Sg) : Prop := (∀ d : Nat, d ≤ N → Dp E d (d + 1)) ∧ ∀ (fx : Int → Int) (st : List Int), ∃ v : Int, ev fx E st = v :: st
theorem ExN.le {a b : Nat} {E : List Sg} (h : ExN a E) (q : b ≤ a) : ExN b E := ⟨fun d hd => h.1 d (by omega), h.2⟩
theorem Ex_u {q : Sg} (h : isU q) : ExN 31 [q] := by
  obtain ⟨h1, h2, h3⟩ := h
  refine ⟨fun d hd => ⟨d + 1, Or.inl ⟨h1, h2, by omega, rfl, h3⟩, rfl⟩, fun fx st => ⟨if q.1 = 0 then q.2 else fx q.1, ?_⟩⟩
  show ev1 fx q st = _
  unfold ev1
  rw [if_pos (by omega)]
theorem Ex_2 {a b N : Nat} {E1 E2 : List Sg} {h : Int} (h1 : ExN a E1) (h2 : ExN b E2) (hh : isOp2 h) (q1 : N ≤ a) (q2 : N + 1 ≤ b) : ExN N (E1 ++ E2 ++ [(h, 0)]) := by
  refine ⟨fun d hd => ?_, fun fx st => ?_⟩
  · rw [List.append_assoc]
    refine Dp_app _ _ _ _ _ (h1.1 d (by omega)) (Dp_app _ _ _ _ _ (h2.1 (d + 1) (by omega)) ⟨d + 1, Or.inr (Or.inr (Or.inr ⟨hh, by omega, rfl⟩)), rfl⟩)
  · obtain ⟨v1, e1⟩ := h1.2 fx st
    obtain ⟨v2, e2⟩ := h2.2 fx (v1 :: st)
    refine ⟨sBoth h v1 v2, ?_⟩
    rw [ev_app, ev_app, e1, e2]
    show ev1 fx (h, 0) (v2 :: v1 :: st) = _
    unfold isOp2 at hh
    unfold ev1
    rw [if_neg (show ¬ h < 23 by omega), if_neg (show ¬ h = 26 by omega), if_neg (show ¬ h = 30 by omega)]
    rfl
theorem Ex_d {N : Nat} {E : List Sg} {v : Int} (h : ExN N E) (hN : N ≤ 30) (hv : 1 ≤ v ∧ v ≤ 9999) : ExN N (E ++ [(26, v)]) := by
  refine ⟨fun d hd => Dp_app _ _ _ _ _ (h.1 d hd) ⟨d + 1, Or.inr (Or.inl ⟨rfl, by omega, by omega, rfl, hv.1, hv.2⟩), rfl⟩, fun fx st => ?_⟩
  obtain ⟨v1, e1⟩ := h.2 fx st
  refine ⟨wr (v1.tdiv v), ?_⟩
  rw [ev_app, e1]
  rfl
theorem trs_1 (q : Sg) : trs [q] = tr q := List.append_nil _
noncomputable def MS (h : Int) (f n : Nat) (t : Mem) : Res := bd (f_X12_product_9 0 (fun s7 => bd (f_X12_bad 0 1 s7) fun r8 s9 => some (r8, s9)) (fun s4 => bd (f_X12_bad 0 2 s4) fun r5 s6 => some (r5, s6)) f t) (fun r s => if r = 0 then some (0, s) else (if h = 0 then f_X12_sumUp_9 0 n s else bd (f_X12_lay 0 h 0 s) fun _ s => f_X12_sumUp_9 0 n s))
theorem MS_e {h : Int} {f n : Nat} {t : Mem} (hh : h ≠ 0) : MS h f n t = bd (f_X12_product_9 0 (fun s7 => bd (f_X12_bad 0 1 s7) fun r8 s9 => some (r8, s9)) (fun s4 => bd (f_X12_bad 0 2 s4) fun r5 s6 => some (r5, s6)) f t) (fun r s => if r = 0 then some (0, s) else (bd (f_X12_lay 0 h 0 s) fun _ s => f_X12_sumUp_9 0 n s)) := by
  unfold MS
  simp only [if_neg hh]
theorem MS_0 {f n : Nat} {t : Mem} : MS 0 f n t = bd (f_X12_product_9 0 (fun s7 => bd (f_X12_bad 0 1 s7) fun r8 s9 => some (r8, s9)) (fun s4 => bd (f_X12_bad 0 2 s4) fun r5 s6 => some (r5, s6)) f t) (fun r s => if r = 0 then some (0, s) else f_X12_sumUp_9 0 n s) := by
  unfold MS
  simp only [if_pos]
def hOf (σ : Int) : Int := if σ = 43 then 23 else if σ = 45 then 24 else 0
def sgn (σ : Int) : Nat := if σ = 0 then 0 else 1
section
variable {T : List Tk} {B : Int → Int} {L : Nat}
theorem SL.ne {s t : Mem} {x : Tk} {R : List Tk} {K : List Int} {G : List Sg} (hc : PC T B L 0) (h : SL T B L s t (x :: R) K G) (hx : x.1 ≠ 30) : ∃ (y : Tk) (R' : List Tk), R = y :: R' := by
  obtain ⟨t1, a1, a2, -⟩ := SL.nx hc h hx
  exact a2.1.ne
/-- a waiting + or - gets its parts -/
theorem l_fl {s t : Mem} {R : List Tk} {σ : Int} {A C : List Sg} {K0 : List Int} {G0 : List Sg} (h : SL T B L s t R (K0 ++ trs (A ++ C)) (G0 ++ (A ++ C))) (hA : (σ = 0 ∧ A = []) ∨ ((σ = 43 ∨ σ = 45) ∧ ExN 29 A)) (hC : ExN 30 C) (hK : (K0 ++ trs (A ++ C)).length + sgn σ ≤ 400) (hG : (G0 ++ (A ++ C)).length + sgn σ ≤ 410) :
    ∃ (s2 t2 : Mem) (E1 : List Sg), FSc s s2 ∧ FSm t t2 ∧ SL T B L s2 t2 R (K0 ++ trs E1) (G0 ++ E1) ∧ ExN 29 E1 ∧ (K0 ++ trs E1).length = (K0 ++ trs (A ++ C)).length + sgn σ ∧ (G0 ++ E1).length = (G0 ++ (A ++ C)).length + sgn σ ∧ (∀ k : Mem → Res, (if σ = 0 then k s else bd (f_X2_put 237 (wr (20000 + σ)) s) fun _ s => k s) = k s2) ∧ (∀ k : Mem → Res, (if hOf σ = 0 then k t else bd (f_X12_lay 0 (hOf σ) 0 t) fun _ s => k s) = k t2) := by
  rcases hA with ⟨rfl, rfl⟩ | ⟨hs, hA⟩
  · refine ⟨s, t, C, FSc.rf s, FSm.rf t, h, hC.le (by decide), rfl, rfl, fun k => if_pos rfl, fun k => if_pos rfl⟩
  · have e1 : sgn σ = 1 := if_neg (by omega)
    rw [e1] at hK hG ⊢
    obtain ⟨s2, a1, a2, a3⟩ := h.put (by omega) (20000 + σ)
    obtain ⟨t2, b1, b2, b3⟩ := a2.lay (by omega) (hOf σ) 0
    have hh : isOp2 (hOf σ) ∧ hOf σ ≠ 0 ∧ tr (hOf σ, 0) = [20000 + σ] := by
      rcases hs with rfl | rfl
      · exact ⟨Or.inl rfl, by decide, rfl⟩
      · exact ⟨Or.inr (Or.inl rfl), by decide, rfl⟩
    have eK : K0 ++ trs (A ++ C) ++ [20000 + σ] = K0 ++ trs (A ++ C ++ [(hOf σ, 0)]) := by
      rw [trs_app (A ++ C), trs_1, hh.2.2, List.append_assoc]
    have eG : G0 ++ (A ++ C) ++ [(hOf σ, 0)] = G0 ++ (A ++ C ++ [(hOf σ, 0)]) := by simp only [List.append_assoc]
    rw [eK, eG] at b2
    refine ⟨s2, t2, A ++ C ++ [(hOf σ, 0)], a3, b3, b2, Ex_2 hA hC hh.1 (by decide) (by decide), ?_, ?_, fun k => ?_, fun k => ?_⟩
    · rw [← eK, List.length_append]
      rfl
    · rw [← eG, List.length_append]
      rfl
    · rw [if_neg (by omega), wr_n (by omega), bd_e a1]
    · rw [if_neg hh.2.1, bd_e b1]
theorem TwoL.im {o1 o2 : Res} {s t : Mem} {P Q : Mem → Mem → Prop} (h : TwoL o1 o2 s t P) (hq : ∀ s1 t1 : Mem, P s1 t1 → Q s1 t1) : TwoL o1 o2 s t Q := by
  rcases h with ⟨s2, t2, z1, z2, z3, z4, z5⟩ | ⟨s2, t2, z1, z2, z3, z4, z5⟩
  · exact Or.inl ⟨s2, t2, z1, z2, z3, z4, hq _ _ z5⟩
  · exact Or.inr ⟨s2, t2, z1, z2, z3, z4, z5⟩
theorem l_sl (hc : PC T B L 0) {k174 : Mem → Res} : ∀ (j f1 f2 f3 c : Nat) (σ : Int) (s t : Mem) (x : Tk) (R : List Tk) (A C : List Sg) (K0 : List Int) (G0 : List Sg), R.length < j → j ≤ 5000 → j ≤ f1 → j ≤ f2 → j ≤ f3 → c + R.length + 1 ≤ T.length → SL T B L s t (x :: R) (K0 ++ trs (A ++ C)) (G0 ++ (A ++ C)) → ((σ = 0 ∧ A = []) ∨ ((σ = 43 ∨ σ = 45) ∧ ExN 29 A)) → ExN 30 C → (K0 ++ trs (A ++ C)).length + sgn σ + (R.length + 1) ≤ T.length → (G0 ++ (A ++ C)).length + sgn σ + (R.length + 1) ≤ T.length →
    TwoL (f_X7_sum_13 236 k174 f1 σ c s) (MS (hOf σ) f2 f3 t) s t (fun s1 t1 => ∃ (E : List Sg) (R' : List Tk), ExN 29 E ∧ SL T B L s1 t1 R' (K0 ++ trs E) (G0 ++ E) ∧ (K0 ++ trs E).length + R'.length ≤ (K0 ++ trs (A ++ C)).length + sgn σ + (R.length + 1) ∧ (G0 ++ E).length + R'.length ≤ (G0 ++ (A ++ C)).length + sgn σ + (R.length + 1)) := by
  intro j
  induction j with
  | zero =>
    intro f1 f2 f3 c σ s t x R A C K0 G0 g1
    exact absurd g1 (Nat.not_lt_zero _)
  | succ j ih =>
    intro f1 f2 f3 c σ s t x R A C K0 G0 g1 g2 g3 g4 g5 g6 h hA hC hK hG
    cases f1 with
    | zero => omega
    | succ f1 =>
    cases f2 with
    | zero => omega
    | succ f2 =>
    cases f3 with
    | zero => omega
    | succ f3 =>
    have hT := hc.2.2.1
    have h0 := h.1
    obtain ⟨i, i1, i2, i3, i4, i5, i6, i7⟩ := h0.at hc
    have kd := fun (m : Int) (h1 : TokD m) (h2 : m ≠ 1) (z : Int) (hz : tkm 0 m = z) (hz1 : z ≠ 1) => tk_eq hc.2.2.2.2 (h0.ok hc).1 h1 hz hz1
    have k42 := kd 42 (by decide) (by decide) 142 rfl (by decide)
    have k47 := kd 47 (by decide) (by decide) 147 rfl (by decide)
    have k43 := kd 43 (by decide) (by decide) 143 rfl (by decide)
    have k45 := kd 45 (by decide) (by decide) 145 rfl (by decide)
    have next : ∀ (s1 t1 : Mem) (R1 : List Tk) (C' : List Sg), SL T B L s1 t1 R1 (K0 ++ trs (A ++ C')) (G0 ++ (A ++ C')) → ExN 30 C' → (K0 ++ trs (A ++ C')).length + R1.length ≤ (K0 ++ trs (A ++ C)).length + (R.length + 1) → (G0 ++ (A ++ C')).length + R1.length ≤ (G0 ++ (A ++ C)).length + (R.length + 1) → R1.length < R.length → TwoL (f_X7_sum_13 236 k174 f1 σ (wr ((c : Int) + 1)) s1) (MS (hOf σ) f2 (f3 + 1) t1) s1 t1 (fun s1 t1 => ∃ (E : List Sg) (R' : List Tk), ExN 29 E ∧ SL T B L s1 t1 R' (K0 ++ trs E) (G0 ++ E) ∧ (K0 ++ trs E).length + R'.length ≤ (K0 ++ trs (A ++ C)).length + sgn σ + (R.length + 1) ∧ (G0 ++ E).length + R'.length ≤ (G0 ++ (A ++ C)).length + sgn σ + (R.length + 1)) := by
      intro s1 t1 R1 C' w1 w2 w3 w4 w5
      obtain ⟨z, R2, e2⟩ := w1.1.ne
      subst e2
      have lz : (z :: R2).length = R2.length + 1 := List.length_cons
      rw [wr_s (by omega)]
      refine (ih f1 f2 (f3 + 1) (c + 1) σ s1 t1 z R2 A C' K0 G0 (by omega) (by omega) (by omega) (by omega) (by omega) (by omega) w1 hA w2 (by omega) (by omega)).im (fun s5 t5 ⟨E, R', v1, v2, v3, v4⟩ => ⟨E, R', v1, v2, by omega, by omega⟩)
    unfold MS
    rw [f_X7_sum_13, f_X12_product_9, i3, if_pos (by omega), bd_e (c_next hc h0), jn_s, jn_s, jn_s, jn_s, h0.tk, show (236 + 1 : Nat) = 237 from rfl]
    by_cases c42 : x.1 = 42
    · obtain ⟨t1, a1, a2, a3, a4⟩ := SL.nx hc h (by omega)
      rw [if_pos c42, a4, lm_s, if_pos (k42.mpr c42)]
      show TwoL _ (bd (if tkm 0 x.1 = 147 then _ else _) _) s t _
      rw [if_neg (fun z => by have := k47.mp z; omega)]
      show TwoL _ (bd (bd (f_X12_next0 0 t) _) _) s t _
      rw [bd_e a1, jn_s, if_pos rfl, bd_a]
      obtain ⟨y, R1, e1⟩ := a2.1.ne
      subst e1
      have ly : (y :: R1).length = R1.length + 1 := List.length_cons
      refine TwoL.fr (adv_fs s) a3 (TwoL.b (l_fac hc a2 (by omega) (by omega)) (fun s => by rw [if_pos rfl]) (fun t => by rw [if_pos rfl, bd_s, if_pos rfl]) (fun s2 t2 f2' g2' ⟨q, q1, q2, q3⟩ => ?_))
      have lq : (K0 ++ trs (A ++ C) ++ tr q).length = (K0 ++ trs (A ++ C)).length + 1 := by rw [List.length_append, q3]
      have lg : (G0 ++ (A ++ C) ++ [q]).length = (G0 ++ (A ++ C)).length + 1 := by rw [List.length_append]; rfl
      have lR1 : 1 ≤ R1.length := by
        obtain ⟨z, R2, e⟩ := q2.1.ne
        rw [e, List.length_cons]
        omega
      obtain ⟨s3, p1, p2, p3⟩ := q2.put (by omega) 20042
      obtain ⟨t3, l1, l2, l3⟩ := p2.lay (by omega) 25 0
      have eK : K0 ++ trs (A ++ C) ++ tr q ++ [20042] = K0 ++ trs (A ++ (C ++ [q] ++ [(25, 0)])) := by
        have e25 : trs [((25 : Int), (0 : Int))] = [20042] := rfl
        simp only [trs_app, trs_1 q, e25, List.append_assoc]
      have eG : G0 ++ (A ++ C) ++ [q] ++ [(25, 0)] = G0 ++ (A ++ (C ++ [q] ++ [(25, 0)])) := by simp only [List.append_assoc]
      have lq2 : (K0 ++ trs (A ++ C) ++ tr q ++ [20042]).length = (K0 ++ trs (A ++ C)).length + 2 := by rw [List.length_append, lq]; rfl
      have lg2 : (G0 ++ (A ++ C) ++ [q] ++ [(25, 0)]).length = (G0 ++ (A ++ C)).length + 2 := by rw [List.length_append, lg]; rfl
      rw [if_neg (by decide), if_neg (by decide), bd_e p1, bd_e l1]
      rw [eK, eG] at l2
      rw [eK] at lq2
      rw [eG] at lg2
      refine TwoL.fr p3 l3 ?_
      show TwoL _ (MS (hOf σ) f2 (f3 + 1) t3) s3 t3 _
      exact next s3 t3 R1 _ l2 (Ex_2 hC (Ex_u q1) (Or.inr (Or.inr (Or.inl rfl))) (by decide) (by decide)) (by omega) (by omega) (by omega)
    · rw [if_neg c42, if_neg (fun z => c42 (k42.mp z))]
      by_cases c47 : x.1 = 47
      · obtain ⟨t1, a1, a2, a3, a4⟩ := SL.nx hc h (by omega)
        rw [if_pos c47, a4, lm_s, if_pos (k47.mpr c47)]
        show TwoL _ (bd (if tkm 0 x.1 = 147 then _ else _) _) s t _
        rw [if_pos (k47.mpr c47)]
        show TwoL _ (bd (bd (f_X12_next0 0 t) _) _) s t _
        rw [bd_e a1, jn_s, if_neg (show ¬ (1 : Int) = 0 by decide)]
        obtain ⟨y, R1, e1⟩ := a2.1.ne
        subst e1
        have ly : (y :: R1).length = R1.length + 1 := List.length_cons
        refine TwoL.fr (adv_fs s) a3 ?_
        generalize adv s = s1 at a2 ⊢
        obtain ⟨i', j1, j2, j3, j4, j5, j6, j7⟩ := a2.1.at hc
        have hok := (a2.1.ok hc).2
        have hk := tk_eq hc.2.2.2.2 (a2.1.ok hc).1 (show TokD 31 by decide) (num_tk hc.2.2.2.2) (by decide)
        have e58 : s1 (236 + 22) (s1 236 12) = y.2.1 := by
          rw [j1]
          exact j5
        have h13 : SL T B L (mup s1 236 13 y.2.1) t1 (y :: R1) (K0 ++ trs (A ++ C)) (G0 ++ (A ++ C)) := ⟨a2.1.sc (fun c hc => mup_o (by omega)) ⟨mup_n (Or.inr (by decide)), mup_n (Or.inr (by decide))⟩ (fun _ _ => rfl) rfl, by rw [mup_o (by decide), mup_o (by decide)]; exact a2.2.1, a2.2.2⟩
        have f13 : FSc s1 (mup s1 236 13 y.2.1) := ⟨fun c q _ _ => mup_o q, fun i _ => by rw [mup_o (by decide)], fun i _ q => mup_n (Or.inr q)⟩
        unfold f_X7_passesNumber
        rw [bd_e (c_next hc a2.1), a2.1.tk]
        by_cases c31 : y.1 = 31
        · rw [if_pos c31, if_pos (hk.mpr c31), gd_t (by omega), e58, lm_s, mup_e rfl rfl, bd_e (e_within _ _ _ _), bI_z, a2.1.val c31]
          by_cases cv : y.2.1 = 0
          · rw [if_neg (by omega), if_pos cv, bd_id, bd_id]
            obtain ⟨s8, t8, v1, v2, v3, v4, v5⟩ := c_refuse hc h13.1 2
            rw [bd_e v1, bd_e v2, if_pos rfl, if_pos rfl]
            exact Or.inr ⟨s8, t8, rfl, rfl, v3, f13.fc.tl v4, v5⟩
          · obtain ⟨t2, b1, b2, b3, b4⟩ := SL.nx hc h13 (by omega)
            have e13 : adv (mup s1 236 13 y.2.1) 236 13 = y.2.1 := by rw [adv_o (Or.inr (by decide)), mup_e rfl rfl]
            rw [if_pos (by omega), b4, lm_s, bd_s, if_neg (show ¬ (1 : Int) = 0 by decide), e13, if_neg cv, bd_e b1]
            refine TwoL.fr (f13.tr (adv_fs _)) b3 ?_
            generalize adv (mup s1 236 13 y.2.1) = s2 at b2 ⊢
            have lR1 : 1 ≤ R1.length := by
              obtain ⟨z, R2, e⟩ := b2.1.ne
              rw [e, List.length_cons]
              omega
            obtain ⟨s3, p1, p2, p3⟩ := b2.put (by omega) y.2.1
            obtain ⟨s4, p4, p5, p6⟩ := p2.put (by rw [List.length_append]; show _ + 1 < _; omega) 20047
            obtain ⟨t3, l1, l2, l3⟩ := p5.lay (by omega) 26 y.2.1
            have e26 : trs [((26 : Int), y.2.1)] = [y.2.1, 20047] := rfl
            have eK : K0 ++ trs (A ++ C) ++ [y.2.1] ++ [20047] = K0 ++ trs (A ++ (C ++ [(26, y.2.1)])) := by
              simp only [trs_app, e26, List.append_assoc]
              rfl
            have eG : G0 ++ (A ++ C) ++ [(26, y.2.1)] = G0 ++ (A ++ (C ++ [(26, y.2.1)])) := by simp only [List.append_assoc]
            have lq2 : (K0 ++ trs (A ++ C) ++ [y.2.1] ++ [20047]).length = (K0 ++ trs (A ++ C)).length + 2 := by rw [List.length_append, List.length_append]; rfl
            have lg2 : (G0 ++ (A ++ C) ++ [(26, y.2.1)]).length = (G0 ++ (A ++ C)).length + 1 := by rw [List.length_append]; rfl
            rw [eK, eG] at l2
            rw [eK] at lq2
            rw [eG] at lg2
            rw [bd_e p1, bd_e p4, bd_e l1]
            refine TwoL.fr (p3.tr p6) l3 ?_
            show TwoL _ (MS (hOf σ) f2 (f3 + 1) t3) s4 t3 _
            exact next s4 t3 R1 _ l2 (Ex_d hC (by decide) (by omega)) (by omega) (by omega) (by omega)
        · obtain ⟨s8, t8, v1, v2, v3, v4, v5⟩ := c_refuse hc a2.1 1
          rw [if_neg c31, if_neg (fun z => c31 (hk.mp z)), bd_id, bd_id, bd_e v1, bd_e v2, if_pos rfl, if_pos rfl]
          exact Or.inr ⟨s8, t8, rfl, rfl, v3, v4, v5⟩
      · obtain ⟨s2, t2, E1, q1, q2, q3, q4, q5, q6, q7, q8⟩ := l_fl h hA hC (by omega) (by omega)
        rw [if_neg c47, if_neg (fun z => c47 (k47.mp z)), bd_s, if_neg (show ¬ (1 : Int) = 0 by decide), q8]
        have q7k : ∀ (k : Mem → Res) (o : Res), o = k s → (if σ = 0 then o else bd (f_X2_put 237 (wr (20000 + σ)) s) fun _ s => k s) = k s2 := fun k o ho => by rw [ho]; exact q7 k
        dsimp only
        rw [q7k]
        rotate_left
        · rfl
        refine TwoL.fr q1 q2 ?_
        show TwoL (jn _ _) _ s2 t2 _
        rw [f_X12_sumUp_9, jn_s, jn_s, jn_s, q3.1.tk]
        have go : ∀ h : Int, hOf x.1 = h → h ≠ 0 → (x.1 = 43 ∨ x.1 = 45) → TwoL (lm (mup s2 236 12 (wr (s2 236 12 + 1))) fun s29 => bd (f_X7_factor 236 s29) fun r30 s31 => if r30 = 0 then some (0, s31) else f_X7_sum_13 236 k174 f1 x.1 (wr ((c : Int) + 1)) s31) (bd (f_X12_next0 0 t2) fun r5 s6 => bd (f_X12_product 0 s6) fun r7 s8 => if r7 = 0 then some (0, s8) else bd (f_X12_lay 0 h 0 s8) fun r10 s11 => f_X12_sumUp_9 0 f3 s11) s2 t2 (fun s1 t1 => ∃ (E : List Sg) (R' : List Tk), ExN 29 E ∧ SL T B L s1 t1 R' (K0 ++ trs E) (G0 ++ E) ∧ (K0 ++ trs E).length + R'.length ≤ (K0 ++ trs (A ++ C)).length + sgn σ + (R.length + 1) ∧ (G0 ++ E).length + R'.length ≤ (G0 ++ (A ++ C)).length + sgn σ + (R.length + 1)) := by
          intro hh hh1 hh2 hx
          obtain ⟨t1, a1, a2, a3, a4⟩ := SL.nx hc q3 (by omega)
          rw [a4, lm_s, bd_e a1]
          unfold f_X12_product
          rw [bd_a]
          obtain ⟨y, R1, e1⟩ := a2.1.ne
          subst e1
          have ly : (y :: R1).length = R1.length + 1 := List.length_cons
          refine TwoL.fr (adv_fs s2) a3 (TwoL.b (l_fac hc a2 (by omega) (by omega)) (fun s => by rw [if_pos rfl]) (fun t => by rw [if_pos rfl, bd_s, if_pos rfl]) (fun s5 t5 f2' g2' ⟨q, w1, w2, w3⟩ => ?_))
          have lq : (K0 ++ trs E1 ++ tr q).length = (K0 ++ trs E1).length + 1 := by rw [List.length_append, w3]
          have lg : (G0 ++ E1 ++ [q]).length = (G0 ++ E1).length + 1 := by rw [List.length_append]; rfl
          have eK : K0 ++ trs E1 ++ tr q = K0 ++ trs (E1 ++ [q]) := by simp only [trs_app, trs_1 q, List.append_assoc]
          have eG : G0 ++ E1 ++ [q] = G0 ++ (E1 ++ [q]) := by simp only [List.append_assoc]
          have es : sgn x.1 = 1 := if_neg (by omega)
          rw [eK, eG] at w2
          rw [eK] at lq
          rw [eG] at lg
          obtain ⟨z, R2, e2⟩ := w2.1.ne
          subst e2
          have lz : (z :: R2).length = R2.length + 1 := List.length_cons
          have nx := ih f1 FU f3 (c + 1) x.1 s5 t5 z R2 E1 [q] K0 G0 (by omega) (by omega) (by omega) (Nat.le_of_lt (fu_lt (by omega))) (by omega) (by omega) w2 (Or.inr ⟨hx, q4⟩) ((Ex_u w1).le (by decide)) (by omega) (by omega)
          rw [hh1, MS_e hh2] at nx
          rw [if_neg (by decide), if_neg (by decide), jn_s, jn_s, wr_s (by omega)]
          exact nx.im (fun s5 t5 ⟨E, R', v1, v2, v3, v4⟩ => ⟨E, R', v1, v2, by omega, by omega⟩)
        by_cases c43 : x.1 = 43
        · rw [if_pos c43, if_pos (k43.mpr c43)]
          show TwoL _ (if tkm 0 x.1 = 143 then _ else _) s2 t2 _
          rw [if_pos (k43.mpr c43)]
          exact go 23 (by rw [c43]; rfl) (by decide) (Or.inl c43)
        · rw [if_neg c43, if_neg (fun z => c43 (k43.mp z))]
          by_cases c45 : x.1 = 45
          · rw [if_pos c45, if_pos (k45.mpr c45)]
            show TwoL _ (if tkm 0 x.1 = 143 then _ else _) s2 t2 _
            rw [if_neg (fun z => c43 (k43.mp z))]
            exact go 24 (by rw [c45]; rfl) (by decide) (Or.inr c45)
          · rw [if_neg c45, if_neg (fun z => c45 (k45.mp z))]
            exact Or.inl ⟨s2, t2, rfl, rfl, FSc.rf s2, FSm.rf t2, E1, x :: R, q4, q3, by rw [q5, List.length_cons]; omega, by rw [q6, List.length_cons]; omega⟩
end

/-! ===== L3: texts: THE LAW: a C ===== -/
theorem opsW_rep : ∀ k : Nat, opsW (List.replicate k 17) = List.replicate k 20017
  | 0 => rfl
  | k + 1 => by
    have ih := opsW_rep k
    show (20000 + 17 : Int) :: opsW (List.replicate k 17) = 20017 :: List.replicate k 20017
    rw [ih]
    rfl
theorem rep_m {k : Nat} {p : Int} (h : p ∈ List.replicate k 17) : p = 17 := (List.mem_replicate.mp h).2
section
variable {T : List Tk} {B : Int → Int} {L : Nat}
theorem cS_1 (n : Nat) (c : Int) (s : Mem) : cS n c 1 s = bd (f_X7_sum 236 s) fun r21 s22 => if r21 = 0 then (some (0, s22)) else (bd (f_X7_next 236 s22) fun r24 s25 => if r24 = 60 then cB n c r24 s25 else (if r24 = 61 then cB n c r24 s25 else (if r24 = 62 then cB n c r24 s25 else cR1 s25))) := by
  show (if (1 : Int) = 0 then _ else _) = _
  rw [if_neg (by decide)]
theorem l_cmp (hc : PC T B L 0) {ro ra : Nat → Mem → Res} {k : Nat} {S : List Int} {s t : Mem} {x : Tk} {R : List Tk} {K : List Int} {G : List Sg} {m c2 n c : Nat} (x17 : x.1 ≠ 17) (x40 : x.1 ≠ 40) (g2 : nO S + k ≤ 8) (g3 : Sto 17 S) (h : SL T B L s t (x :: R) K G) (hw : WS s (List.replicate k 17 ++ S)) (hd : t 0 24 = (nO S + k : Nat)) (hb : Bdg T m c2 n c (x :: R)) (hK : K.length + k + S.length + (x :: R).length ≤ T.length) (hG : G.length + k + S.length + (x :: R).length ≤ T.length) :
    TwoC (OPN m (c2 : Int) n (c : Int) s) (F_X12_oneTest ro ra 0 t) s t (fun o s1 t1 => ∃ R' : List Tk, R'.length ≤ R.length ∧ QO T B L k S K G (12 + 2 * (nO S + k)) R' o s1 t1) := by
  obtain ⟨b1, b2, b3, b4⟩ := hb
  have hT := hc.2.2.1
  have lx : (x :: R).length = R.length + 1 := List.length_cons
  have k17 := tk_eq (c := 17) (m := 6) hc.2.2.2.2 (h.1.ok hc).1 (by decide) rfl (by decide)
  have k40 := tk_eq (c := 40) (m := 140) hc.2.2.2.2 (h.1.ok hc).1 (by decide) rfl (by decide)
  cases m with
  | zero => omega
  | succ m =>
  unfold F_X12_oneTest
  rw [opn_no hc h x17 x40 (by omega), cS_1, h.1.tk, if_neg (fun z => x17 (k17.mp z)), if_neg (fun z => x40 (k40.mp z))]
  refine TwoL.c (l_esum hc h (by omega) (by omega)) (fun s => if_pos rfl) (fun t => if_pos rfl) (fun s1 t1 f1 g1 ⟨E1, R1, p1, p2, p3, p4, p5⟩ => ?_)
  obtain ⟨y, R2, ey⟩ := p2.1.ne
  subst ey
  have ly : (y :: R2).length = R2.length + 1 := List.length_cons
  have k60 := tk_eq (c := 60) (m := 160) hc.2.2.2.2 (p2.1.ok hc).1 (by decide) rfl (by decide)
  have k61 := tk_eq (c := 61) (m := 161) hc.2.2.2.2 (p2.1.ok hc).1 (by decide) rfl (by decide)
  have k62 := tk_eq (c := 62) (m := 162) hc.2.2.2.2 (p2.1.ok hc).1 (by decide) rfl (by decide)
  rw [if_neg (show ¬ (1 : Int) = 0 by decide), if_neg (show ¬ (1 : Int) = 0 by decide), bd_e (c_next hc p2.1), jn_s, p2.1.tk]
  have hw1 := hw.fs f1
  have hd1 : t1 0 24 = (nO S + k : Nat) := (g1.2 24 (by decide) (by decide) (by decide) (by decide) (by decide)).trans hd
  have go : ∀ hh : Int, (hh = 27 ∨ hh = 28 ∨ hh = 29) → tr (hh, 0) = [20000 + y.1] → y.1 ≠ 30 → 0 ≤ y.1 ∧ y.1 ≤ 62 → TwoC (cB n (c : Int) y.1 s1) (bd (f_X12_next0 0 t1) fun _ s30 => bd (f_X12_sumUp 0 s30) fun r31 s32 => if r31 = 0 then (some (0, s32)) else (bd (f_X12_lay 0 hh 0 s32) fun _ s35 => some (1, s35))) s1 t1 (fun o s1 t1 => ∃ R' : List Tk, R'.length ≤ R.length ∧ QO T B L k S K G (12 + 2 * (nO S + k)) R' o s1 t1) := by
    intro hh u1 u2 u3 u4
    obtain ⟨t2, a1, a2, a3, a4⟩ := SL.nx hc p2 u3
    unfold cB
    rw [a4, lm_s, bd_e a1]
    refine TwoC.fr (adv_fs s1).ft a3.ft ?_
    obtain ⟨z, R3, ez⟩ := a2.1.ne
    subst ez
    have lz : (z :: R3).length = R3.length + 1 := List.length_cons
    have hw2 := hw1.fs (adv_fs s1)
    have hd2 : t2 0 24 = (nO S + k : Nat) := (a3.2 24 (by decide) (by decide) (by decide) (by decide) (by decide)).trans hd1
    generalize adv s1 = s2 at a2 hw2 ⊢
    refine TwoL.c (l_esum hc a2 (by omega) (by omega)) (fun s => if_pos rfl) (fun t => if_pos rfl) (fun s3 t3 f3 g3' ⟨E2, R4, v1, v2, v3, v4, v5⟩ => ?_)
    rw [if_neg (show ¬ (1 : Int) = 0 by decide), if_neg (show ¬ (1 : Int) = 0 by decide)]
    have lR4 : 1 ≤ R4.length := by
      obtain ⟨w, R5, ew⟩ := v2.1.ne
      rw [ew, List.length_cons]
      omega
    obtain ⟨s4, d1, d2, d3⟩ := v2.put (by omega) (20000 + y.1)
    obtain ⟨t4, d4, d5, d6⟩ := d2.lay (by omega) hh 0
    have hw4 := (hw2.fs f3).fs d3
    have hd4 : t4 0 24 = (nO S + k : Nat) := (d6.2 24 (by decide) (by decide) (by decide) (by decide) (by decide)).trans ((g3'.2 24 (by decide) (by decide) (by decide) (by decide) (by decide)).trans hd2)
    rw [wr_n (x := 20000 + y.1) (by omega), bd_e (show f_X2_put (236 + 1) (20000 + y.1) s3 = some (0, s4) from d1), bd_e d4]
    have eK : K ++ trs E1 ++ trs E2 ++ [20000 + y.1] = K ++ trs (E1 ++ E2 ++ [(hh, 0)]) := by
      rw [trs_app, trs_app, trs_1, u2]
      simp only [List.append_assoc]
    have eG : G ++ E1 ++ E2 ++ [(hh, 0)] = G ++ (E1 ++ E2 ++ [(hh, 0)]) := by simp only [List.append_assoc]
    have lK : (K ++ trs E1 ++ trs E2 ++ [20000 + y.1]).length = (K ++ trs E1 ++ trs E2).length + 1 := by rw [List.length_append]; rfl
    have lG : (G ++ E1 ++ E2 ++ [(hh, 0)]).length = (G ++ E1 ++ E2).length + 1 := by rw [List.length_append]; rfl
    rw [eK, eG] at d5
    rw [eK] at lK
    rw [eG] at lG
    obtain ⟨s5, w1, w2, w3, w4⟩ := l_set (k := 17) (List.replicate k 17) S s4 t4 R4 _ _ FU d5 hw4 (fun p hp => by rw [rep_m hp]; decide) g3 (by rw [List.length_replicate]; omega) (by rw [List.length_replicate]; exact fu_lt (by omega))
    have hset : f_X7_settle 236 17 s4 = some (0, s5) := by
      unfold f_X7_settle
      rw [hw4.2.1]
      exact w1
    rw [opsW_rep, List.append_assoc] at w2
    have ecl : bd (f_X7_closes 236 s4) (cA n (c : Int)) = CLS FU ((0 : Nat) : Int) n (c : Int) s5 := by
      unfold f_X7_closes CLS
      rw [bd_e hset]
      rfl
    rw [ecl]
    have lr : (K ++ (trs (E1 ++ E2 ++ [(hh, 0)]) ++ List.replicate k 20017)).length = (K ++ trs (E1 ++ E2 ++ [(hh, 0)])).length + k := by
      rw [← List.append_assoc, List.length_append, List.length_replicate]
    refine Or.inl ⟨s5, t4, rfl, d3.ft.tr w4, d6.ft, R4, by omega, E1 ++ E2 ++ [(hh, 0)], FU, 0, n, c, rfl, ⟨fu_lt (by omega), by omega, by omega, by omega⟩, (Exb_c p1 v1 u1).le (by omega), w2, w3, hd4, by omega, by omega⟩
  by_cases c60 : y.1 = 60
  · rw [if_pos c60, if_pos (k60.mpr c60)]
    show TwoC _ (if (27 : Int) = -1 then _ else _) _ _ _
    rw [if_neg (show ¬ (27 : Int) = -1 by decide)]
    exact go 27 (by decide) (by rw [c60]; rfl) (by omega) (by omega)
  · rw [if_neg c60, if_neg (fun z => c60 (k60.mp z))]
    by_cases c61 : y.1 = 61
    · rw [if_pos c61, if_pos (k61.mpr c61)]
      show TwoC _ (if (28 : Int) = -1 then _ else _) _ _ _
      rw [if_neg (show ¬ (28 : Int) = -1 by decide)]
      exact go 28 (by decide) (by rw [c61]; rfl) (by omega) (by omega)
    · rw [if_neg c61, if_neg (fun z => c61 (k61.mp z))]
      by_cases c62 : y.1 = 62
      · rw [if_pos c62, if_pos (k62.mpr c62)]
        show TwoC _ (if (29 : Int) = -1 then _ else _) _ _ _
        rw [if_neg (show ¬ (29 : Int) = -1 by decide)]
        exact go 29 (by decide) (by rw [c62]; rfl) (by omega) (by omega)
      · obtain ⟨s8, t8, v1, v2, v3, v4, v5⟩ := c_refuse hc p2.1 1
        rw [if_neg c62, if_neg (fun z => c62 (k62.mp z))]
        show TwoC _ (if (-1 : Int) = -1 then _ else _) _ _ _
        rw [if_pos rfl, bd_e v2]
        unfold cR1
        rw [bd_e v1]
        exact Or.inr ⟨s8, t8, rfl, rfl, v3, v4, v5⟩
theorem cEnd_b (hc : PC T B L 0) {s t : Mem} {y : Tk} {R : List Tk} {K : List Int} {G : List Sg} {P W : List Int} (h : SL T B L s t (y :: R) K G) (hw : WS s (P ++ W)) (hP : ∀ p ∈ P, 15 ≤ p ∧ p ≤ 16) (hW : Sto 15 W) (hK : K.length + P.length ≤ 400) : ∃ s1 : Mem, SL T B L s1 t (y :: R) (K ++ opsW P) G ∧ WS s1 W ∧ FTc s s1 ∧ (nB W = 0 → cEnd s = some (1, s1)) ∧ (nB W ≠ 0 → ∃ s2 t2 : Mem, cEnd s = some (0, s2) ∧ f_X12_bad 0 1 t = some (0, t2) ∧ Er s2 t2 ∧ FD s s2 ∧ FM t t2) := by
  have lP : P.length ≤ 32 := by
    have := hw.2.2.2.2
    rw [List.length_append] at this
    omega
  obtain ⟨s1, w1, w2, w3, w4⟩ := l_set (k := 15) P W s t (y :: R) K G FU h hw (fun p hp => by have := hP p hp; omega) hW hK (fu_lt (by omega))
  have hset : f_X7_settle 236 15 s = some (0, s1) := by
    unfold f_X7_settle
    rw [hw.2.1]
    exact w1
  refine ⟨s1, w2, w3, w4, fun z => ?_, fun z => ?_⟩
  · unfold cEnd
    rw [bd_e hset, w3.2.2.2.1, if_pos (by omega)]
  · obtain ⟨s8, t8, v1, v2, v3, v4, v5⟩ := c_refuse hc w2.1 1
    unfold cEnd
    rw [bd_e hset, w3.2.2.2.1, if_neg (by omega), bd_e v1, if_pos rfl]
    exact ⟨s8, t8, rfl, v2, v3, w4.fc.tl v4, v5⟩
/-- the class takes a ) -/
theorem l_close (hc : PC T B L 0) {s t : Mem} {y : Tk} {R : List Tk} {K : List Int} {G : List Sg} {P S : List Int} {k : Nat} (h : SL T B L s t (y :: R) K G) (hy : y.1 = 41) (hw : WS s (P ++ 40 :: (List.replicate k 17 ++ S))) (hP : ∀ p ∈ P, 15 ≤ p ∧ p ≤ 16) (hS : Sto 17 S) {m c3 n c : Nat} (hb : Bdg T m c3 n c (y :: R)) (hK : K.length + P.length + k ≤ 400) :
    ∃ (s1 t1 : Mem) (m' : Nat), CLS m (c3 : Int) n (c : Int) s = CLS m' ((c3 + 1 : Nat) : Int) n (c : Int) s1 ∧ f_X12_need 0 141 t = some (1, t1) ∧ SL T B L s1 t1 R (K ++ opsW P ++ List.replicate k 20017) G ∧ WS s1 S ∧ t1 0 24 = t 0 24 ∧ FTc s s1 ∧ FTm t t1 ∧ Bdg T m' (c3 + 1) n c R := by
  obtain ⟨b1, b2, b3, b4⟩ := hb
  have hT := hc.2.2.1
  have ly : (y :: R).length = R.length + 1 := List.length_cons
  have k41 := tk_eq (c := 41) (m := 141) hc.2.2.2.2 (h.1.ok hc).1 (by decide) rfl (by decide)
  have hl : P.length + (k + S.length + 1) ≤ 32 := by
    have := hw.2.2.2.2
    rw [List.length_append, List.length_cons, List.length_append, List.length_replicate] at this
    omega
  cases m with
  | zero => omega
  | succ m =>
    obtain ⟨i, i1, i2, i3, i4, i5, i6, i7⟩ := h.1.at hc
    obtain ⟨s1, w1, w2, w3, w4⟩ := l_set (k := 15) P (40 :: (List.replicate k 17 ++ S)) s t (y :: R) K G FU h hw (fun p hp => by have := hP p hp; omega) (Or.inl rfl) (by omega) (fu_lt (by omega))
    have hset : f_X7_settle 236 15 s = some (0, s1) := by
      unfold f_X7_settle
      rw [hw.2.1]
      exact w1
    obtain ⟨r1, r2, r3, r4, r5⟩ := w3
    have hpos : 0 < s 236 17 := by
      rw [hw.2.2.2.1]
      have : ∀ P : List Int, 1 ≤ nB (P ++ 40 :: (List.replicate k 17 ++ S)) := by
        intro P
        induction P with
        | nil =>
          show 1 ≤ (if (40 : Int) = 40 then 1 else 0) + nB (List.replicate k 17 ++ S)
          rw [if_pos rfl]
          omega
        | cons p P ih =>
          show 1 ≤ (if p = 40 then 1 else 0) + nB (P ++ 40 :: (List.replicate k 17 ++ S))
          omega
      have := this P
      omega
    have no : nO ((40 : Int) :: (List.replicate k 17 ++ S)) = nO (List.replicate k 17 ++ S) + 1 := by
      show (if (40 : Int) = 17 ∨ (40 : Int) = 40 then 1 else 0) + nO (List.replicate k 17 ++ S) = _
      rw [if_pos (Or.inr rfl)]
      omega
    have nb : nB ((40 : Int) :: (List.replicate k 17 ++ S)) = nB (List.replicate k 17 ++ S) + 1 := by
      show (if (40 : Int) = 40 then 1 else 0) + nB (List.replicate k 17 ++ S) = _
      rw [if_pos rfl]
      omega
    have lW : ((40 : Int) :: (List.replicate k 17 ++ S)).length = (List.replicate k 17 ++ S).length + 1 := List.length_cons
    have hno := nO_len (List.replicate k 17 ++ S)
    have hnb := nB_le (List.replicate k 17 ++ S)
    have lWr : (List.replicate k 17 ++ S).length = k + S.length := by rw [List.length_append, List.length_replicate]
    have q15 : s1 236 15 = ((List.replicate k 17 ++ S).length : Int) + 1 := by rw [r2, lW]; omega
    have q16 : mup s1 236 15 ((List.replicate k 17 ++ S).length : Int) 236 16 = (nO (List.replicate k 17 ++ S) : Int) + 1 := by rw [mup_n (Or.inr (by decide)), r3, no]; omega
    have q17 : mup (mup s1 236 15 ((List.replicate k 17 ++ S).length : Int)) 236 16 (nO (List.replicate k 17 ++ S) : Int) 236 17 = (nB (List.replicate k 17 ++ S) : Int) + 1 := by rw [mup_n (Or.inr (by decide)), mup_n (Or.inr (by decide)), r4, nb]; omega
    have z1 : ∀ a : Nat, a ≤ 100 → wr ((a : Int) + 1 - 1) = a := fun a ha => by rw [wr_n (by omega)]; omega
    have y2 : SL T B L (mup (mup (mup s1 236 15 ((List.replicate k 17 ++ S).length : Int)) 236 16 (nO (List.replicate k 17 ++ S) : Int)) 236 17 (nB (List.replicate k 17 ++ S) : Int)) t (y :: R) (K ++ opsW P) G := w2.sc (fun c hc => by rw [mup_o (by omega), mup_o (by omega), mup_o (by omega)]) ⟨by rw [mup_n (Or.inr (by decide)), mup_n (Or.inr (by decide)), mup_n (Or.inr (by decide))], by rw [mup_n (Or.inr (by decide)), mup_n (Or.inr (by decide)), mup_n (Or.inr (by decide))], by rw [mup_o (by decide), mup_o (by decide), mup_o (by decide)]⟩ (fun _ _ => rfl) ⟨rfl, rfl⟩
    have y3 : WS (mup (mup (mup s1 236 15 ((List.replicate k 17 ++ S).length : Int)) 236 16 (nO (List.replicate k 17 ++ S) : Int)) 236 17 (nB (List.replicate k 17 ++ S) : Int)) (List.replicate k 17 ++ S) := ⟨by rw [mup_o (by decide), mup_o (by decide), mup_o (by decide)]; exact r1.2, by rw [mup_n (Or.inr (by decide)), mup_n (Or.inr (by decide)), mup_e rfl rfl], by rw [mup_n (Or.inr (by decide)), mup_e rfl rfl], mup_e rfl rfl, by omega⟩
    have y4 : FTc s1 (mup (mup (mup s1 236 15 ((List.replicate k 17 ++ S).length : Int)) 236 16 (nO (List.replicate k 17 ++ S) : Int)) 236 17 (nB (List.replicate k 17 ++ S) : Int)) := ⟨fun c q1 q2 q3 q4 => by rw [mup_o q1, mup_o q1, mup_o q1], fun i _ => by rw [mup_o (by decide), mup_o (by decide), mup_o (by decide)], fun i q1 q2 q3 q4 q5 => by rw [mup_n (Or.inr q5), mup_n (Or.inr q4), mup_n (Or.inr q3)]⟩
    obtain ⟨t1, e1, e2, e3, e4⟩ := SL.nx hc y2 (by omega)
    have hcl : ∀ s5 : Mem, f_X7_settle 236 17 (adv (mup (mup (mup s1 236 15 ((List.replicate k 17 ++ S).length : Int)) 236 16 (nO (List.replicate k 17 ++ S) : Int)) 236 17 (nB (List.replicate k 17 ++ S) : Int))) = some (0, s5) → f_X7_closes_8 236 (m + 1) (c3 : Int) s = f_X7_closes_8 236 m ((c3 + 1 : Nat) : Int) s5 := by
      intro s5 hs5
      rw [f_X7_closes_8, i3, if_pos (by omega), bd_e (c_next hc h.1), if_pos hy, if_pos hpos, bd_e hset, q15, z1 _ (by omega), lm_s, q16, z1 _ (by omega), lm_s, q17, z1 _ (by omega), lm_s, e4, lm_s, bd_e hs5, wr_s (by omega)]
    obtain ⟨s5, v1, v2, v3, v4⟩ := l_set (k := 17) (List.replicate k 17) S _ t1 R _ _ FU e2 (y3.fs (adv_fs _)) (fun p hp => by rw [rep_m hp]; decide) hS (by rw [List.length_replicate, List.length_append]; unfold opsW; rw [List.length_map]; omega) (by rw [List.length_replicate]; exact fu_lt (by omega))
    have hs5 := hcl s5 (by
      unfold f_X7_settle
      rw [(y3.fs (adv_fs _)).2.1]
      exact v1)
    rw [opsW_rep] at v2
    refine ⟨s5, t1, m, ?_, ?_, v2, v3, ?_, ?_, e3.ft, ⟨by omega, by omega, by omega, by omega⟩⟩
    · unfold CLS
      rw [hs5]
    · unfold f_X12_need
      rw [h.1.tk, if_pos (k41.mpr hy), bd_e e1]
    · exact e3.2 24 (by decide) (by decide) (by decide) (by decide) (by decide)
    · exact (w4.tr y4).tr ((adv_fs _).ft.tr v4)
theorem one_0 (hc : PC T B L 0) (D : Nat) (hD : 9 ≤ D) (ro : Nat → Mem → Res) : One T B L ro D := by
  intro k S s t x R K G m c2 n c g1 g2
  omega
theorem one_s (hc : PC T B L 0) {ro ra : Nat → Mem → Res} {D : Nat} (ho : One T B L ro (D + 1)) (ha : Lv T B L ra 15 2 (D + 1)) : One T B L (F_X12_oneTest ro ra) D := by
  intro k S s t x R K G m c2 n c g1 g2 g3 g4 h hw hd hb hK hG
  by_cases x17 : x.1 = 17
  · have hT := hc.2.2.1
    have lx : (x :: R).length = R.length + 1 := List.length_cons
    obtain ⟨b1, b2, b3, b4⟩ := hb
    have lW : (List.replicate k 17 ++ S).length = k + S.length := by rw [List.length_append, List.length_replicate]
    have hnb := nB_le S
    have k17 := tk_eq (c := 17) (m := 6) hc.2.2.2.2 (h.1.ok hc).1 (by decide) rfl (by decide)
    cases m with
    | zero => omega
    | succ m =>
    have ho' := l_opn hc h hw (m := m) (c2 := c2) (by omega) n (c : Int) (Or.inl rfl) x17 (by rw [rep_o]; exact hd) (by rw [rep_o]; omega) (by omega)
    unfold F_X12_oneTest
    rw [h.1.tk, if_pos (k17.mpr x17)]
    rw [rep_o] at ho'
    by_cases c8 : nO S + k = 8
    · obtain ⟨s1, t1, a1, a2, a3, a4, a5⟩ := ho'.1 c8
      rw [a1, bd_e a2, if_pos rfl]
      exact Or.inr ⟨s1, t1, rfl, rfl, a3, a4, a5⟩
    · obtain ⟨s1, t1, a1, a2, a3, a4, a5, a6, a7⟩ := ho'.2 (by omega)
      rw [a1, bd_e a2, if_neg (show ¬ (1 : Int) = 0 by decide)]
      obtain ⟨y, R2, ey⟩ := a3.1.ne
      subst ey
      have ly : (y :: R2).length = R2.length + 1 := List.length_cons
      refine TwoC.fr a6 a7 (TwoC.b (ho (k + 1) S s1 t1 y R2 K G m (c2 + 1) n c (by omega) (by omega) g3 (by omega) a3 a4 a5 ⟨by omega, by omega, by omega, by omega⟩ (by omega) (by omega)) (fun t => if_pos rfl) (fun s2 t2 _ _ ⟨R3, q0, E, m', c3, n', c', q1, q2, q3, q4, q5, q6, q7, q8⟩ => ?_))
      rw [if_neg (show ¬ (1 : Int) = 0 by decide), q6, show ((nO S + (k + 1) : Nat) : Int) - 1 = ((nO S + k : Nat) : Int) by omega, wr_n (by omega), lm_s]
      have w1 : SL T B L s2 (mup t2 0 24 ((nO S + k : Nat) : Int)) R3 (K ++ (trs E ++ List.replicate (k + 1) 20017)) (G ++ E) := q4.sc (fun _ _ => rfl) ⟨rfl, rfl, rfl⟩ (fun i hi => mup_n (Or.inr (by omega))) ⟨mup_o (by decide), mup_o (by decide)⟩
      obtain ⟨t3, v1, v2, v3⟩ := w1.lay (by omega) 30 0
      rw [bd_e v1]
      have eE : trs E ++ List.replicate (k + 1) 20017 = trs (E ++ [(30, 0)]) ++ List.replicate k 20017 := by
        rw [trs_app, trs_1, List.append_assoc]
        rfl
      have lG : (G ++ (E ++ [((30 : Int), (0 : Int))])).length = (G ++ E).length + 1 := by
        rw [← List.append_assoc, List.length_append]
        rfl
      rw [eE] at v2 q7
      rw [List.append_assoc] at v2
      refine Or.inl ⟨s2, t3, rfl, FTc.rf s2, FTm.tr ⟨fun c q _ => mup_o q, fun i _ _ _ _ _ q => mup_n (Or.inr q)⟩ v3.ft, R3, by omega, E ++ [(30, 0)], m', c3, n', c', q1, q2, (Exb_n q3).le (by omega), v2, q5, ?_, q7, by omega⟩
      rw [v3.2 24 (by decide) (by decide) (by decide) (by decide) (by decide), mup_e rfl rfl]
  · by_cases x40 : x.1 = 40
    · have hT := hc.2.2.1
      have lx : (x :: R).length = R.length + 1 := List.length_cons
      obtain ⟨b1, b2, b3, b4⟩ := hb
      have lW : (List.replicate k 17 ++ S).length = k + S.length := by rw [List.length_append, List.length_replicate]
      have hnb := nB_le S
      have k17 := tk_eq (c := 17) (m := 6) hc.2.2.2.2 (h.1.ok hc).1 (by decide) rfl (by decide)
      have k40 := tk_eq (c := 40) (m := 140) hc.2.2.2.2 (h.1.ok hc).1 (by decide) rfl (by decide)
      have no : nO ((40 : Int) :: (List.replicate k 17 ++ S)) = nO S + k + 1 := by
        show (if (40 : Int) = 17 ∨ (40 : Int) = 40 then 1 else 0) + nO (List.replicate k 17 ++ S) = _
        rw [if_pos (Or.inr rfl), rep_o]
        omega
      have nb : nB ((40 : Int) :: (List.replicate k 17 ++ S)) = nB S + 1 := by
        show (if (40 : Int) = 40 then 1 else 0) + nB (List.replicate k 17 ++ S) = _
        rw [if_pos rfl, rep_b]
        omega
      have lW2 : ((40 : Int) :: (List.replicate k 17 ++ S)).length = k + S.length + 1 := by rw [List.length_cons, lW]
      cases m with
      | zero => omega
      | succ m =>
      have ho' := l_opn hc h hw (m := m) (c2 := c2) (by omega) n (c : Int) (Or.inr rfl) x40 (by rw [rep_o]; exact hd) (by rw [rep_o]; omega) (by omega)
      unfold F_X12_oneTest
      rw [h.1.tk, if_neg (fun z => x17 (k17.mp z)), if_pos (k40.mpr x40)]
      rw [rep_o] at ho'
      by_cases c8 : nO S + k = 8
      · obtain ⟨s1, t1, a1, a2, a3, a4, a5⟩ := ho'.1 c8
        rw [a1, bd_e a2, if_pos rfl]
        exact Or.inr ⟨s1, t1, rfl, rfl, a3, a4, a5⟩
      · obtain ⟨s1, t1, a1, a2, a3, a4, a5, a6, a7⟩ := ho'.2 (by omega)
        rw [a1, bd_e a2, if_neg (show ¬ (1 : Int) = 0 by decide)]
        obtain ⟨y, R2, ey⟩ := a3.1.ne
        subst ey
        have ly : (y :: R2).length = R2.length + 1 := List.length_cons
        refine TwoC.fr a6 a7 (TwoC.b (ha ((40 : Int) :: (List.replicate k 17 ++ S)) s1 t1 y R2 K G m (c2 + 1) n c (by omega) (by omega) (Or.inl rfl) (by omega) a3 a4 (by rw [a5, no]) ⟨by omega, by omega, by omega, by omega⟩ (by omega) (by omega)) (fun t => if_pos rfl) (fun s2 t2 _ _ ⟨R3, q0, E, P, K2, m', c3, n', c', q1, q2, q3, q4, q5, q6, q7, q8, q9, q10, q11⟩ => ?_))
        rw [if_neg (show ¬ (1 : Int) = 0 by decide)]
        obtain ⟨w, R4, ew⟩ := q4.1.ne
        subst ew
        have lw : (w :: R4).length = R4.length + 1 := List.length_cons
        have l5 : K2.length + P.length = (K ++ trs E).length := by
          rw [← q5, List.length_append]
          unfold opsW
          rw [List.length_map]
        by_cases c41 : w.1 = 41
        · obtain ⟨s3, t3, m3, v1, v2, v3, v4, v5, v6, v7, v8⟩ := l_close hc q4 c41 q7 q6 g3 q2 (by omega)
          rw [bd_e v2, if_neg (show ¬ (1 : Int) = 0 by decide), v5, q8, no, show ((nO S + k + 1 : Nat) : Int) - 1 = ((nO S + k : Nat) : Int) by omega, wr_n (by omega), lm_s]
          rw [q5, List.append_assoc] at v3
          have lr : (K ++ (trs E ++ List.replicate k 20017)).length = (K ++ trs E).length + k := by
            rw [← List.append_assoc, List.length_append, List.length_replicate]
          refine Or.inl ⟨s3, mup t3 0 24 ((nO S + k : Nat) : Int), rfl, v6, v7.tr ⟨fun c q _ => mup_o q, fun i _ _ _ _ _ q => mup_n (Or.inr q)⟩, R4, by omega, E, m3, c3 + 1, n', c', q1.trans v1, v8, q3.le (by omega), v3.sc (fun _ _ => rfl) ⟨rfl, rfl, rfl⟩ (fun i hi => mup_n (Or.inr (by omega))) ⟨mup_o (by decide), mup_o (by decide)⟩, v4, mup_e rfl rfl, by omega, by omega⟩
        · have k41 := tk_eq (c := 41) (m := 141) hc.2.2.2.2 (q4.1.ok hc).1 (by decide) rfl (by decide)
          have q11' := q11 w R4 rfl
          obtain ⟨s3, v1, v2, v3, v4, v5⟩ := cEnd_b hc q4 q7 q6 (Or.inl rfl) (by omega)
          obtain ⟨s4, t4, z1, z2, z3, z4, z5⟩ := v5 (by omega)
          unfold f_X12_need
          rw [q4.1.tk, if_neg (fun z => c41 (k41.mp z)), bd_e z2, bd_s, if_pos rfl, q1, cls_no hc q4 (Or.inl c41) (by have := q2.1; omega) q2.2.1, cA_s hc q4, if_neg (by omega), if_neg (by omega), z1]
          exact Or.inr ⟨s4, t4, rfl, rfl, z3, z4, z5⟩
    · exact l_cmp hc x17 x40 g2 g3 h hw hd hb hK hG
theorem every_lv (hc : PC T B L 0) {ro : Nat → Mem → Res} {D : Nat} (h : Lv T B L ro 17 0 D) : Lv T B L (F_X12_every ro) 16 1 D := by
  refine l_lv hc (f := ro) (lp := fun n s => f_X12_every_9 ro 0 (fun s4 => some (1, s4)) n s) (op := 31) (mt := 5) (fun n s0 => ?_) (fun t => ?_) (Or.inr rfl) rfl (by decide) (Or.inl rfl) rfl (by decide) h
  · show f_X12_every_9 ro 0 _ (n + 1) s0 = _
    rw [f_X12_every_9]
  · unfold F_X12_every
    rfl
theorem any_lv (hc : PC T B L 0) {re : Nat → Mem → Res} {D : Nat} (h : Lv T B L re 16 1 D) : Lv T B L (F_X12_any re) 15 2 D := by
  refine l_lv hc (f := re) (lp := fun n s => f_X12_any_9 re 0 (fun s4 => some (1, s4)) n s) (op := 32) (mt := 4) (fun n s0 => ?_) (fun t => ?_) (Or.inl rfl) rfl (by decide) (Or.inr rfl) rfl (by decide) h
  · show f_X12_any_9 re 0 _ (n + 1) s0 = _
    rw [f_X12_any_9]
  · unfold F_X12_any
    rfl
theorem one_all (hc : PC T B L 0) : ∀ (d D : Nat), 9 ≤ d + D → One T B L (fun a s => fd_X12_oneTest d a s) D
  | 0, D, h => one_0 hc D (by omega) _
  | d + 1, D, h => by
    have ih := one_all hc d (D + 1) (by omega)
    exact one_s hc ih (any_lv hc (every_lv hc (one_lv ih)))
end

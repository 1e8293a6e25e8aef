/-! ===== L3: texts: THE LAW: a B, the class's way ===== -/
noncomputable def cR1 : Mem → Res := fun s4 => bd (f_X7_refuse 236 1 s4) fun r5 s6 => some (r5, s6)
noncomputable def cR3 : Mem → Res := fun s1 => bd (f_X7_refuse 236 3 s1) fun r2 s3 => some (r2, s3)
noncomputable def cEnd : Mem → Res := fun s7 => bd (f_X7_settle 236 15 s7) fun r8 s9 => if s9 236 17 = 0 then (some (1, s9)) else (bd (f_X7_refuse 236 1 s9) fun r11 s12 => if r11 = 0 then (some (0, s12)) else (some (1, s12)))
noncomputable def CND (n : Nat) (c : Int) (s : Mem) : Res := f_X7_condition_17 236 cR1 cR1 cEnd n c s
noncomputable def cJ (n : Nat) (c : Int) (r34 : Int) (s35 : Mem) : Res := bd (f_X7_settle 236 r34 s35) fun _ s37 => bd (f_X7_hold 236 r34 s37) fun _ s39 => lm (mup s39 236 12 (wr ((s39 236 12) + 1))) fun s40 => CND n (wr (c + 1)) s40
noncomputable def cA (n : Nat) (c : Int) : Int → Mem → Res := fun _ s33 => bd (f_X7_next 236 s33) fun r34 s35 => if r34 = 16 then cJ n c r34 s35 else (if r34 = 15 then cJ n c r34 s35 else cEnd s35)
noncomputable def cB (n : Nat) (c : Int) (r24 : Int) (s25 : Mem) : Res := lm (mup s25 236 12 (wr ((s25 236 12) + 1))) fun s26 => bd (f_X7_sum 236 s26) fun r27 s28 => if r27 = 0 then (some (0, s28)) else (bd (f_X2_put (236 + 1) (wr (20000 + r24)) s28) fun _ s31 => bd (f_X7_closes 236 s31) (cA n c))
noncomputable def cS (n : Nat) (c : Int) : Int → Mem → Res := fun r18 s19 => if r18 = 0 then (some (0, s19)) else (bd (f_X7_sum 236 s19) fun r21 s22 => if r21 = 0 then (some (0, s22)) else (bd (f_X7_next 236 s22) fun r24 s25 => if r24 = 60 then cB n c r24 s25 else (if r24 = 61 then cB n c r24 s25 else (if r24 = 62 then cB n c r24 s25 else cR1 s25))))
noncomputable def OPN (m : Nat) (c2 : Int) (n : Nat) (c : Int) (s : Mem) : Res := bd (f_X7_opens_2 236 cR3 m c2 s) (cS n c)
noncomputable def CLS (m : Nat) (c3 : Int) (n : Nat) (c : Int) (s : Mem) : Res := bd (f_X7_closes_8 236 m c3 s) (cA n c)
theorem cnd_s (n : Nat) (c : Int) (s : Mem) : CND (n + 1) c s = if c < s 236 11 then OPN FU 0 n c s else cR1 s := by
  have jp : ∀ {α : Type} (v : α) (k : α → Res), jn v k = k v := fun v k => (jn_s v k).trans (Eq.refl (k v))
  show f_X7_condition_17 236 cR1 cR1 cEnd (n + 1) c s = _
  rw [f_X7_condition_17]
  unfold f_X7_opens OPN cS cB cA cJ CND cR3
  simp only [jp]
theorem cnd_b (s : Mem) : f_X7_condition 236 s = CND FU 0 (mup (mup (mup s 236 15 0) 236 16 0) 236 17 0) := by
  unfold f_X7_condition CND
  rw [lm_s, lm_s, lm_s, jn_s, jn_s, jn_s]
  rfl
def ExB (N : Nat) (E : List Sg) : Prop := (∀ d : Nat, d ≤ N → Dp E d (d + 1)) ∧ ∀ (fx : Int → Int) (st : List Int), ∃ v : Int, (v = 0 ∨ v = 1) ∧ ev fx E st = v :: st
theorem ExB.le {a b : Nat} {E : List Sg} (h : ExB a E) (q : b ≤ a) : ExB b E := ⟨fun d hd => h.1 d (by omega), h.2⟩
theorem Exb_c {E1 E2 : List Sg} {h : Int} (h1 : ExN 29 E1) (h2 : ExN 29 E2) (hh : h = 27 ∨ h = 28 ∨ h = 29) : ExB 28 (E1 ++ E2 ++ [(h, 0)]) := by
  have hi : isOp2 h := by
    unfold isOp2
    omega
  refine ⟨(Ex_2 h1 h2 hi (by decide) (by decide) : ExN 28 _).1, fun fx st => ?_⟩
  obtain ⟨v1, e1⟩ := h1.2 fx st
  obtain ⟨v2, e2⟩ := h2.2 fx (v1 :: st)
  refine ⟨sBoth h v1 v2, ?_, ?_⟩
  · unfold sBoth
    rcases hh with rfl | rfl | rfl
    · rw [if_neg (by decide), if_neg (by decide), if_neg (by decide), if_pos rfl]
      unfold bI
      split
      · exact Or.inr rfl
      · exact Or.inl rfl
    · rw [if_neg (by decide), if_neg (by decide), if_neg (by decide), if_neg (by decide), if_pos rfl]
      unfold bI
      split
      · exact Or.inr rfl
      · exact Or.inl rfl
    · rw [if_neg (by decide), if_neg (by decide), if_neg (by decide), if_neg (by decide), if_neg (by decide), if_pos rfl]
      unfold bI
      split
      · exact Or.inr rfl
      · exact Or.inl rfl
  · rw [ev_app, ev_app, e1, e2]
    show ev1 fx (h, 0) (v2 :: v1 :: st) = _
    unfold ev1
    rw [if_neg (show ¬ h < 23 by omega), if_neg (show ¬ h = 26 by omega), if_neg (show ¬ h = 30 by omega)]
    rfl
theorem Exb_n {N : Nat} {E : List Sg} (h : ExB N E) : ExB N (E ++ [(30, 0)]) := by
  refine ⟨fun d hd => Dp_app _ _ _ _ _ (h.1 d hd) ⟨d + 1, Or.inr (Or.inr (Or.inl ⟨rfl, by omega, rfl⟩)), rfl⟩, fun fx st => ?_⟩
  obtain ⟨v1, e0, e1⟩ := h.2 fx st
  refine ⟨wr (1 - v1), ?_, ?_⟩
  · rcases e0 with rfl | rfl
    · exact Or.inr rfl
    · exact Or.inl rfl
  · rw [ev_app, e1]
    rfl
theorem Exb_2 {a b N : Nat} {E1 E2 : List Sg} {h : Int} (h1 : ExB a E1) (h2 : ExB b E2) (hh : h = 31 ∨ h = 32) (q1 : N ≤ a) (q2 : N + 1 ≤ b) : ExB N (E1 ++ E2 ++ [(h, 0)]) := by
  have hi : isOp2 h := by
    unfold isOp2
    omega
  refine ⟨fun d hd => ?_, fun fx st => ?_⟩
  · rw [List.append_assoc]
    exact Dp_app _ _ _ _ _ (h1.1 d (by omega)) (Dp_app _ _ _ _ _ (h2.1 (d + 1) (by omega)) ⟨d + 1, Or.inr (Or.inr (Or.inr ⟨hi, by omega, rfl⟩)), rfl⟩)
  · obtain ⟨v1, z1, e1⟩ := h1.2 fx st
    obtain ⟨v2, z2, e2⟩ := h2.2 fx (v1 :: st)
    refine ⟨sBoth h v1 v2, ?_, ?_⟩
    · rcases hh with rfl | rfl <;> rcases z1 with rfl | rfl <;> rcases z2 with rfl | rfl
      · exact Or.inl (by decide)
      · exact Or.inl (by decide)
      · exact Or.inl (by decide)
      · exact Or.inr (by decide)
      · exact Or.inl (by decide)
      · exact Or.inr (by decide)
      · exact Or.inr (by decide)
      · exact Or.inr (by decide)
    · rw [ev_app, ev_app, e1, e2]
      show ev1 fx (h, 0) (v2 :: v1 :: st) = _
      unfold ev1
      rw [if_neg (show ¬ h < 23 by omega), if_neg (show ¬ h = 26 by omega), if_neg (show ¬ h = 30 by omega)]
      rfl
/-- the model goes on well and the class goes on, or both refuse alike -/
def TwoC (o1 o2 : Res) (s t : Mem) (Q : Res → Mem → Mem → Prop) : Prop := (∃ s1 t1 : Mem, o2 = some (1, t1) ∧ FTc s s1 ∧ FTm t t1 ∧ Q o1 s1 t1) ∨ (∃ s1 t1 : Mem, o1 = some (0, s1) ∧ o2 = some (0, t1) ∧ Er s1 t1 ∧ FD s s1 ∧ FM t t1)
section
variable {o1 o2 : Res} {s t : Mem}
theorem TwoC.fr {s1 t1 : Mem} {Q : Res → Mem → Mem → Prop} (f : FTc s s1) (g : FTm t t1) (h : TwoC o1 o2 s1 t1 Q) : TwoC o1 o2 s t Q := by
  rcases h with ⟨s2, t2, z2, z3, z4, z5⟩ | ⟨s2, t2, z1, z2, z3, z4, z5⟩
  · exact Or.inl ⟨s2, t2, z2, f.tr z3, g.tr z4, z5⟩
  · exact Or.inr ⟨s2, t2, z1, z2, z3, f.fc.tl z4, g.fm.tr z5⟩
theorem TwoC.im {P Q : Res → Mem → Mem → Prop} (h : TwoC o1 o2 s t P) (hq : ∀ s1 t1 : Mem, P o1 s1 t1 → Q o1 s1 t1) : TwoC o1 o2 s t Q := by
  rcases h with ⟨s2, t2, z2, z3, z4, z5⟩ | ⟨s2, t2, z1, z2, z3, z4, z5⟩
  · exact Or.inl ⟨s2, t2, z2, z3, z4, hq _ _ z5⟩
  · exact Or.inr ⟨s2, t2, z1, z2, z3, z4, z5⟩
theorem TwoC.b {k2 : Int → Mem → Res} {P Q : Res → Mem → Mem → Prop} (h : TwoC o1 o2 s t P) (h2 : ∀ t1 : Mem, k2 0 t1 = some (0, t1)) (hk : ∀ s1 t1 : Mem, FTc s s1 → FTm t t1 → P o1 s1 t1 → TwoC o1 (k2 1 t1) s1 t1 Q) : TwoC o1 (bd o2 k2) s t Q := by
  rcases h with ⟨s1, t1, a2, a3, a4, a5⟩ | ⟨s1, t1, a1, a2, a3, a4, a5⟩
  · rw [bd_e a2]
    exact (hk s1 t1 a3 a4 a5).fr a3 a4
  · rw [bd_e a2]
    exact Or.inr ⟨s1, t1, a1, h2 t1, a3, a4, a5⟩
theorem TwoL.c {k1 k2 : Int → Mem → Res} {P : Mem → Mem → Prop} {Q : Res → Mem → Mem → Prop} (h : TwoL o1 o2 s t P) (h1 : ∀ s1 : Mem, k1 0 s1 = some (0, s1)) (h2 : ∀ t1 : Mem, k2 0 t1 = some (0, t1)) (hk : ∀ s1 t1 : Mem, FSc s s1 → FSm t t1 → P s1 t1 → TwoC (k1 1 s1) (k2 1 t1) s1 t1 Q) : TwoC (bd o1 k1) (bd o2 k2) s t Q := by
  rcases h with ⟨s1, t1, a1, a2, a3, a4, a5⟩ | ⟨s1, t1, a1, a2, a3, a4, a5⟩
  · rw [bd_e a1, bd_e a2]
    exact (hk s1 t1 a3 a4 a5).fr a3.ft a4.ft
  · rw [bd_e a1, bd_e a2]
    exact Or.inr ⟨s1, t1, h1 s1, h2 t1, a3, a4, a5⟩
end
section
variable {T : List Tk} {B : Int → Int} {L : Nat} {s t : Mem} {x : Tk} {R : List Tk} {K : List Int} {G : List Sg}
theorem opn_no (hc : PC T B L 0) (h : SL T B L s t (x :: R) K G) (h1 : x.1 ≠ 17) (h2 : x.1 ≠ 40) {m c2 : Nat} (hm : c2 < T.length) (n : Nat) (c : Int) : OPN (m + 1) (c2 : Int) n c s = cS n c 1 s := by
  obtain ⟨i, i1, i2, i3, i4, i5, i6, i7⟩ := h.1.at hc
  unfold OPN
  rw [f_X7_opens_2, i3, if_pos (by omega), bd_e (c_next hc h.1), jn_s, if_neg h1, bd_e (c_next hc h.1), if_neg h2, bd_s]
theorem rep_o : ∀ (k : Nat) (S : List Int), nO (List.replicate k 17 ++ S) = nO S + k
  | 0, S => rfl
  | k + 1, S => by
    have ih := rep_o k S
    show (if (17 : Int) = 17 ∨ (17 : Int) = 40 then 1 else 0) + nO (List.replicate k 17 ++ S) = _
    rw [if_pos (Or.inl rfl), ih]
    omega
theorem rep_b : ∀ (k : Nat) (S : List Int), nB (List.replicate k 17 ++ S) = nB S
  | 0, S => rfl
  | k + 1, S => by
    have ih := rep_b k S
    show (if (17 : Int) = 40 then 1 else 0) + nB (List.replicate k 17 ++ S) = _
    rw [if_neg (by decide), ih]
    omega
noncomputable def oH (m : Nat) (c2 : Int) (s12 : Mem) : Res := bd (f_X7_next 236 s12) fun r13 s14 => bd (f_X7_hold 236 r13 s14) fun _ s16 => lm (mup s16 236 12 (wr ((s16 236 12) + 1))) fun s17 => f_X7_opens_2 236 cR3 m (wr (c2 + 1)) s17
theorem opn_u (hc : PC T B L 0) (h : SL T B L s t (x :: R) K G) (hx : x.1 = 17 ∨ x.1 = 40) {m c2 : Nat} (hm : c2 < T.length) : f_X7_opens_2 236 cR3 (m + 1) (c2 : Int) s = (if s 236 16 < 8 then (lm (mup s 236 16 (wr ((s 236 16) + 1))) fun s9 => bd (f_X7_next 236 s9) fun r10 s11 => if r10 = 40 then (lm (mup s11 236 17 (wr ((s11 236 17) + 1))) fun s19 => oH m c2 s19) else oH m c2 s11) else cR3 s) := by
  obtain ⟨i, i1, i2, i3, i4, i5, i6, i7⟩ := h.1.at hc
  rw [f_X7_opens_2, i3, if_pos (by omega), bd_e (c_next hc h.1), jn_s]
  rcases hx with hx | hx
  · rw [if_pos hx]
    rfl
  · rw [if_neg (by omega), bd_e (c_next hc h.1), if_pos hx]
    rfl
/-- both go in by one: not, or ( -/
theorem l_opn (hc : PC T B L 0) (h : SL T B L s t (x :: R) K G) {W : List Int} (hw : WS s W) {m c2 : Nat} (hm : c2 < T.length) (n : Nat) (c : Int) {v : Int} (hv : v = 17 ∨ v = 40) (hx : x.1 = v) (hd : t 0 24 = nO W) (hd8 : nO W ≤ 8) (hl : W.length < 32) :
    (nO W = 8 → ∃ s1 t1 : Mem, OPN (m + 1) (c2 : Int) n c s = some (0, s1) ∧ f_X12_opens 0 t = some (0, t1) ∧ Er s1 t1 ∧ FD s s1 ∧ FM t t1) ∧ (nO W < 8 → ∃ s1 t1 : Mem, OPN (m + 1) (c2 : Int) n c s = OPN m ((c2 + 1 : Nat) : Int) n c s1 ∧ f_X12_opens 0 t = some (1, t1) ∧ SL T B L s1 t1 R K G ∧ WS s1 (v :: W) ∧ t1 0 24 = (nO W + 1 : Nat) ∧ FTc s s1 ∧ FTm t t1) := by
  have hT := hc.2.2.1
  obtain ⟨w1, w2, w3, w4, w5⟩ := hw
  have hb := nB_le W
  unfold OPN f_X12_opens
  rw [opn_u hc h (by rw [hx]; exact hv) hm]
  constructor
  · intro h8
    obtain ⟨s1, t1, a1, a2, a3, a4, a5⟩ := c_refuse hc h.1 3
    have e : cR3 s = some (0, s1) := by
      unfold cR3
      rw [bd_e a1]
    rw [if_neg (by omega), e, bd_s, if_pos (by omega), bd_e a2]
    refine ⟨s1, t1, ?_, rfl, a3, a4, a5⟩
    unfold cS
    rw [if_pos rfl]
  · intro h8
    have go : ∀ s3 : Mem, SL T B L s3 t (x :: R) K G → PR (s3 260) W → s3 236 15 = W.length → s3 236 16 = (nO W + 1 : Nat) → s3 236 17 = nB (v :: W) → FTc s s3 → ∃ s1 t1 : Mem, bd (oH m c2 s3) (cS n c) = bd (f_X7_opens_2 236 cR3 m ((c2 + 1 : Nat) : Int) s1) (cS n c) ∧ (lm (mup t 0 24 (wr ((t 0 24) + 1))) fun s4 => bd (f_X12_next0 0 s4) fun _ s6 => some (1, s6)) = some (1, t1) ∧ SL T B L s1 t1 R K G ∧ WS s1 (v :: W) ∧ t1 0 24 = (nO W + 1 : Nat) ∧ FTc s s1 ∧ FTm t t1 := by
      intro s3 q1 q2 q3 q4 q5 q6
      obtain ⟨s4, a1, a2, a3, a4, a5, a6, a7⟩ := l_hold q1 q2 q3 hl v
      have a8 : SL T B L s4 (mup t 0 24 ((nO W + 1 : Nat) : Int)) (x :: R) K G := a2.sc (fun _ _ => rfl) ⟨rfl, rfl, rfl⟩ (fun i hi => mup_n (Or.inr (by omega))) ⟨mup_o (by decide), mup_o (by decide)⟩
      obtain ⟨t1, b1, b2, b3, b4⟩ := SL.nx hc a8 (by omega)
      unfold oH
      rw [bd_e (c_next hc q1.1), hx, bd_e a1, b4, lm_s, wr_s (by omega), hd, wr_s (by omega), lm_s, bd_e b1]
      refine ⟨adv s4, t1, rfl, rfl, b2, ?_, ?_, q6.tr (a7.tr (adv_fs s4).ft), ?_⟩
      · refine WS.fs ⟨a3, a4, ?_, a6.trans q5, ?_⟩ (adv_fs s4)
        · rw [a5, q4]
          have : nO (v :: W) = nO W + 1 := by
            show (if v = 17 ∨ v = 40 then 1 else 0) + nO W = _
            rw [if_pos hv]
            omega
          rw [this]
        · rw [List.length_cons]
          omega
      · rw [b3.2 24 (by decide) (by decide) (by decide) (by decide) (by decide), mup_e rfl rfl]
      · exact FTm.tr ⟨fun c q _ => mup_o q, fun i _ _ _ _ _ q => mup_n (Or.inr q)⟩ b3.ft
    rw [w3, if_pos (by omega), if_neg (by omega), wr_s (by omega), lm_s]
    have h16 : SL T B L (mup s 236 16 ((nO W + 1 : Nat) : Int)) t (x :: R) K G := h.sc (fun c hc => mup_o (by omega)) ⟨mup_n (Or.inr (by decide)), mup_n (Or.inr (by decide)), by rw [mup_o (by decide)]⟩ (fun _ _ => rfl) ⟨rfl, rfl⟩
    have f16 : FTc s (mup s 236 16 ((nO W + 1 : Nat) : Int)) := ⟨fun c q _ _ _ => mup_o q, fun i _ => by rw [mup_o (by decide)], fun i _ _ _ q _ => mup_n (Or.inr q)⟩
    rw [bd_e (c_next hc h16.1)]
    have e17 : mup s 236 16 ((nO W + 1 : Nat) : Int) 236 17 = nB W := by rw [mup_n (Or.inr (by decide))]; exact w4
    rcases hv with rfl | rfl
    · rw [if_neg (by omega)]
      have nb : nB ((17 : Int) :: W) = nB W := by
        show (if (17 : Int) = 40 then 1 else 0) + nB W = _
        rw [if_neg (by decide)]
        omega
      exact go _ h16 (by rw [mup_o (by decide)]; exact w1) (by rw [mup_n (Or.inr (by decide))]; exact w2) (mup_e rfl rfl) (by rw [nb]; exact e17) f16
    · rw [if_pos hx, e17, wr_s (by omega), lm_s]
      have nb : nB ((40 : Int) :: W) = nB W + 1 := by
        show (if (40 : Int) = 40 then 1 else 0) + nB W = _
        rw [if_pos rfl]
        omega
      exact go _ (h16.sc (fun c hc => mup_o (by omega)) ⟨mup_n (Or.inr (by decide)), mup_n (Or.inr (by decide)), by rw [mup_o (by decide)]⟩ (fun _ _ => rfl) ⟨rfl, rfl⟩) (by rw [mup_o (by decide), mup_o (by decide)]; exact w1) (by rw [mup_n (Or.inr (by decide)), mup_n (Or.inr (by decide))]; exact w2) (by rw [mup_n (Or.inr (by decide)), mup_e rfl rfl]) (by rw [nb]; exact mup_e rfl rfl) (f16.tr ⟨fun c q _ _ _ => mup_o q, fun i _ => by rw [mup_o (by decide)], fun i _ _ _ _ q => mup_n (Or.inr q)⟩)
end

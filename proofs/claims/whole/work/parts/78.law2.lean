/-! ===== L3: texts: THE LAW: a B whole, a line ===== -/
def TwoT (o1 o2 : Res) (s t : Mem) (Q : Mem → Mem → Prop) : Prop := (∃ s1 t1 : Mem, o1 = some (1, s1) ∧ o2 = some (1, t1) ∧ FTc s s1 ∧ FTm t t1 ∧ Q s1 t1) ∨ (∃ s1 t1 : Mem, o1 = some (0, s1) ∧ o2 = some (0, t1) ∧ Er s1 t1 ∧ FD s s1 ∧ FM t t1)
theorem TwoL.d {o1 o2 : Res} {s t : Mem} {k1 k2 : Int → Mem → Res} {P Q : Mem → Mem → Prop} (h : TwoL o1 o2 s t P) (h1 : ∀ s1 : Mem, k1 0 s1 = some (0, s1)) (h2 : ∀ t1 : Mem, k2 0 t1 = some (0, t1)) (hk : ∀ s1 t1 : Mem, FSc s s1 → FSm t t1 → P s1 t1 → Two (k1 1 s1) (k2 1 t1) s1 t1 Q) : Two (bd o1 k1) (bd o2 k2) s t Q := by
  rcases h with ⟨s1, t1, a1, a2, a3, a4, a5⟩ | ⟨s1, t1, a1, a2, a3, a4, a5⟩
  · rw [bd_e a1, bd_e a2]
    exact (hk s1 t1 a3 a4 a5).fr a3.fc a4.fm
  · rw [bd_e a1, bd_e a2]
    exact Or.inr ⟨s1, t1, h1 s1, h2 t1, a3, a4, a5⟩
theorem TwoT.d {o1 o2 : Res} {s t : Mem} {k1 k2 : Int → Mem → Res} {P Q : Mem → Mem → Prop} (h : TwoT o1 o2 s t P) (h1 : ∀ s1 : Mem, k1 0 s1 = some (0, s1)) (h2 : ∀ t1 : Mem, k2 0 t1 = some (0, t1)) (hk : ∀ s1 t1 : Mem, FTc s s1 → FTm t t1 → P s1 t1 → Two (k1 1 s1) (k2 1 t1) s1 t1 Q) : Two (bd o1 k1) (bd o2 k2) s t Q := by
  rcases h with ⟨s1, t1, a1, a2, a3, a4, a5⟩ | ⟨s1, t1, a1, a2, a3, a4, a5⟩
  · rw [bd_e a1, bd_e a2]
    exact (hk s1 t1 a3 a4 a5).fr a3.fc a4.fm
  · rw [bd_e a1, bd_e a2]
    exact Or.inr ⟨s1, t1, h1 s1, h2 t1, a3, a4, a5⟩
section
variable {T : List Tk} {B : Int → Int} {L : Nat} {s t : Mem} {x : Tk} {R : List Tk} {K : List Int} {G : List Sg}
theorem nB_lo : ∀ (P : List Int), (∀ p ∈ P, 15 ≤ p ∧ p ≤ 16) → nB (P ++ []) = 0
  | [], _ => rfl
  | p :: P, h => by
    have ih := nB_lo P (fun q hq => h q (List.mem_cons_of_mem _ hq))
    have := h p List.mem_cons_self
    show (if p = 40 then 1 else 0) + nB (P ++ []) = 0
    rw [if_neg (by omega), ih]
theorem l_cond (hc : PC T B L 0) (h : SL T B L s t (x :: R) K G) (h24 : t 0 24 = 0) (hK : K.length + (x :: R).length ≤ T.length) (hG : G.length + (x :: R).length ≤ T.length) : TwoT (f_X7_condition 236 s) (f_X12_any 0 t) s t (fun s1 t1 => ∃ (E : List Sg) (R' : List Tk), ExB 10 E ∧ SL T B L s1 t1 R' (K ++ trs E) (G ++ E) ∧ (K ++ trs E).length + R'.length ≤ T.length ∧ (G ++ E).length + R'.length ≤ T.length ∧ R'.length ≤ R.length) := by
  have hT := hc.2.2.1
  have lx : (x :: R).length = R.length + 1 := List.length_cons
  have hs0 : SL T B L (mup (mup (mup s 236 15 0) 236 16 0) 236 17 0) t (x :: R) K G := h.sc (fun c hc => by rw [mup_o (by omega), mup_o (by omega), mup_o (by omega)]) ⟨by rw [mup_n (Or.inr (by decide)), mup_n (Or.inr (by decide)), mup_n (Or.inr (by decide))], by rw [mup_n (Or.inr (by decide)), mup_n (Or.inr (by decide)), mup_n (Or.inr (by decide))], by rw [mup_o (by decide), mup_o (by decide), mup_o (by decide)]⟩ (fun _ _ => rfl) ⟨rfl, rfl⟩
  have hw0 : WS (mup (mup (mup s 236 15 0) 236 16 0) 236 17 0) [] := ⟨trivial, by rw [mup_n (Or.inr (by decide)), mup_n (Or.inr (by decide)), mup_e rfl rfl]; rfl, by rw [mup_n (Or.inr (by decide)), mup_e rfl rfl]; rfl, mup_e rfl rfl, by decide⟩
  have hf0 : FTc s (mup (mup (mup s 236 15 0) 236 16 0) 236 17 0) := ⟨fun c q1 q2 q3 q4 => by rw [mup_o q1, mup_o q1, mup_o q1], fun i _ => by rw [mup_o (by decide), mup_o (by decide), mup_o (by decide)], fun i q1 q2 q3 q4 q5 => by rw [mup_n (Or.inr q5), mup_n (Or.inr q4), mup_n (Or.inr q3)]⟩
  obtain ⟨i, i1, i2, i3, i4, i5, i6, i7⟩ := hs0.1.at hc
  rw [cnd_b]
  generalize mup (mup (mup s 236 15 0) 236 16 0) 236 17 0 = s0 at *
  have hFU : R.length + 3 < FU := fu_lt (by omega)
  obtain ⟨n, hn⟩ : ∃ n, FU = n + 1 := ⟨FU - 1, by omega⟩
  have hcnd : CND FU 0 s0 = OPN FU ((0 : Nat) : Int) n ((0 : Nat) : Int) s0 := by
    rw [show CND FU 0 s0 = CND (n + 1) 0 s0 by rw [← hn], cnd_s, i3, if_pos (by omega)]
    rfl
  have nx := any_lv hc (every_lv hc (one_lv (one_all hc 12 0 (by decide)))) [] s0 t x R K G FU 0 n 0 (Nat.zero_le _) (Nat.zero_le _) trivial (by decide) hs0 hw0 (by rw [h24]; rfl) ⟨by omega, by omega, by omega, by omega⟩ hK hG
  unfold f_X12_any
  rw [hcnd]
  rcases nx with ⟨s1, t1, a1, a2, a3, R', q0, E, P, K', m', c3, n', c', q1, q2, q3, q4, q5, q6, q7, q8, q9, q10, q11⟩ | ⟨s1, t1, a0, a1, a2, a3, a4⟩
  · obtain ⟨w, R4, ew⟩ := q4.1.ne
    subst ew
    have lw : (w :: R4).length = R4.length + 1 := List.length_cons
    have l5 : K'.length + P.length = (K ++ trs E).length := by
      rw [← q5, List.length_append]
      unfold opsW
      rw [List.length_map]
    have q9' : (K ++ trs E).length + (w :: R4).length ≤ T.length := q9
    have q10' : (G ++ E).length + (w :: R4).length ≤ T.length := q10
    have q11' := q11 w R4 rfl
    obtain ⟨s3, v1, v2, v3, v4, v5⟩ := cEnd_b hc q4 q7 q6 trivial (by omega)
    have v6 := v4 rfl
    rw [q5] at v1
    have hb17 : s1 236 17 = 0 := by
      rw [q7.2.2.2.1, nB_lo P q6]
      rfl
    refine Or.inl ⟨s3, t1, ?_, a1, (hf0.tr a2).tr v3, a3, E, w :: R4, q3, v1, q9', q10', q0⟩
    rw [q1, cls_no hc q4 (Or.inr hb17) (by have := q2.1; omega) q2.2.1, cA_s hc q4, if_neg (by omega), if_neg (by omega), v6]
  · exact Or.inr ⟨s1, t1, a0, a1, a2, hf0.fc.tl a3, a4⟩
theorem law_all : (List.range 63).all (fun x => decide (TokD (x : Int) → ((20 ≤ tkm 0 (x : Int) ∧ tkm 0 (x : Int) ≤ 23) ↔ (10 ≤ (x : Int) ∧ (x : Int) ≤ 13)) ∧ ((10 ≤ (x : Int) ∧ (x : Int) ≤ 13) → tkm 0 (x : Int) = x + 10))) = true := by decide +kernel
theorem law_tk {x : Int} (hx : TokD x) : ((20 ≤ tkm 0 x ∧ tkm 0 x ≤ 23) ↔ (10 ≤ x ∧ x ≤ 13)) ∧ ((10 ≤ x ∧ x ≤ 13) → tkm 0 x = x + 10) := by
  have xi : 0 ≤ x ∧ x < 63 := by omega
  have ex : ((x.toNat : Nat) : Int) = x := by omega
  have q := of_decide_eq_true (List.all_eq_true.mp law_all x.toNat (List.mem_range.mpr (by omega)))
  rw [ex] at q
  exact q hx
end
def cods : List Lin → List Int
  | [] => []
  | l :: r => trs l.2.1 ++ (trs l.2.2 ++ cods r)
def stps : List Lin → List Sg
  | [] => []
  | l :: r => l.2.1 ++ (l.2.2 ++ stps r)
def LA (f1 f2 f3 : Int → Int) : Int → Int → List Lin → Prop
  | _, _, [] => True
  | i, p, l :: r => f1 i = l.1 - 10 ∧ f2 i = p + (trs l.2.1).length ∧ f3 i = p + (trs l.2.1).length + (trs l.2.2).length ∧ LA f1 f2 f3 (i + 1) (p + (trs l.2.1).length + (trs l.2.2).length) r
def MA (f : Int → Int) : Int → Int → List Lin → Prop
  | _, _, [] => True
  | i, p, l :: r => f (4 * i + 3) = l.1 ∧ f (4 * i) = p ∧ f (4 * i + 1) = p + l.2.1.length ∧ f (4 * i + 2) = p + l.2.1.length + l.2.2.length ∧ MA f (i + 1) (p + l.2.1.length + l.2.2.length) r
theorem cods_app : ∀ (a b : List Lin), cods (a ++ b) = cods a ++ cods b
  | [], _ => rfl
  | l :: a, b => by
    show trs l.2.1 ++ (trs l.2.2 ++ cods (a ++ b)) = (trs l.2.1 ++ (trs l.2.2 ++ cods a)) ++ cods b
    rw [cods_app a b]
    simp only [List.append_assoc]
theorem stps_app : ∀ (a b : List Lin), stps (a ++ b) = stps a ++ stps b
  | [], _ => rfl
  | l :: a, b => by
    show l.2.1 ++ (l.2.2 ++ stps (a ++ b)) = (l.2.1 ++ (l.2.2 ++ stps a)) ++ stps b
    rw [stps_app a b]
    simp only [List.append_assoc]
theorem cods_len (l : Lin) (r : List Lin) : ((cods (l :: r)).length : Int) = ((trs l.2.1).length : Int) + (trs l.2.2).length + (cods r).length := by
  show (((trs l.2.1 ++ (trs l.2.2 ++ cods r)).length : Nat) : Int) = _
  rw [List.length_append, List.length_append]
  omega
theorem stps_len (l : Lin) (r : List Lin) : ((stps (l :: r)).length : Int) = (l.2.1.length : Int) + l.2.2.length + (stps r).length := by
  show (((l.2.1 ++ (l.2.2 ++ stps r)).length : Nat) : Int) = _
  rw [List.length_append, List.length_append]
  omega
theorem LA_app {f1 f2 f3 : Int → Int} {l : Lin} : ∀ (r : List Lin) (i p : Int), LA f1 f2 f3 i p r → f1 (i + r.length) = l.1 - 10 → f2 (i + r.length) = p + (cods r).length + (trs l.2.1).length → f3 (i + r.length) = p + (cods r).length + (trs l.2.1).length + (trs l.2.2).length → LA f1 f2 f3 i p (r ++ [l])
  | [], i, p, _, h1, h2, h3 => by
    have e1 : i + (([] : List Lin).length : Int) = i := Int.add_zero i
    have e2 : p + ((cods []).length : Int) = p := Int.add_zero p
    rw [e1] at h1 h2 h3
    rw [e2] at h2 h3
    exact ⟨h1, h2, h3, trivial⟩
  | c :: r, i, p, h, h1, h2, h3 => by
    have e1 : i + ((c :: r).length : Int) = i + 1 + (r.length : Int) := by rw [List.length_cons]; omega
    have e2 : p + ((cods (c :: r)).length : Int) = p + (trs c.2.1).length + (trs c.2.2).length + (cods r).length := by rw [cods_len]; omega
    rw [e1] at h1 h2 h3
    rw [e2] at h2 h3
    exact ⟨h.1, h.2.1, h.2.2.1, LA_app r (i + 1) _ h.2.2.2 h1 h2 h3⟩
theorem MA_app {f : Int → Int} {l : Lin} : ∀ (r : List Lin) (i p : Int), MA f i p r → f (4 * (i + r.length) + 3) = l.1 → f (4 * (i + r.length)) = p + (stps r).length → f (4 * (i + r.length) + 1) = p + (stps r).length + l.2.1.length → f (4 * (i + r.length) + 2) = p + (stps r).length + l.2.1.length + l.2.2.length → MA f i p (r ++ [l])
  | [], i, p, _, h1, h2, h3, h4 => by
    have e1 : i + (([] : List Lin).length : Int) = i := Int.add_zero i
    have e2 : p + ((stps []).length : Int) = p := Int.add_zero p
    rw [e1] at h1 h2 h3 h4
    rw [e2] at h2 h3 h4
    exact ⟨h1, h2, h3, h4, trivial⟩
  | c :: r, i, p, h, h1, h2, h3, h4 => by
    have e1 : i + ((c :: r).length : Int) = i + 1 + (r.length : Int) := by rw [List.length_cons]; omega
    have e2 : p + ((stps (c :: r)).length : Int) = p + c.2.1.length + c.2.2.length + (stps r).length := by rw [stps_len]; omega
    rw [e1] at h1 h2 h3 h4
    rw [e2] at h2 h3 h4
    exact ⟨h.1, h.2.1, h.2.2.1, h.2.2.2.1, MA_app r (i + 1) _ h.2.2.2.2 h1 h2 h3 h4⟩
theorem LA_cg {f1 f2 f3 g1 g2 g3 : Int → Int} {hi : Int} (q1 : ∀ i : Int, i < hi → g1 i = f1 i) (q2 : ∀ i : Int, i < hi → g2 i = f2 i) (q3 : ∀ i : Int, i < hi → g3 i = f3 i) : ∀ (r : List Lin) (i p : Int), i + r.length ≤ hi → LA f1 f2 f3 i p r → LA g1 g2 g3 i p r
  | [], _, _, _, _ => trivial
  | l :: r, i, p, h1, h => by
    have e : ((l :: r).length : Int) = (r.length : Int) + 1 := by rw [List.length_cons]; omega
    exact ⟨by rw [q1 i (by omega)]; exact h.1, by rw [q2 i (by omega)]; exact h.2.1, by rw [q3 i (by omega)]; exact h.2.2.1, LA_cg q1 q2 q3 r (i + 1) _ (by omega) h.2.2.2⟩
theorem MA_cg {f g : Int → Int} {hi : Int} (q : ∀ i : Int, i < 4 * hi → g i = f i) : ∀ (r : List Lin) (i p : Int), i + r.length ≤ hi → MA f i p r → MA g i p r
  | [], _, _, _, _ => trivial
  | l :: r, i, p, h1, h => by
    have e : ((l :: r).length : Int) = (r.length : Int) + 1 := by rw [List.length_cons]; omega
    exact ⟨by rw [q _ (by omega)]; exact h.1, by rw [q _ (by omega)]; exact h.2.1, by rw [q _ (by omega)]; exact h.2.2.1, by rw [q _ (by omega)]; exact h.2.2.2.1, MA_cg q r (i + 1) _ (by omega) h.2.2.2.2⟩
/-- the lines read so far, of THE LAW -/
def LI (T : List Tk) (B : Int → Int) (L : Nat) (R : List Tk) (lw : List Lin) (s t : Mem) : Prop := SL T B L s t R (cods lw) (stps lw) ∧ (s 237 4 = lw.length ∧ lw.length ≤ 16 ∧ LA (s 238) (s 239) (s 240) 0 0 lw) ∧ (t 0 13 = lw.length ∧ MA (t 5) 0 0 lw) ∧ (∀ l ∈ lw, OkL l) ∧ (cods lw).length + R.length ≤ T.length ∧ (stps lw).length + R.length ≤ T.length
section
variable {T : List Tk} {B : Int → Int} {L : Nat} {s t : Mem} {x : Tk} {R : List Tk} {K : List Int} {G : List Sg}
theorem l_shut (hc : PC T B L 0) (h : SL T B L s t (x :: R) K G) {w mid : Int} {n : Nat} (hn : s 237 4 = n) (hn16 : n < 16) :
    Two (bd (f_X7_passes 236 59 s) fun r17 s18 => if r17 = 0 then (some (0, s18)) else (bd (f_X2_closeLine (236 + 1) w mid s18) fun _ s21 => some (1, s21))) (bd (f_X12_need 0 159 t) fun r s => some (r, s)) s t (fun s1 t1 => SL T B L s1 t1 R K G ∧ s1 238 = up (s 238) n w ∧ s1 239 = up (s 239) n mid ∧ s1 240 = up (s 240) n K.length ∧ s1 237 4 = (n + 1 : Nat) ∧ t1 5 = t 5 ∧ t1 0 13 = t 0 13) := by
  have hT := hc.2.2.1
  refine Two.b (t_pass hc h.1 (c := 59) (m := 159) (by decide) rfl (by decide) (by decide)) (fun s => if_pos rfl) (fun t => rfl) (fun s1 t1 f1 g1 ⟨a1, a2, a3⟩ => ?_)
  subst a2
  have e4 : adv s 237 4 = n := by rw [adv_r (by decide)]; exact hn
  have e5 : adv s 237 5 = K.length := by rw [adv_r (by decide)]; exact h.2.1.2
  rw [if_neg (show ¬ (1 : Int) = 0 by decide)]
  unfold f_X2_closeLine
  simp only [Nat.reduceAdd]
  have m1 : mup (adv s) 238 (n : Int) w 237 = adv s 237 := mup_o (by decide)
  have m2 : mup (mup (adv s) 238 (n : Int) w) 239 (n : Int) mid 237 = adv s 237 := (mup_o (by decide)).trans m1
  have m3 : mup (mup (mup (adv s) 238 (n : Int) w) 239 (n : Int) mid) 240 (n : Int) (K.length : Int) 237 = adv s 237 := (mup_o (by decide)).trans m2
  rw [e4, if_pos (by omega), gd_t (by omega), lm_s, m1, e4, gd_t (by omega), lm_s, m2, e4, gd_t (by omega), e5, lm_s, m3, e4, wr_s (by omega), lm_s, bd_s]
  refine Two.ok rfl rfl ?_ (FM.rf t1) ⟨⟨a1.sc ?_ ⟨?_, ?_⟩ (fun _ _ => rfl) rfl, ⟨?_, ?_⟩, ?_, ?_⟩, ?_, ?_, ?_, mup_e rfl rfl, a3.1 5 (by decide), a3.2 13 (by decide) (by decide) (by decide) (by decide)⟩
  · exact ⟨fun c hc => by rw [mup_o (by omega), mup_o (by omega), mup_o (by omega), mup_o (by omega)], by rw [mup_o (by decide), mup_o (by decide), mup_o (by decide), mup_o (by decide)], by rw [mup_o (by decide), mup_o (by decide), mup_o (by decide), mup_o (by decide)], by rw [mup_o (by decide), mup_o (by decide), mup_o (by decide), mup_o (by decide)]⟩
  · exact fun c hc => by rw [mup_o (by omega), mup_o (by omega), mup_o (by omega), mup_o (by omega)]
  · rw [mup_o (by decide), mup_o (by decide), mup_o (by decide), mup_o (by decide)]
  · rw [mup_o (by decide), mup_o (by decide), mup_o (by decide), mup_o (by decide)]
  · rw [mup_o (by decide), mup_o (by decide), mup_o (by decide), mup_o (by decide), adv_r (by decide)]
    exact h.2.1.1
  · rw [mup_n (Or.inr (by decide)), mup_o (by decide), mup_o (by decide), mup_o (by decide)]
    exact e5
  · rw [a3.1 6 (by decide)]
    exact h.2.2.1
  · rw [a3.2 14 (by decide) (by decide) (by decide) (by decide)]
    exact h.2.2.2
  · rw [mup_o (by decide), mup_o (by decide), mup_o (by decide), mup_row, adv_r (by decide)]
  · rw [mup_o (by decide), mup_o (by decide), mup_row, mup_o (by decide), adv_r (by decide)]
  · rw [mup_o (by decide), mup_row, mup_o (by decide), mup_o (by decide), adv_r (by decide)]
end

/-! ===== L3: texts: THE LAW: what waits ===== -/
theorem Dp_ne {E : List Sg} {d : Nat} (h : Dp E d (d + 1)) : 1 ≤ E.length := by
  cases E with
  | nil =>
    have h1 : d + 1 = d := h
    omega
  | cons q E => exact Nat.succ_le_succ (Nat.zero_le _)
section
variable {T : List Tk} {B : Int → Int} {L : Nat}
theorem l_esum (hc : PC T B L 0) {s t : Mem} {x : Tk} {R : List Tk} {K : List Int} {G : List Sg} (h : SL T B L s t (x :: R) K G) (hK : K.length + (R.length + 1) ≤ T.length) (hG : G.length + (R.length + 1) ≤ T.length) : TwoL (f_X7_sum 236 s) (f_X12_sumUp 0 t) s t (fun s1 t1 => ∃ (E : List Sg) (R' : List Tk), ExN 29 E ∧ SL T B L s1 t1 R' (K ++ trs E) (G ++ E) ∧ (K ++ trs E).length + R'.length ≤ K.length + (R.length + 1) ∧ (G ++ E).length + R'.length ≤ G.length + (R.length + 1) ∧ R'.length ≤ R.length) := by
  have hT := hc.2.2.1
  unfold f_X7_sum f_X12_sumUp f_X12_product
  rw [bd_a]
  refine TwoL.b (l_fac hc h hK hG) (fun s => by rw [if_pos rfl]) (fun t => by rw [if_pos rfl, bd_s, if_pos rfl]) (fun s1 t1 f1 g1 ⟨q, q1, q2, q3⟩ => ?_)
  have lq : (K ++ tr q).length = K.length + 1 := by rw [List.length_append, q3]
  have lg : (G ++ [q]).length = G.length + 1 := by rw [List.length_append]; rfl
  obtain ⟨y, R2, e⟩ := q2.1.ne
  subst e
  have ly : (y :: R2).length = R2.length + 1 := List.length_cons
  have eK : K ++ tr q = K ++ trs ([] ++ [q]) := by rw [List.nil_append, trs_1]
  have eG : G ++ [q] = G ++ ([] ++ [q]) := by rw [List.nil_append]
  rw [eK, eG] at q2
  rw [eK] at lq
  rw [eG] at lg
  have hF : R2.length + 1 ≤ FU := Nat.le_of_lt (fu_lt (by omega))
  have nx := l_sl hc (k174 := fun s4 => bd (f_X7_refuse 236 1 s4) fun r5 s6 => some (r5, s6)) (R2.length + 1) FU FU FU 0 0 s1 t1 y R2 [] [q] K G (by omega) (by omega) hF hF hF (by omega) q2 (Or.inl ⟨rfl, rfl⟩) ((Ex_u q1).le (by decide)) (by show _ + 0 + _ ≤ _; omega) (by show _ + 0 + _ ≤ _; omega)
  have z0 : ((0 : Nat) : Int) = 0 := rfl
  have h0 : hOf 0 = 0 := rfl
  have s0 : sgn 0 = 0 := rfl
  rw [z0, h0, MS_0, s0] at nx
  rw [if_neg (show ¬ (1 : Int) = 0 by decide), if_neg (show ¬ (1 : Int) = 0 by decide), jn_s, jn_s, jn_s]
  refine nx.im (fun s5 t5 ⟨E, R', v1, v2, v3, v4⟩ => ⟨E, R', v1, v2, by omega, by omega, ?_⟩)
  have e1 := Dp_ne (v1.1 0 (by decide))
  rw [List.length_append] at v4
  omega
end
def nO : List Int → Nat
  | [] => 0
  | w :: r => (if w = 17 ∨ w = 40 then 1 else 0) + nO r
def nB : List Int → Nat
  | [] => 0
  | w :: r => (if w = 40 then 1 else 0) + nB r
theorem nB_le : ∀ W : List Int, nB W ≤ nO W
  | [] => Nat.le_refl 0
  | w :: r => by
    have ih := nB_le r
    show (if w = 40 then 1 else 0) + nB r ≤ (if w = 17 ∨ w = 40 then 1 else 0) + nO r
    by_cases c : w = 40
    · rw [if_pos c, if_pos (Or.inr c)]
      omega
    · rw [if_neg c]
      omega
theorem nO_len : ∀ W : List Int, nO W ≤ W.length
  | [] => Nat.le_refl 0
  | w :: r => by
    have ih := nO_len r
    have e : (w :: r).length = r.length + 1 := List.length_cons
    show (if w = 17 ∨ w = 40 then 1 else 0) + nO r ≤ (w :: r).length
    split <;> omega
/-- what waits in the class, the last first -/
def WS (s : Mem) (W : List Int) : Prop := PR (s 260) W ∧ s 236 15 = W.length ∧ s 236 16 = nO W ∧ s 236 17 = nB W ∧ W.length ≤ 32
def FTc (s s1 : Mem) : Prop := (∀ c : Nat, c ≠ 236 → c ≠ 237 → c ≠ 241 → c ≠ 260 → s1 c = s c) ∧ (∀ i : Int, i ≠ 5 → s1 237 i = s 237 i) ∧ ∀ i : Int, i ≠ 12 → i ≠ 13 → i ≠ 15 → i ≠ 16 → i ≠ 17 → s1 236 i = s 236 i
def FTm (t t1 : Mem) : Prop := (∀ c : Nat, c ≠ 0 → c ≠ 6 → t1 c = t c) ∧ ∀ i : Int, i ≠ 14 → i ≠ 17 → i ≠ 18 → i ≠ 19 → i ≠ 20 → i ≠ 24 → t1 0 i = t 0 i
theorem FTc.rf (s : Mem) : FTc s s := ⟨fun _ _ _ _ _ => rfl, fun _ _ => rfl, fun _ _ _ _ _ _ => rfl⟩
theorem FTm.rf (t : Mem) : FTm t t := ⟨fun _ _ _ => rfl, fun _ _ _ _ _ _ _ => rfl⟩
theorem FTc.tr {s s1 s2 : Mem} (a : FTc s s1) (b : FTc s1 s2) : FTc s s2 := ⟨fun c x y z w => (b.1 c x y z w).trans (a.1 c x y z w), fun i x => (b.2.1 i x).trans (a.2.1 i x), fun i x y z u v => (b.2.2 i x y z u v).trans (a.2.2 i x y z u v)⟩
theorem FTm.tr {s s1 s2 : Mem} (a : FTm s s1) (b : FTm s1 s2) : FTm s s2 := ⟨fun c x y => (b.1 c x y).trans (a.1 c x y), fun i x y z u v w => (b.2 i x y z u v w).trans (a.2 i x y z u v w)⟩
theorem FSc.ft {s s1 : Mem} (a : FSc s s1) : FTc s s1 := ⟨fun c x y z _ => a.1 c x y z, a.2.1, fun i x y _ _ _ => a.2.2 i x y⟩
theorem FSm.ft {s s1 : Mem} (a : FSm s s1) : FTm s s1 := ⟨a.1, fun i x y z u v _ => a.2 i x y z u v⟩
theorem FTc.fc {s s1 : Mem} (a : FTc s s1) : FC s s1 := ⟨fun c hc => a.1 c (by omega) (by omega) (by omega) (by omega), a.2.2 4 (by decide) (by decide) (by decide) (by decide) (by decide), a.2.2 5 (by decide) (by decide) (by decide) (by decide) (by decide), a.2.2 6 (by decide) (by decide) (by decide) (by decide) (by decide)⟩
theorem FTm.fm {s s1 : Mem} (a : FTm s s1) : FM s s1 := ⟨fun c x _ y _ => a.1 c x y, fun i hi => a.2 i (by omega) (by omega) (by omega) (by omega) (by omega) (by omega)⟩
theorem WS.fs {s s1 : Mem} {W : List Int} (h : WS s W) (f : FSc s s1) : WS s1 W := by
  obtain ⟨h1, h2, h3, h4, h5⟩ := h
  exact ⟨by rw [f.1 260 (by decide) (by decide) (by decide)]; exact h1, (f.2.2 15 (by decide) (by decide)).trans h2, (f.2.2 16 (by decide) (by decide)).trans h3, (f.2.2 17 (by decide) (by decide)).trans h4, h5⟩
def Sto (k : Int) : List Int → Prop
  | [] => True
  | w :: _ => w = 40 ∨ w < k
def opsW (P : List Int) : List Int := P.map (fun p => 20000 + p)
section
variable {T : List Tk} {B : Int → Int} {L : Nat}
theorem SL.sc {s t s1 t1 : Mem} {R : List Tk} {K : List Int} {G : List Sg} (h : SL T B L s t R K G) (q1 : ∀ c : Nat, (c = 257 ∨ c = 258 ∨ c = 259 ∨ c = 241) → s1 c = s c) (q2 : s1 236 11 = s 236 11 ∧ s1 236 12 = s 236 12 ∧ s1 237 5 = s 237 5) (q3 : ∀ i : Int, (i = 12 ∨ i = 14 ∨ i = 16 ∨ i = 17 ∨ i = 18 ∨ i = 19 ∨ i = 20) → t1 0 i = t 0 i) (q4 : t1 8 = t 8 ∧ t1 6 = t 6) : SL T B L s1 t1 R K G := by
  obtain ⟨h1, ⟨h2, h3⟩, h4, h5⟩ := h
  exact ⟨h1.sc (fun c hc => q1 c (by omega)) ⟨q2.1, q2.2.1⟩ (fun i hi => q3 i (by omega)) q4.1, ⟨by rw [q1 241 (by decide)]; exact h2, q2.2.2.trans h3⟩, by rw [q4.2]; exact h4, (q3 14 (by decide)).trans h5⟩
theorem l_set {k : Int} : ∀ (P W : List Int) (s t : Mem) (R : List Tk) (K : List Int) (G : List Sg) (n : Nat), SL T B L s t R K G → WS s (P ++ W) → (∀ p ∈ P, p ≠ 40 ∧ k ≤ p ∧ 0 ≤ p ∧ p ≤ 100) → Sto k W → K.length + P.length ≤ 400 → P.length < n →
    ∃ s1 : Mem, f_X7_settle_5 236 k n ((P ++ W).length : Int) s = some (0, s1) ∧ SL T B L s1 t R (K ++ opsW P) G ∧ WS s1 W ∧ FTc s s1 := by
  intro P
  induction P with
  | nil =>
    intro W s t R K G n h hw hp hs hK hn
    cases n with
    | zero => exact absurd hn (Nat.not_lt_zero _)
    | succ n =>
      rw [f_X7_settle_5]
      have hl := hw.2.2.2.2
      have e0 : K ++ opsW [] = K := List.append_nil K
      rw [List.nil_append] at hw hl ⊢
      rw [e0]
      cases W with
      | nil =>
        rw [if_neg (show ¬ (0 : Int) < (([] : List Int).length : Int) by decide)]
        exact ⟨s, rfl, h, hw, FTc.rf s⟩
      | cons w W =>
        have lw : ((w :: W).length : Int) = (W.length : Int) + 1 := by rw [List.length_cons]; omega
        have lw' : (w :: W).length = W.length + 1 := List.length_cons
        have e1 : (W.length : Int) + 1 - 1 = W.length := by omega
        have ew : s (236 + 24) (W.length : Int) = w := hw.1.1
        rw [lw, if_pos (by omega), wr_n (x := (W.length : Int) + 1 - 1) (by omega), e1, gd_t (by omega), gd_t (by omega), ew]
        by_cases c1 : w = 40
        · rw [if_pos c1]
          exact ⟨s, rfl, h, hw, FTc.rf s⟩
        · rw [if_neg c1, if_pos (hs.resolve_left c1)]
          exact ⟨s, rfl, h, hw, FTc.rf s⟩
  | cons p P ih =>
    intro W s t R K G n h hw hp hs hK hn
    cases n with
    | zero => exact absurd hn (Nat.not_lt_zero _)
    | succ n =>
      rw [f_X7_settle_5]
      have lp : (p :: P).length = P.length + 1 := List.length_cons
      have hpp := hp p List.mem_cons_self
      have eA : p :: P ++ W = p :: (P ++ W) := rfl
      rw [eA] at hw ⊢
      obtain ⟨w1, w2, w3, w4, w5⟩ := hw
      have lw : ((p :: (P ++ W)).length : Int) = ((P ++ W).length : Int) + 1 := by rw [List.length_cons]; omega
      have lw' : (p :: (P ++ W)).length = (P ++ W).length + 1 := List.length_cons
      have e1 : ((P ++ W).length : Int) + 1 - 1 = (P ++ W).length := by omega
      have e1' : ((P ++ W).length : Int) + 1 + -1 = (P ++ W).length := by omega
      have ew : s (236 + 24) ((P ++ W).length : Int) = p := w1.1
      obtain ⟨s1, a1, a2, a3⟩ := h.put (by omega) (20000 + p)
      have ew1 : s1 (236 + 24) ((P ++ W).length : Int) = p := by rw [a3.1 260 (by decide) (by decide) (by decide)]; exact ew
      have e15 : s1 236 15 = ((P ++ W).length : Int) + 1 := (a3.2.2 15 (by decide) (by decide)).trans (w2.trans lw)
      have e16 : s1 236 16 = nO (p :: (P ++ W)) := (a3.2.2 16 (by decide) (by decide)).trans w3
      have e17 : s1 236 17 = nB (p :: (P ++ W)) := (a3.2.2 17 (by decide) (by decide)).trans w4
      have nb : nB (p :: (P ++ W)) = nB (P ++ W) := by
        show (if p = 40 then 1 else 0) + nB (P ++ W) = _
        rw [if_neg hpp.1, Nat.zero_add]
      rw [lw, if_pos (by omega), wr_n (x := ((P ++ W).length : Int) + 1 - 1) (by omega), e1, gd_t (by omega), gd_t (by omega), ew, if_neg hpp.1, if_neg (by omega), gd_t (by omega), wr_n (x := 20000 + p) (by omega), bd_e (show f_X2_put (236 + 1) (20000 + p) s = some (0, s1) from a1), gd_t (by omega), jn_s, ew1]
      have fin : ∀ s2 : Mem, SL T B L s2 t R (K ++ [20000 + p]) G → WS s2 (P ++ W) → FTc s s2 → ∃ s3 : Mem, f_X7_settle_5 236 k n (wr (((P ++ W).length : Int) + 1 + -1)) s2 = some (0, s3) ∧ SL T B L s3 t R (K ++ opsW (p :: P)) G ∧ WS s3 W ∧ FTc s s3 := by
        intro s2 q1 q2 q3
        obtain ⟨s3, z1, z2, z3, z4⟩ := ih W s2 t R (K ++ [20000 + p]) G n q1 q2 (fun x hx => hp x (List.mem_cons_of_mem _ hx)) hs (by rw [List.length_append]; show K.length + 1 + P.length ≤ 400; omega) (by omega)
        rw [wr_n (by omega), e1']
        have eo : K ++ [20000 + p] ++ opsW P = K ++ opsW (p :: P) := by
          rw [List.append_assoc]
          rfl
        rw [eo] at z2
        exact ⟨s3, z1, z2, z3, q3.tr z4⟩
      have pr1 : PR (s1 260) (P ++ W) := by
        rw [a3.1 260 (by decide) (by decide) (by decide)]
        exact w1.2
      by_cases c : p = 17
      · rw [if_pos c, lm_s]
        show ∃ s3 : Mem, lm _ _ = _ ∧ _
        have no : nO (p :: (P ++ W)) = 1 + nO (P ++ W) := by
          show (if p = 17 ∨ p = 40 then 1 else 0) + nO (P ++ W) = _
          rw [if_pos (Or.inl c)]
        have nl : nO (P ++ W) ≤ 400 := by
          have := nO_len (P ++ W)
          omega
        rw [mup_n (i' := 15) (Or.inr (by decide)), e15, e16, e1, wr_n (x := ((P ++ W).length : Int)) (by omega), lm_s]
        refine fin _ (a2.sc (fun c hc => by rw [mup_o (by omega), mup_o (by omega)]) ⟨?_, ?_, ?_⟩ (fun _ _ => rfl) ⟨rfl, rfl⟩) ⟨?_, ?_, ?_, ?_, by omega⟩ ?_
        · rw [mup_n (Or.inr (by decide)), mup_n (Or.inr (by decide))]
        · rw [mup_n (Or.inr (by decide)), mup_n (Or.inr (by decide))]
        · rw [mup_o (by decide), mup_o (by decide)]
        · rw [mup_o (by decide), mup_o (by decide)]
          exact pr1
        · rw [mup_e rfl rfl]
        · rw [mup_n (Or.inr (by decide)), mup_e rfl rfl, no, wr_n (by omega)]
          omega
        · rw [mup_n (Or.inr (by decide)), mup_n (Or.inr (by decide)), e17, nb]
        · exact a3.ft.tr ⟨fun c q1 q2 q3 q4 => by rw [mup_o q1, mup_o q1], fun i _ => by rw [mup_o (by decide), mup_o (by decide)], fun i q1 q2 q3 q4 q5 => by rw [mup_n (Or.inr q3), mup_n (Or.inr q4)]⟩
      · rw [if_neg c]
        show ∃ s3 : Mem, lm _ _ = _ ∧ _
        have no : nO (p :: (P ++ W)) = nO (P ++ W) := by
          show (if p = 17 ∨ p = 40 then 1 else 0) + nO (P ++ W) = _
          rw [if_neg (fun z => z.elim c hpp.1), Nat.zero_add]
        rw [e15, e1, wr_n (x := ((P ++ W).length : Int)) (by omega), lm_s]
        refine fin _ (a2.sc (fun c hc => by rw [mup_o (by omega)]) ⟨?_, ?_, ?_⟩ (fun _ _ => rfl) ⟨rfl, rfl⟩) ⟨?_, ?_, ?_, ?_, by omega⟩ ?_
        · rw [mup_n (Or.inr (by decide))]
        · rw [mup_n (Or.inr (by decide))]
        · rw [mup_o (by decide)]
        · rw [mup_o (by decide)]
          exact pr1
        · rw [mup_e rfl rfl]
        · rw [mup_n (Or.inr (by decide)), e16, no]
        · rw [mup_n (Or.inr (by decide)), e17, nb]
        · exact a3.ft.tr ⟨fun c q1 q2 q3 q4 => by rw [mup_o q1], fun i _ => by rw [mup_o (by decide)], fun i q1 q2 q3 q4 q5 => by rw [mup_n (Or.inr q3)]⟩
/-- it is put behind what waits -/
theorem l_hold {s t : Mem} {W : List Int} {R : List Tk} {K : List Int} {G : List Sg} (h : SL T B L s t R K G) (h1 : PR (s 260) W) (h2 : s 236 15 = W.length) (hl : W.length < 32) (v : Int) : ∃ s1 : Mem, f_X7_hold 236 v s = some (0, s1) ∧ SL T B L s1 t R K G ∧ PR (s1 260) (v :: W) ∧ s1 236 15 = (v :: W).length ∧ s1 236 16 = s 236 16 ∧ s1 236 17 = s 236 17 ∧ FTc s s1 := by
  unfold f_X7_hold
  have e2 : mup s (236 + 24) (W.length : Int) v 236 15 = W.length := by rw [mup_o (by decide)]; exact h2
  have e3 : ((v :: W).length : Int) = (W.length : Int) + 1 := by rw [List.length_cons]; omega
  rw [h2, if_pos (by omega), gd_t (by omega), lm_s, e2, wr_n (by omega), lm_s]
  simp only [Nat.reduceAdd]
  refine ⟨_, rfl, h.sc (fun c hc => by rw [mup_o (by omega), mup_o (by omega)]) ⟨?_, ?_, ?_⟩ (fun _ _ => rfl) ⟨rfl, rfl⟩, ?_, ?_, ?_, ?_, ?_⟩
  · rw [mup_n (Or.inr (by decide)), mup_o (by decide)]
  · rw [mup_n (Or.inr (by decide)), mup_o (by decide)]
  · rw [mup_o (by decide), mup_o (by decide)]
  · rw [mup_o (by decide), mup_row]
    exact PR_push h1
  · rw [mup_e rfl rfl, e3]
  · rw [mup_n (Or.inr (by decide)), mup_o (by decide)]
  · rw [mup_n (Or.inr (by decide)), mup_o (by decide)]
  · exact ⟨fun c q1 q2 q3 q4 => by rw [mup_o q1, mup_o q4], fun i _ => by rw [mup_o (by decide), mup_o (by decide)], fun i q1 q2 q3 q4 q5 => by rw [mup_n (Or.inr q3), mup_o (by decide)]⟩
end

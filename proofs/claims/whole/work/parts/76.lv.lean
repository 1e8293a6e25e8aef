/-! ===== L3: texts: THE LAW: a B, by its ranks ===== -/
def Bdg (T : List Tk) (m c n c' : Nat) (R : List Tk) : Prop := R.length < m ∧ c + R.length ≤ T.length ∧ R.length < n ∧ c' + R.length ≤ T.length
/-- the class at its loop of the closing brackets; what still waits there: P -/
def QL (T : List Tk) (B : Int → Int) (L : Nat) (k nx : Int) (S : List Int) (K : List Int) (G : List Sg) (N : Nat) (R' : List Tk) (o1 : Res) (s1 t1 : Mem) : Prop :=
  ∃ (E : List Sg) (P K' : List Int) (m c3 n c : Nat), o1 = CLS m (c3 : Int) n (c : Int) s1 ∧ Bdg T m c3 n c R' ∧ ExB N E ∧ SL T B L s1 t1 R' K' (G ++ E) ∧ K' ++ opsW P = K ++ trs E ∧ (∀ p ∈ P, k ≤ p ∧ p ≤ 16) ∧ WS s1 (P ++ S) ∧ t1 0 24 = nO S ∧ (K ++ trs E).length + S.length + R'.length ≤ T.length ∧ (G ++ E).length + S.length + R'.length ≤ T.length ∧ ∀ (y : Tk) (R2 : List Tk), R' = y :: R2 → ¬ (nx ≤ y.1 ∧ y.1 ≤ 16)
def QO (T : List Tk) (B : Int → Int) (L : Nat) (k : Nat) (S : List Int) (K : List Int) (G : List Sg) (N : Nat) (R' : List Tk) (o1 : Res) (s1 t1 : Mem) : Prop :=
  ∃ (E : List Sg) (m c3 n c : Nat), o1 = CLS m (c3 : Int) n (c : Int) s1 ∧ Bdg T m c3 n c R' ∧ ExB N E ∧ SL T B L s1 t1 R' (K ++ (trs E ++ List.replicate k 20017)) (G ++ E) ∧ WS s1 S ∧ t1 0 24 = (nO S + k : Nat) ∧ (K ++ (trs E ++ List.replicate k 20017)).length + S.length + R'.length ≤ T.length ∧ (G ++ E).length + k + S.length + R'.length ≤ T.length
def One (T : List Tk) (B : Int → Int) (L : Nat) (ro : Nat → Mem → Res) (D : Nat) : Prop := ∀ (k : Nat) (S : List Int) (s t : Mem) (x : Tk) (R : List Tk) (K : List Int) (G : List Sg) (m c2 n c : Nat), D ≤ nO S + k → nO S + k ≤ 8 → Sto 17 S → S.length ≤ nO S + 2 * nB S + 2 → SL T B L s t (x :: R) K G → WS s (List.replicate k 17 ++ S) → t 0 24 = (nO S + k : Nat) → Bdg T m c2 n c (x :: R) → K.length + k + S.length + (x :: R).length ≤ T.length → G.length + k + S.length + (x :: R).length ≤ T.length → TwoC (OPN m (c2 : Int) n (c : Int) s) (ro 0 t) s t (fun o s1 t1 => ∃ R' : List Tk, R'.length ≤ R.length ∧ QO T B L k S K G (12 + 2 * (nO S + k)) R' o s1 t1)
def Lv (T : List Tk) (B : Int → Int) (L : Nat) (f : Nat → Mem → Res) (k : Int) (e D : Nat) : Prop := ∀ (S : List Int) (s t : Mem) (x : Tk) (R : List Tk) (K : List Int) (G : List Sg) (m c2 n c : Nat), D ≤ nO S → nO S ≤ 8 → Sto k S → S.length + e ≤ nO S + 2 * nB S + 2 → SL T B L s t (x :: R) K G → WS s S → t 0 24 = nO S → Bdg T m c2 n c (x :: R) → K.length + S.length + (x :: R).length ≤ T.length → G.length + S.length + (x :: R).length ≤ T.length → TwoC (OPN m (c2 : Int) n (c : Int) s) (f 0 t) s t (fun o s1 t1 => ∃ R' : List Tk, R'.length ≤ R.length ∧ QL T B L k k S K G (12 - e + 2 * nO S) R' o s1 t1)
theorem one_lv {T : List Tk} {B : Int → Int} {L : Nat} {ro : Nat → Mem → Res} {D : Nat} (h : One T B L ro D) : Lv T B L ro 17 0 D := by
  intro S s t x R K G m c2 n c h1 h2 h3 h4 h5 h6 h7 h8 h9 h10
  refine (h 0 S s t x R K G m c2 n c h1 h2 h3 h4 h5 h6 h7 h8 h9 h10).im (fun s1 t1 ⟨R', q0, E, m', c3, n', c', q1, q2, q3, q4, q5, q6, q7, q8⟩ => ⟨R', q0, E, [], K ++ trs E, m', c3, n', c', q1, q2, q3, ?_, List.append_nil _, ?_, q5, q6, ?_, q8, ?_⟩)
  · have e : K ++ (trs E ++ List.replicate 0 20017) = K ++ trs E := by
      show K ++ (trs E ++ []) = _
      rw [List.append_nil]
    rw [e] at q4
    exact q4
  · intro p hp
    cases hp
  · have e : K ++ (trs E ++ List.replicate 0 20017) = K ++ trs E := by
      show K ++ (trs E ++ []) = _
      rw [List.append_nil]
    rw [e] at q7
    exact q7
  · intro y R2 _ z
    omega
section
variable {T : List Tk} {B : Int → Int} {L : Nat} {s t : Mem} {y : Tk} {R : List Tk} {K : List Int} {G : List Sg}
theorem cls_no (hc : PC T B L 0) (h : SL T B L s t (y :: R) K G) (hy : y.1 ≠ 41 ∨ s 236 17 = 0) {m c3 : Nat} (hm : 0 < m) (hb : c3 + (y :: R).length ≤ T.length) (n : Nat) (c : Int) : CLS m (c3 : Int) n c s = cA n c 0 s := by
  obtain ⟨i, i1, i2, i3, i4, i5, i6, i7⟩ := h.1.at hc
  have lx : (y :: R).length = R.length + 1 := List.length_cons
  cases m with
  | zero => exact absurd hm (Nat.lt_irrefl _)
  | succ m =>
    unfold CLS
    rw [f_X7_closes_8, i3, if_pos (by omega), bd_e (c_next hc h.1)]
    by_cases c1 : y.1 = 41
    · rw [if_pos c1, if_neg (by have := hy.resolve_left (fun z => z c1); omega), bd_s]
    · rw [if_neg c1, bd_s]
theorem cA_s (hc : PC T B L 0) (h : SL T B L s t (y :: R) K G) (n : Nat) (c : Int) : cA n c 0 s = if y.1 = 16 then cJ n c y.1 s else (if y.1 = 15 then cJ n c y.1 s else cEnd s) := by
  show bd (f_X7_next 236 s) _ = _
  rw [bd_e (c_next hc h.1)]
theorem l_joint (hc : PC T B L 0) {k : Int} (hk : k = 15 ∨ k = 16) (hy : y.1 = k) (h : SL T B L s t (y :: R) K G) {P S : List Int} (hP : ∀ p ∈ P, k ≤ p ∧ p ≤ 16) (hw : WS s (P ++ S)) (hS : Sto k S) (hl : S.length < 32) {m c3 n c : Nat} (hb : Bdg T m c3 n c (y :: R)) (hK : K.length + P.length ≤ 400) :
    ∃ (s1 t1 : Mem) (n' : Nat), CLS m (c3 : Int) n (c : Int) s = OPN FU ((0 : Nat) : Int) n' ((c + 1 : Nat) : Int) s1 ∧ f_X12_next0 0 t = some (0, t1) ∧ SL T B L s1 t1 R (K ++ opsW P) G ∧ WS s1 (k :: S) ∧ t1 0 24 = t 0 24 ∧ FTc s s1 ∧ FTm t t1 ∧ Bdg T FU 0 n' (c + 1) R := by
  obtain ⟨b1, b2, b3, b4⟩ := hb
  have hT := hc.2.2.1
  have ly : (y :: R).length = R.length + 1 := List.length_cons
  have lP : P.length ≤ 32 := by
    have := hw.2.2.2.2
    rw [List.length_append] at this
    omega
  obtain ⟨s1, a1, a2, a3, a4⟩ := l_set (k := k) P S s t (y :: R) K G FU h hw (fun p hp => by have := hP p hp; omega) hS hK (fu_lt (by omega))
  obtain ⟨s2, d1, d2, d3, d4, d5, d6, d7⟩ := l_hold a2 a3.1 a3.2.1 hl k
  obtain ⟨t1, e1, e2, e3, e4⟩ := SL.nx hc d2 (by omega)
  obtain ⟨z, R2, e5⟩ := e2.1.ne
  subst e5
  have lz : (z :: R2).length = R2.length + 1 := List.length_cons
  obtain ⟨i, i1, i2, i3, i4, i5, i6, i7⟩ := e2.1.at hc
  cases n with
  | zero => omega
  | succ n =>
    have hset : f_X7_settle 236 k s = some (0, s1) := by
      unfold f_X7_settle
      rw [hw.2.1]
      exact a1
    have hJ : cJ (n + 1) (c : Int) y.1 s = OPN FU ((0 : Nat) : Int) n ((c + 1 : Nat) : Int) (adv s2) := by
      unfold cJ
      rw [hy, bd_e hset, bd_e d1, e4, lm_s, wr_s (by omega), cnd_s, i3, if_pos (by omega)]
      rfl
    refine ⟨adv s2, t1, n, ?_, e1, e2, ?_, ?_, ?_, ?_, ?_⟩
    · rw [cls_no hc h (Or.inl (by omega)) (by omega) b2, cA_s hc h, ← hJ]
      rcases hk with rfl | rfl
      · rw [if_neg (by omega), if_pos hy]
      · rw [if_pos hy]
    · refine WS.fs ⟨d3, d4, ?_, ?_, ?_⟩ (adv_fs s2)
      · rw [d5, a3.2.2.1]
        have : nO (k :: S) = nO S := by
          show (if k = 17 ∨ k = 40 then 1 else 0) + nO S = _
          rw [if_neg (by omega)]
          omega
        rw [this]
      · rw [d6, a3.2.2.2.1]
        have : nB (k :: S) = nB S := by
          show (if k = 40 then 1 else 0) + nB S = _
          rw [if_neg (by omega)]
          omega
        rw [this]
      · rw [List.length_cons]
        omega
    · exact e3.2 24 (by decide) (by decide) (by decide) (by decide) (by decide)
    · exact a4.tr (d7.tr (adv_fs s2).ft)
    · exact e3.ft
    · exact ⟨fu_lt (by omega), by omega, by omega, by omega⟩
theorem l_lp (hc : PC T B L 0) {f lp : Nat → Mem → Res} {op mt k : Int} {e D : Nat} (hlp : ∀ (n : Nat) (s0 : Mem), lp (n + 1) s0 = if s0 0 18 = mt then (bd (f_X12_next0 0 s0) fun _ s7 => bd (f 0 s7) fun r8 s9 => if r8 = 0 then (some (0, s9)) else (bd (f_X12_lay 0 op 0 s9) fun _ s12 => lp n s12)) else (some (1, s0)))
    (hk : k = 15 ∨ k = 16) (hmt : tkm 0 k = mt) (hm1 : mt ≠ 1) (hop : op = 31 ∨ op = 32) (hopc : tr (op, 0) = [20000 + k]) (he : e ≤ 1) (hf : Lv T B L f (k + 1) e D) {S : List Int} {K : List Int} {G : List Sg} (g1 : D ≤ nO S) (g2 : nO S ≤ 8) (g3 : Sto k S) (g4 : S.length + (e + 1) ≤ nO S + 2 * nB S + 2) :
    ∀ (j fl : Nat) (s t : Mem) (R' : List Tk) (o1 : Res), R'.length < j → j ≤ fl → QL T B L k (k + 1) S K G (12 - (e + 1) + 2 * nO S) R' o1 s t → TwoC o1 (lp fl t) s t (fun o s1 t1 => ∃ R2 : List Tk, R2.length ≤ R'.length ∧ QL T B L k k S K G (12 - (e + 1) + 2 * nO S) R2 o s1 t1) := by
  intro j
  induction j with
  | zero =>
    intro fl s t R' o1 h1
    exact absurd h1 (Nat.not_lt_zero _)
  | succ j ih =>
    intro fl s t R' o1 h1 h2 ⟨E, P, K', m, c3, n, c, q1, q2, q3, q4, q5, q6, q7, q8, q9, q10, q11⟩
    cases fl with
    | zero => omega
    | succ fl =>
      obtain ⟨y, R, ey⟩ := q4.1.ne
      subst ey
      have hT := hc.2.2.1
      have ly : (y :: R).length = R.length + 1 := List.length_cons
      have hb := nB_le S
      have hkt := tk_eq hc.2.2.2.2 (q4.1.ok hc).1 (show TokD k by rcases hk with rfl | rfl <;> decide) hmt hm1
      rw [hlp, q4.1.tk]
      by_cases c1 : y.1 = k
      · have l5 : K'.length + P.length = (K ++ trs E).length := by
          rw [← q5, List.length_append]
          unfold opsW
          rw [List.length_map]
        obtain ⟨s1, t1, n', w1, w2, w3, w4, w5, w6, w7, w8⟩ := l_joint hc hk c1 q4 q6 q7 g3 (by omega) q2 (by omega)
        rw [if_pos (hkt.mpr c1), bd_e w2, q1, w1]
        rw [q5] at w3
        obtain ⟨z, R2, ez⟩ := w3.1.ne
        subst ez
        have lz : (z :: R2).length = R2.length + 1 := List.length_cons
        have ls : (k :: S).length = S.length + 1 := List.length_cons
        have no : nO (k :: S) = nO S := by
          show (if k = 17 ∨ k = 40 then 1 else 0) + nO S = _
          rw [if_neg (by omega)]
          omega
        have nb : nB (k :: S) = nB S := by
          show (if k = 40 then 1 else 0) + nB S = _
          rw [if_neg (by omega)]
          omega
        refine TwoC.fr w6 w7 (TwoC.b (hf (k :: S) s1 t1 z R2 (K ++ trs E) (G ++ E) FU 0 n' (c + 1) (by omega) (by omega) (Or.inr (by omega)) (by omega) w3 w4 (by rw [w5, q8, no]) w8 (by omega) (by omega)) (fun t => if_pos rfl) (fun s2 t2 f2 f3 ⟨R3, v0, E2, P2, K2, m2, c32, n2, c2, v1, v2, v3, v4, v5, v6, v7, v8, v9, v10, v11⟩ => ?_))
        rw [if_neg (show ¬ (1 : Int) = 0 by decide)]
        obtain ⟨t3, y1, y2, y3⟩ := v4.lay (by omega) op 0
        rw [bd_e y1]
        refine TwoC.fr (FTc.rf s2) y3.ft ?_
        have eG : G ++ E ++ E2 ++ [(op, 0)] = G ++ (E ++ E2 ++ [(op, 0)]) := by simp only [List.append_assoc]
        have eo : opsW (P2 ++ [k]) = opsW P2 ++ [20000 + k] := by
          unfold opsW
          rw [List.map_append]
          rfl
        have eK : K2 ++ opsW (P2 ++ [k]) = K ++ trs (E ++ E2 ++ [(op, 0)]) := by
          rw [eo, ← List.append_assoc, v5, trs_app, trs_app, trs_1, hopc]
          simp only [List.append_assoc]
        have lK : (K ++ trs (E ++ E2 ++ [(op, 0)])).length = (K ++ trs E ++ trs E2).length + 1 := by
          rw [trs_app, trs_app, trs_1, hopc, ← List.append_assoc, ← List.append_assoc, List.length_append]
          rfl
        have lG : (G ++ (E ++ E2 ++ [(op, 0)])).length = (G ++ E ++ E2).length + 1 := by
          rw [← eG, List.length_append]
          rfl
        rw [eG] at y2
        have eW : P2 ++ k :: S = P2 ++ [k] ++ S := by rw [List.append_assoc]; rfl
        rw [eW] at v7
        refine (ih fl s2 t3 R3 _ (by omega) (by omega) ⟨E ++ E2 ++ [(op, 0)], P2 ++ [k], K2, m2, c32, n2, c2, v1, v2, ?_, y2, eK, ?_, v7, ?_, by omega, by omega, v11⟩).im (fun s5 t5 ⟨R4, u1, u2⟩ => ⟨R4, by omega, u2⟩)
        · exact Exb_2 q3 v3 hop (Nat.le_refl _) (by omega)
        · intro p hp
          rcases List.mem_append.mp hp with hp | hp
          · have := v6 p hp
            omega
          · have : p = k := List.mem_singleton.mp hp
            omega
        · rw [y3.2 24 (by decide) (by decide) (by decide) (by decide) (by decide), v8, no]
      · rw [if_neg (fun z => c1 (hkt.mp z))]
        refine Or.inl ⟨s, t, rfl, FTc.rf s, FTm.rf t, y :: R, Nat.le_refl _, E, P, K', m, c3, n, c, q1, q2, q3, q4, q5, q6, q7, q8, q9, q10, ?_⟩
        intro y' R2 e' z
        injection e' with e1 e2
        rw [e1] at c1
        have := q11 y' R2 (by rw [e1, e2])
        omega
theorem l_lv (hc : PC T B L 0) {f g lp : Nat → Mem → Res} {op mt k : Int} {e D : Nat} (hlp : ∀ (n : Nat) (s0 : Mem), lp (n + 1) s0 = if s0 0 18 = mt then (bd (f_X12_next0 0 s0) fun _ s7 => bd (f 0 s7) fun r8 s9 => if r8 = 0 then (some (0, s9)) else (bd (f_X12_lay 0 op 0 s9) fun _ s12 => lp n s12)) else (some (1, s0)))
    (hg : ∀ t : Mem, g 0 t = bd (f 0 t) fun r1 s2 => if r1 = 0 then (some (0, s2)) else lp FU s2)
    (hk : k = 15 ∨ k = 16) (hmt : tkm 0 k = mt) (hm1 : mt ≠ 1) (hop : op = 31 ∨ op = 32) (hopc : tr (op, 0) = [20000 + k]) (he : e ≤ 1) (hf : Lv T B L f (k + 1) e D) : Lv T B L g k (e + 1) D := by
  intro S s t x R K G m c2 n c h1 h2 h3 h4 h5 h6 h7 h8 h9 h10
  have hT := hc.2.2.1
  have lx : (x :: R).length = R.length + 1 := List.length_cons
  have hb2 := h8.2.1
  rw [hg]
  have hs : Sto (k + 1) S := by
    cases S with
    | nil => trivial
    | cons w W => exact h3.imp id (fun z => by omega)
  refine TwoC.b (hf S s t x R K G m c2 n c h1 h2 hs (by omega) h5 h6 h7 h8 h9 h10) (fun t => if_pos rfl) (fun s1 t1 _ _ ⟨R', q0, E, P, K', m', c3, n', c', q1, q2, q3, q4, q5, q6, q7⟩ => ?_)
  rw [if_neg (show ¬ (1 : Int) = 0 by decide)]
  refine (l_lp hc hlp hk hmt hm1 hop hopc he hf h1 h2 h3 h4 (R'.length + 1) FU s1 t1 R' _ (by omega) (Nat.le_of_lt (fu_lt (by omega))) ⟨E, P, K', m', c3, n', c', q1, q2, q3.le (by omega), q4, q5, fun p hp => by have := q6 p hp; omega, q7⟩).im (fun s5 t5 ⟨R4, u1, u2⟩ => ⟨R4, by omega, u2⟩)
end

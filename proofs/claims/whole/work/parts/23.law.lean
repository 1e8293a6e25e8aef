/-! ===== L3: THE LAW's steps, what they come to ===== -/
abbrev Sg : Type := Int × Int
def sBoth (h a b : Int) : Int := if h = 23 then wr (a + b) else if h = 24 then wr (a - b) else if h = 25 then wr (a * b) else if h = 27 then bI (a < b) else if h = 28 then bI (a = b) else if h = 29 then bI (b < a) else if h = 31 then iand a b else ior a b
def top1 (f : Int → Int) : List Int → List Int
  | [] => []
  | x :: r => f x :: r
def top2 (f : Int → Int → Int) : List Int → List Int
  | [] => []
  | [_] => []
  | y :: x :: r => f x y :: r
def ev1 (fx : Int → Int) (q : Sg) (st : List Int) : List Int :=
  if q.1 < 23 then (if q.1 = 0 then q.2 else fx q.1) :: st else if q.1 = 26 then top1 (fun x => wr (x.tdiv q.2)) st else if q.1 = 30 then top1 (fun x => wr (1 - x)) st else top2 (sBoth q.1) st
def ev (fx : Int → Int) : List Sg → List Int → List Int
  | [], st => st
  | q :: L, st => ev fx L (ev1 fx q st)
def isOp2 (h : Int) : Prop := h = 23 ∨ h = 24 ∨ h = 25 ∨ h = 27 ∨ h = 28 ∨ h = 29 ∨ h = 31 ∨ h = 32
def dok (q : Sg) (d d' : Nat) : Prop :=
  (0 ≤ q.1 ∧ q.1 ≤ 10 ∧ d < 32 ∧ d' = d + 1 ∧ (q.1 = 0 → 0 ≤ q.2 ∧ q.2 ≤ 9999)) ∨ (q.1 = 26 ∧ 1 ≤ d ∧ d < 32 ∧ d' = d ∧ 1 ≤ q.2 ∧ q.2 ≤ 9999) ∨ (q.1 = 30 ∧ 1 ≤ d ∧ d' = d) ∨ (isOp2 q.1 ∧ 2 ≤ d ∧ d' + 1 = d)
def Dp : List Sg → Nat → Nat → Prop
  | [], d, d' => d' = d
  | q :: L, d, d' => ∃ e, dok q d e ∧ Dp L e d'
def PR (f : Int → Int) : List Int → Prop
  | [] => True
  | v :: r => f (r.length : Int) = v ∧ PR f r
theorem ev_app (fx : Int → Int) : ∀ (L M : List Sg) (st : List Int), ev fx (L ++ M) st = ev fx M (ev fx L st)
  | [], _, _ => rfl
  | q :: L, M, st => ev_app fx L M (ev1 fx q st)
theorem Dp_app : ∀ (L M : List Sg) (d e f : Nat), Dp L d e → Dp M e f → Dp (L ++ M) d f
  | [], _, _, _, _, h1, h2 => by
    have h3 : _ = _ := h1
    subst h3
    exact h2
  | _ :: L, M, _, e, f, h1, h2 => by
    obtain ⟨x, h3, h4⟩ := h1
    exact ⟨x, h3, Dp_app L M x e f h4 h2⟩
theorem PR_up {f : Int → Int} {k v : Int} : ∀ {r : List Int}, PR f r → (r.length : Int) ≤ k → PR (up f k v) r
  | [], _, _ => trivial
  | x :: r, h, hk => by
    have h2 : ((x :: r).length : Int) = (r.length : Int) + 1 := by rw [List.length_cons]; omega
    exact ⟨by rw [up_ne (by omega)]; exact h.1, PR_up h.2 (by omega)⟩
theorem PR_push {f : Int → Int} {v : Int} {r : List Int} (h : PR f r) : PR (up f (r.length : Int) v) (v :: r) := ⟨up_eq rfl, PR_up h (Int.le_refl _)⟩
theorem dok_len {fx : Int → Int} {q : Sg} {st : List Int} {d : Nat} (h : dok q st.length d) : (ev1 fx q st).length = d := by
  unfold ev1
  rcases h with ⟨h1, h2, -, h3, -⟩ | ⟨h1, h2, -, h3, -⟩ | ⟨h1, h2, h3⟩ | ⟨h1, h2, h3⟩
  · rw [if_pos (by omega), List.length_cons, h3]
  · rw [if_neg (by omega), if_pos h1, h3]
    cases st with
    | nil => rfl
    | cons x r => rfl
  · rw [if_neg (by omega), if_neg (by omega), if_pos h1, h3]
    cases st with
    | nil => rfl
    | cons x r => rfl
  · unfold isOp2 at h1
    rw [if_neg (by omega), if_neg (by omega), if_neg (by omega)]
    match st, h2, h3 with
    | [], h2, _ => exact absurd h2 (by decide)
    | [_], h2, _ => exact absurd h2 (by simp)
    | y :: x :: r, _, h3 =>
      show r.length + 1 = d
      have : (y :: x :: r).length = r.length + 1 + 1 := rfl
      omega
theorem dok_in {q : Sg} {d d' : Nat} (h : dok q d d') (hd : d ≤ 32) : d' ≤ 32 := by
  rcases h with ⟨-, -, h1, h3, -⟩ | ⟨-, -, h2, h3, -⟩ | ⟨-, -, h3⟩ | ⟨-, -, h3⟩
  · omega
  · omega
  · omega
  · omega
theorem both_e (h a b : Int) (t : Mem) (hh : isOp2 h) : f_X12_both h a b t = some (sBoth h a b, t) := by
  unfold f_X12_both sBoth
  unfold isOp2 at hh
  rcases hh with rfl | rfl | rfl | rfl | rfl | rfl | rfl | rfl
  all_goals simp [bI]
  all_goals (split <;> rfl)
/-- the model's steps -/
def StM (w : Int → Int) : Int → List Sg → Prop
  | _, [] => True
  | p, q :: L => w (912 + 2 * p) = q.1 ∧ w (912 + 2 * p + 1) = q.2 ∧ StM w (p + 1) L
theorem m_step {t : Mem} {fx : Int → Int} {k : Mem → Res} {n : Nat} {p e : Int} {q : Sg} {st : List Int} {d : Nat} (hp : 0 ≤ p) (he : p < e) (he2 : e ≤ 410) (h1 : t 1 (912 + 2 * p) = q.1) (h2 : t 1 (912 + 2 * p + 1) = q.2) (hl : st.length ≤ 32) (hq : dok q st.length d) (hP : PR (t 9) st) (hf : ∀ k : Int, 1 ≤ k → k ≤ 10 → t 10 k = fx k) :
    ∃ t1 : Mem, f_X12_comesTo_6 0 0 e k (n + 1) (st.length : Int) p t = f_X12_comesTo_6 0 0 e k n ((ev1 fx q st).length : Int) (p + 1) t1 ∧ PR (t1 9) (ev1 fx q st) ∧ ∀ a : Nat, a ≠ 9 → t1 a = t a := by
  have W0 : wr 0 = 0 := wr_n (by omega)
  have W1 : wr 912 = 912 := wr_n (by omega)
  have W2 : wr (2 * p) = 2 * p := wr_n (by omega)
  have W3 : wr (912 + 2 * p) = 912 + 2 * p := wr_n (by omega)
  have E2 : wr (912 + 2 * p + 1) = 912 + 2 * p + 1 := wr_n (by omega)
  have E3 : wr (p + 1) = p + 1 := wr_n (by omega)
  have G1 : 0 ≤ 912 + 2 * p ∧ 912 + 2 * p < 1732 := by omega
  have G2 : 0 ≤ 912 + 2 * p + 1 ∧ 912 + 2 * p + 1 < 1732 := by omega
  have hlen := dok_len (fx := fx) hq
  rw [f_X12_comesTo_6, if_pos he]
  simp only [Nat.zero_add, Int.mul_zero, Int.add_zero, W0, W1, W2, W3, E2, E3, gd_t G1, gd_t G2, lts_s, jn_s, lm_s, h1, h2]
  rcases hq with ⟨g1, g2, g3, g4, g5⟩ | ⟨g1, g2, g3, g4, g5, g6⟩ | ⟨g1, g2, g3⟩ | ⟨g1, g2, g3⟩
  · have c1 : q.1 < 23 := by omega
    have G3 : 0 ≤ (st.length : Int) ∧ (st.length : Int) < 420 := by omega
    have E4 : wr ((st.length : Int) + 1) = (st.length : Int) + 1 := wr_n (by omega)
    have E5 : ev1 fx q st = (if q.1 = 0 then q.2 else fx q.1) :: st := by
      unfold ev1
      rw [if_pos c1]
    rw [if_pos c1, E5]
    by_cases c0 : q.1 = 0
    · rw [if_pos c0, gd_t G3, E4, if_pos c0]
      refine ⟨mup t 9 (st.length : Int) q.2, by rw [List.length_cons]; rfl, ?_, fun a ha => mup_o ha⟩
      rw [mup_row]
      exact PR_push hP
    · rw [if_neg c0, gd_t (by omega), gd_t G3, E4, if_neg c0, hf q.1 (by omega) (by omega)]
      refine ⟨mup t 9 (st.length : Int) (fx q.1), by rw [List.length_cons]; rfl, ?_, fun a ha => mup_o ha⟩
      rw [mup_row]
      exact PR_push hP
  · have c1 : ¬ q.1 < 23 := by omega
    have G3 : 0 ≤ (st.length : Int) - 1 ∧ (st.length : Int) - 1 < 420 := by omega
    have E4 : wr ((st.length : Int) - 1) = (st.length : Int) - 1 := wr_n (by omega)
    rw [if_neg c1, if_pos g1, E4, gd_t G3, gd_t (by omega), gd_t G3]
    cases st with
    | nil => exact absurd g2 (by decide)
    | cons x r =>
      have E6 : ((x :: r).length : Int) - 1 = (r.length : Int) := by rw [List.length_cons]; omega
      have E5 : ev1 fx q (x :: r) = wr (x.tdiv q.2) :: r := by
        unfold ev1
        rw [if_neg c1, if_pos g1]
        rfl
      rw [E6, hP.1, E5]
      refine ⟨mup t 9 (r.length : Int) (wr (x.tdiv q.2)), rfl, ?_, fun a ha => mup_o ha⟩
      rw [mup_row]
      exact PR_push hP.2
  · have c1 : ¬ q.1 < 23 := by omega
    have c2 : ¬ q.1 = 26 := by omega
    have G3 : 0 ≤ (st.length : Int) - 1 ∧ (st.length : Int) - 1 < 420 := by omega
    have E4 : wr ((st.length : Int) - 1) = (st.length : Int) - 1 := wr_n (by omega)
    rw [if_neg c1, if_neg c2, if_pos g1, E4, gd_t G3, gd_t G3]
    cases st with
    | nil => exact absurd g2 (by decide)
    | cons x r =>
      have E6 : ((x :: r).length : Int) - 1 = (r.length : Int) := by rw [List.length_cons]; omega
      have E5 : ev1 fx q (x :: r) = wr (1 - x) :: r := by
        unfold ev1
        rw [if_neg c1, if_neg c2, if_pos g1]
        rfl
      rw [E6, hP.1, E5]
      refine ⟨mup t 9 (r.length : Int) (wr (1 - x)), rfl, ?_, fun a ha => mup_o ha⟩
      rw [mup_row]
      exact PR_push hP.2
  · have g1' := g1
    unfold isOp2 at g1'
    have c1 : ¬ q.1 < 23 := by omega
    have c2 : ¬ q.1 = 26 := by omega
    have c3 : ¬ q.1 = 30 := by omega
    have E4 : wr ((st.length : Int) + -1) = (st.length : Int) - 1 := by
      rw [wr_n (by omega)]
      omega
    have E7 : wr ((st.length : Int) - 1 - 1) = (st.length : Int) - 1 - 1 := wr_n (by omega)
    have G3 : 0 ≤ (st.length : Int) - 1 - 1 ∧ (st.length : Int) - 1 - 1 < 420 := by omega
    have G4 : 0 ≤ (st.length : Int) - 1 ∧ (st.length : Int) - 1 < 420 := by omega
    rw [if_neg c1, if_neg c2, if_neg c3, E4, E7, gd_t G3, gd_t G4, bd_e (both_e _ _ _ _ g1), gd_t G3]
    cases st with
    | nil => exact absurd g2 (by decide)
    | cons y r0 =>
      cases r0 with
      | nil => exact absurd g2 (by simp)
      | cons x r =>
        have E6 : ((y :: x :: r).length : Int) - 1 - 1 = (r.length : Int) := by rw [List.length_cons, List.length_cons]; omega
        have E8 : ((y :: x :: r).length : Int) - 1 = ((x :: r).length : Int) := by rw [List.length_cons]; omega
        have E5 : ev1 fx q (y :: x :: r) = sBoth q.1 x y :: r := by
          unfold ev1
          rw [if_neg c1, if_neg c2, if_neg c3]
          rfl
        rw [E6, E8, hP.1, hP.2.1, E5]
        refine ⟨mup t 9 (r.length : Int) (sBoth q.1 x y), rfl, ?_, fun a ha => mup_o ha⟩
        rw [mup_row]
        exact PR_push hP.2.2
theorem m_run {fx : Int → Int} {k : Mem → Res} : ∀ (L : List Sg) (n : Nat) (p : Int) (st : List Int) (d : Nat) (t : Mem), L.length < n → 0 ≤ p → p + L.length ≤ 410 → StM (t 1) p L → st.length ≤ 32 → Dp L st.length d → PR (t 9) st → (∀ k : Int, 1 ≤ k → k ≤ 10 → t 10 k = fx k) →
    ∃ t1 : Mem, f_X12_comesTo_6 0 0 (p + L.length) k n (st.length : Int) p t = k t1 ∧ PR (t1 9) (ev fx L st) ∧ ∀ a : Nat, a ≠ 9 → t1 a = t a := by
  intro L
  induction L with
  | nil =>
    intro n p st d t hn hp hp2 hS hl hD hP hf
    cases n with
    | zero => exact absurd hn (Nat.not_lt_zero _)
    | succ n =>
      refine ⟨t, ?_, hP, fun _ _ => rfl⟩
      have e : p + (([] : List Sg).length : Int) = p := Int.add_zero p
      rw [e, f_X12_comesTo_6, if_neg (Int.lt_irrefl p)]
  | cons q L ih =>
    intro n p st d t hn hp hp2 hS hl hD hP hf
    have hlen : ((q :: L).length : Int) = (L.length : Int) + 1 := by rw [List.length_cons]; omega
    cases n with
    | zero => exact absurd hn (Nat.not_lt_zero _)
    | succ n =>
      obtain ⟨d1, hq, hD1⟩ := hD
      obtain ⟨t1, e1, hP1, ho1⟩ := m_step (k := k) (n := n) hp (by omega) hp2 hS.1 hS.2.1 hl hq hP hf
      have hl1 := dok_len (fx := fx) hq
      have e2 : p + ((q :: L).length : Int) = p + 1 + (L.length : Int) := by omega
      obtain ⟨t2, e3, hP2, ho2⟩ := ih n (p + 1) (ev1 fx q st) d t1 (by rw [List.length_cons] at hn; omega) (by omega) (by omega) (by rw [ho1 1 (by decide)]; exact hS.2.2) (by rw [hl1]; exact dok_in hq hl) (by rw [hl1]; exact hD1) hP1 (fun j h1 h2 => by rw [ho1 10 (by decide)]; exact hf j h1 h2)
      exact ⟨t2, by rw [e1, e2, e3], hP2, fun a ha => (ho2 a ha).trans (ho1 a ha)⟩
/-- E or B whole: from nothing to one number -/
theorem m_comes {fx : Int → Int} {L : List Sg} {p e v : Int} {t : Mem} (hp : 0 ≤ p) (he : e = p + L.length) (hp2 : e ≤ 410) (hS : StM (t 1) p L) (hD : Dp L 0 1) (hv : ev fx L [] = [v]) (hf : ∀ k : Int, 1 ≤ k → k ≤ 10 → t 10 k = fx k) :
    ∃ t1 : Mem, f_X12_comesTo 0 0 p e t = some (v, t1) ∧ ∀ a : Nat, a ≠ 9 → t1 a = t a := by
  subst he
  obtain ⟨t1, e1, hP, ho⟩ := m_run (fx := fx) (k := fun s1 => gd ((0 : Int) ≤ 0 ∧ (0 : Int) < 420) (some (s1 9 0, s1))) L FU p [] 1 t (fu_lt (by omega)) hp hp2 hS (by decide) hD trivial hf
  refine ⟨t1, ?_, ho⟩
  have e2 : (([] : List Int).length : Int) = 0 := rfl
  rw [e2] at e1
  unfold f_X12_comesTo
  rw [jn_s, Nat.zero_add, e1, gd_t (by decide)]
  rw [hv] at hP
  have h3 : t1 9 0 = v := hP.1
  rw [h3]

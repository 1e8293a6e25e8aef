/-! ===== L3: THE LAW's codes in the class ===== -/
def opc (h : Int) : Int := if h = 23 then 43 else if h = 24 then 45 else if h = 25 then 42 else if h = 27 then 60 else if h = 28 then 61 else if h = 29 then 62 else if h = 30 then 17 else if h = 31 then 16 else 15
def tr (q : Sg) : List Int := if q.1 = 0 then [q.2] else if q.1 ≤ 10 then [10000 + (q.1 - 1)] else if q.1 = 26 then [q.2, 20047] else [20000 + opc q.1]
def trs : List Sg → List Int
  | [] => []
  | q :: L => tr q ++ trs L
def LsC (f : Int → Int) : Int → List Int → Prop
  | _, [] => True
  | p, c :: r => f p = c ∧ LsC f (p + 1) r
theorem trs_app : ∀ (L M : List Sg), trs (L ++ M) = trs L ++ trs M
  | [], _ => rfl
  | q :: L, M => by
    show tr q ++ trs (L ++ M) = (tr q ++ trs L) ++ trs M
    rw [trs_app L M, List.append_assoc]
theorem LsC_app (f : Int → Int) : ∀ (L M : List Int) (p : Int), LsC f p (L ++ M) ↔ LsC f p L ∧ LsC f (p + L.length) M
  | [], M, p => by
    have e : p + (([] : List Int).length : Int) = p := Int.add_zero p
    rw [e]
    exact ⟨fun h => ⟨trivial, h⟩, fun h => h.2⟩
  | c :: L, M, p => by
    have e : p + ((c :: L).length : Int) = p + 1 + (L.length : Int) := by rw [List.length_cons]; omega
    rw [e]
    have ih := LsC_app f L M (p + 1)
    exact ⟨fun h => ⟨⟨h.1, (ih.mp h.2).1⟩, (ih.mp h.2).2⟩, fun h => ⟨h.1.1, ih.mpr ⟨h.1.2, h.2⟩⟩⟩
theorem LsC_up {f : Int → Int} {k v : Int} : ∀ (L : List Int) (p : Int), LsC f p L → p + L.length ≤ k → LsC (up f k v) p L
  | [], _, _, _ => trivial
  | c :: L, p, h, hk => by
    have e : ((c :: L).length : Int) = (L.length : Int) + 1 := by rw [List.length_cons]; omega
    exact ⟨by rw [up_ne (by omega)]; exact h.1, LsC_up L (p + 1) h.2 (by omega)⟩
theorem LsC_cg {f g : Int → Int} {lo hi : Int} (q : ∀ i : Int, lo ≤ i → i < hi → g i = f i) : ∀ (L : List Int) (p : Int), lo ≤ p → p + L.length ≤ hi → LsC f p L → LsC g p L
  | [], _, _, _, _ => trivial
  | c :: L, p, h1, h2, h => by
    have e : ((c :: L).length : Int) = (L.length : Int) + 1 := by rw [List.length_cons]; omega
    exact ⟨by rw [q p h1 (by omega)]; exact h.1, LsC_cg q L (p + 1) (by omega) (by omega) h.2⟩
theorem StM_cg {f g : Int → Int} {lo hi : Int} (q : ∀ i : Int, 912 + 2 * lo ≤ i → i < 912 + 2 * hi → g i = f i) : ∀ (L : List Sg) (p : Int), lo ≤ p → p + L.length ≤ hi → StM f p L → StM g p L
  | [], _, _, _, _ => trivial
  | c :: L, p, h1, h2, h => by
    have e : ((c :: L).length : Int) = (L.length : Int) + 1 := by rw [List.length_cons]; omega
    exact ⟨by rw [q _ (by omega) (by omega)]; exact h.1, by rw [q _ (by omega) (by omega)]; exact h.2.1, StM_cg q L (p + 1) (by omega) (by omega) h.2.2⟩
theorem e_asked (s : Mem) {k : Int} (h : 0 ≤ k ∧ k < 10) : f_X2_asked 12 k s = some (s 17 k, s) := by
  unfold f_X2_asked
  rw [if_neg (by omega), if_pos h.2, gd_t h]
theorem e_joined {h a b : Int} (s : Mem) (hh : isOp2 h) : f_X2_joined (opc h) a b s = some (sBoth h a b, s) := by
  unfold f_X2_joined sBoth opc
  unfold isOp2 at hh
  rcases hh with rfl | rfl | rfl | rfl | rfl | rfl | rfl | rfl
  all_goals simp [bI]
  all_goals (split <;> rfl)
theorem e_div {a b : Int} (s : Mem) (hb : b ≠ 0) : f_X2_joined 47 a b s = some (wr (a.tdiv b), s) := by
  unfold f_X2_joined
  simp [hb, gd]
theorem c_push {s : Mem} {n : Nat} {p e d c : Int} (hp : 0 ≤ p) (he : p < e) (he2 : e ≤ 400) (hd : 0 ≤ d ∧ d < 32) (h1 : s 16 p = c) (hc : 0 ≤ c ∧ c < 10010) :
    f_X2_value_12 12 e (n + 1) d p s = f_X2_value_12 12 e n (d + 1) (p + 1) (mup s 18 d (if c < 10000 then c else s 17 (c - 10000))) := by
  have G1 : 0 ≤ p ∧ p < 400 := by omega
  have E3 : wr (p + 1) = p + 1 := wr_n (by omega)
  have E4 : wr (d + 1) = d + 1 := wr_n (by omega)
  have E5 : wr (c - 10000) = c - 10000 := wr_n (by omega)
  rw [f_X2_value_12, if_pos he, if_pos (by omega)]
  simp only [Nat.reduceAdd, gd_t G1, jn_s, lm_s, h1, E3, E4, E5]
  rw [if_pos (by omega), if_pos hd.2]
  by_cases h2 : c < 10000
  · rw [if_pos h2, if_pos h2, gd_t hd]
  · rw [if_neg h2, if_neg h2, bd_e (e_asked s (by omega)), gd_t hd]
theorem c_not {s : Mem} {n : Nat} {p e d : Int} (hp : 0 ≤ p) (he : p < e) (he2 : e ≤ 400) (hd : 1 ≤ d ∧ d ≤ 32) (h1 : s 16 p = 20017) :
    f_X2_value_12 12 e (n + 1) d p s = f_X2_value_12 12 e n d (p + 1) (mup s 18 (d - 1) (wr (1 - s 18 (d - 1)))) := by
  have G1 : 0 ≤ p ∧ p < 400 := by omega
  have G2 : 0 ≤ d - 1 ∧ d - 1 < 32 := by omega
  have E3 : wr (p + 1) = p + 1 := wr_n (by omega)
  have E4 : wr (d - 1) = d - 1 := wr_n (by omega)
  rw [f_X2_value_12, if_pos he, if_pos (by omega)]
  simp only [Nat.reduceAdd, gd_t G1, jn_s, lm_s, E3, E4, gd_t G2]
  rw [h1, if_neg (by decide), if_pos rfl, if_pos (by omega)]
theorem c_op {s : Mem} {n : Nat} {p e d o v : Int} (hp : 0 ≤ p) (he : p < e) (he2 : e ≤ 400) (hd : 2 ≤ d ∧ d ≤ 32) (ho : 0 ≤ o ∧ o < 100) (ho2 : o ≠ 17) (h1 : s 16 p = 20000 + o) (hv : f_X2_joined o (s 18 (d - 2)) (s 18 (d - 1)) s = some (v, s)) :
    f_X2_value_12 12 e (n + 1) d p s = f_X2_value_12 12 e n (d - 1) (p + 1) (mup s 18 (d - 2) v) := by
  have G1 : 0 ≤ p ∧ p < 400 := by omega
  have G2 : 0 ≤ d - 1 ∧ d - 1 < 32 := by omega
  have G3 : 0 ≤ d - 2 ∧ d - 2 < 32 := by omega
  have E3 : wr (p + 1) = p + 1 := wr_n (by omega)
  have E4 : wr (d + -1) = d - 1 := by
    rw [wr_n (by omega)]
    omega
  have E5 : wr (d - 1 - 1) = d - 2 := by
    rw [wr_n (by omega)]
    omega
  have E6 : wr (20000 + o - 20000) = o := by
    rw [wr_n (by omega)]
    omega
  rw [f_X2_value_12, if_pos he, if_pos (by omega)]
  simp only [Nat.reduceAdd, gd_t G1, jn_s, lm_s, h1, E3, E4, E5, E6, gd_t G2, gd_t G3]
  rw [if_neg (by omega), if_neg (by omega), if_pos (by omega), bd_e hv]
theorem opc_in (h : Int) : 0 ≤ opc h ∧ opc h < 100 := by
  unfold opc
  repeat' split
  all_goals omega
theorem opc_17 {h : Int} (hh : isOp2 h) : opc h ≠ 17 := by
  unfold isOp2 at hh
  unfold opc
  rcases hh with rfl | rfl | rfl | rfl | rfl | rfl | rfl | rfl
  all_goals decide
theorem c_step {s : Mem} {fx : Int → Int} {n : Nat} {p e : Int} {q : Sg} {st : List Int} {d : Nat} (hp : 0 ≤ p) (he : p + (tr q).length ≤ e) (he2 : e ≤ 400) (h1 : LsC (s 16) p (tr q)) (hl : st.length ≤ 32) (hq : dok q st.length d) (hP : PR (s 18) st) (hf : ∀ k : Int, 0 ≤ k → k < 10 → s 17 k = fx (k + 1)) :
    ∃ s1 : Mem, f_X2_value_12 12 e (n + (tr q).length) (st.length : Int) p s = f_X2_value_12 12 e n ((ev1 fx q st).length : Int) (p + (tr q).length) s1 ∧ PR (s1 18) (ev1 fx q st) ∧ ∀ a : Nat, a ≠ 18 → s1 a = s a := by
  have hlen := dok_len (fx := fx) hq
  rcases hq with ⟨g1, g2, g3, g4, g5⟩ | ⟨g1, g2, g3, g4, g5, g6⟩ | ⟨g1, g2, g3⟩ | ⟨g1, g2, g3⟩
  · have c1 : q.1 < 23 := by omega
    have E5 : ev1 fx q st = (if q.1 = 0 then q.2 else fx q.1) :: st := by
      unfold ev1
      rw [if_pos c1]
    by_cases c0 : q.1 = 0
    · have et : tr q = [q.2] := by
        unfold tr
        rw [if_pos c0]
      rw [et] at h1 he ⊢
      have g7 := g5 c0
      have e1 : (([q.2] : List Int).length : Int) = 1 := rfl
      rw [e1] at he ⊢
      rw [E5, if_pos c0]
      have hs := c_push (s := s) (n := n) (p := p) (e := e) (d := (st.length : Int)) (c := q.2) hp (by omega) he2 (by omega) h1.1 (by omega)
      rw [if_pos (by omega)] at hs
      refine ⟨_, hs, ?_, fun a ha => mup_o ha⟩
      rw [mup_row]
      exact PR_push hP
    · have et : tr q = [10000 + (q.1 - 1)] := by
        unfold tr
        rw [if_neg c0, if_pos g2]
      rw [et] at h1 he ⊢
      have e1 : (([10000 + (q.1 - 1)] : List Int).length : Int) = 1 := rfl
      rw [e1] at he ⊢
      rw [E5, if_neg c0]
      have hs := c_push (s := s) (n := n) (p := p) (e := e) (d := (st.length : Int)) (c := 10000 + (q.1 - 1)) hp (by omega) he2 (by omega) h1.1 (by omega)
      have e2 : 10000 + (q.1 - 1) - 10000 = q.1 - 1 := by omega
      have e3 : q.1 - 1 + 1 = q.1 := by omega
      rw [if_neg (by omega), e2, hf (q.1 - 1) (by omega) (by omega), e3] at hs
      refine ⟨_, hs, ?_, fun a ha => mup_o ha⟩
      rw [mup_row]
      exact PR_push hP
  · have c1 : ¬ q.1 < 23 := by omega
    have et : tr q = [q.2, 20047] := by
      unfold tr
      rw [if_neg (by omega), if_neg (by omega), if_pos g1]
    rw [et] at h1 he ⊢
    have e1 : (([q.2, 20047] : List Int).length : Int) = 2 := rfl
    have e1' : ([q.2, 20047] : List Int).length = 1 + 1 := rfl
    rw [e1] at he ⊢
    rw [e1']
    cases st with
    | nil => exact absurd g2 (by decide)
    | cons x r =>
      have E5 : ev1 fx q (x :: r) = wr (x.tdiv q.2) :: r := by
        unfold ev1
        rw [if_neg c1, if_pos g1]
        rfl
      have hs := c_push (s := s) (n := n + 1) (p := p) (e := e) (d := ((x :: r).length : Int)) (c := q.2) hp (by omega) he2 (by omega) h1.1 (by omega)
      rw [if_pos (by omega)] at hs
      have hr : ((x :: r).length : Int) = (r.length : Int) + 1 := by rw [List.length_cons]; omega
      have e4 : ((x :: r).length : Int) + 1 - 2 = (r.length : Int) := by omega
      have e5 : ((x :: r).length : Int) + 1 - 1 = ((x :: r).length : Int) := by omega
      have hs2 := c_op (s := mup s 18 ((x :: r).length : Int) q.2) (n := n) (p := p + 1) (e := e) (d := ((x :: r).length : Int) + 1) (o := 47) (v := wr (x.tdiv q.2)) (by omega) (by omega) he2 (by omega) (by decide) (by decide) (by rw [mup_o (by decide)]; exact h1.2.1) (by
        rw [e4, e5, mup_row, up_ne (by omega), up_eq rfl, hP.1]
        exact e_div _ (by omega))
      have e6 : p + 1 + 1 = p + 2 := by omega
      rw [e4, e5, e6] at hs2
      rw [E5]
      refine ⟨_, (hs.trans hs2).trans (by rw [List.length_cons, List.length_cons]), ?_, fun a ha => by rw [mup_o ha, mup_o ha]⟩
      rw [mup_row, mup_row]
      exact PR_push (PR_up hP.2 (by omega))
  · have c1 : ¬ q.1 < 23 := by omega
    have c2 : ¬ q.1 = 26 := by omega
    have et : tr q = [20017] := by
      unfold tr
      rw [if_neg (by omega), if_neg (by omega), if_neg c2, g1]
      rfl
    rw [et] at h1 he ⊢
    have e1 : (([20017] : List Int).length : Int) = 1 := rfl
    rw [e1] at he ⊢
    cases st with
    | nil => exact absurd g2 (by decide)
    | cons x r =>
      have E5 : ev1 fx q (x :: r) = wr (1 - x) :: r := by
        unfold ev1
        rw [if_neg c1, if_neg c2, if_pos g1]
        rfl
      have hr : ((x :: r).length : Int) = (r.length : Int) + 1 := by rw [List.length_cons]; omega
      have e4 : ((x :: r).length : Int) - 1 = (r.length : Int) := by omega
      have hs := c_not (s := s) (n := n) (p := p) (e := e) (d := ((x :: r).length : Int)) hp (by omega) he2 (by omega) h1.1
      rw [e4, hP.1] at hs
      rw [E5]
      refine ⟨_, hs.trans (by rw [List.length_cons, List.length_cons]), ?_, fun a ha => mup_o ha⟩
      rw [mup_row]
      exact PR_push hP.2
  · have g1' := g1
    unfold isOp2 at g1'
    have c1 : ¬ q.1 < 23 := by omega
    have c2 : ¬ q.1 = 26 := by omega
    have c3 : ¬ q.1 = 30 := by omega
    have et : tr q = [20000 + opc q.1] := by
      unfold tr
      rw [if_neg (by omega), if_neg (by omega), if_neg c2]
    rw [et] at h1 he ⊢
    have e1 : (([20000 + opc q.1] : List Int).length : Int) = 1 := rfl
    rw [e1] at he ⊢
    cases st with
    | nil => exact absurd g2 (by decide)
    | cons y r0 =>
      cases r0 with
      | nil => exact absurd g2 (by simp)
      | cons x r =>
        have hr : ((y :: x :: r).length : Int) = (r.length : Int) + 2 := by rw [List.length_cons, List.length_cons]; omega
        have hr2 : ((x :: r).length : Int) = (r.length : Int) + 1 := by rw [List.length_cons]; omega
        have e4 : ((y :: x :: r).length : Int) - 2 = (r.length : Int) := by omega
        have e5 : ((y :: x :: r).length : Int) - 1 = ((x :: r).length : Int) := by omega
        have E5 : ev1 fx q (y :: x :: r) = sBoth q.1 x y :: r := by
          unfold ev1
          rw [if_neg c1, if_neg c2, if_neg c3]
          rfl
        have hs := c_op (s := s) (n := n) (p := p) (e := e) (d := ((y :: x :: r).length : Int)) (o := opc q.1) (v := sBoth q.1 x y) hp (by omega) he2 (by omega) (opc_in _) (opc_17 g1) h1.1 (by
          rw [e4, e5, hP.1, hP.2.1]
          exact e_joined s g1)
        rw [e4, e5] at hs
        rw [E5]
        refine ⟨_, hs.trans (by rw [List.length_cons, List.length_cons]), ?_, fun a ha => mup_o ha⟩
        rw [mup_row]
        exact PR_push hP.2.2
theorem c_run {fx : Int → Int} : ∀ (L : List Sg) (n : Nat) (p : Int) (st : List Int) (d : Nat) (s : Mem), 0 ≤ p → p + (trs L).length ≤ 400 → LsC (s 16) p (trs L) → st.length ≤ 32 → Dp L st.length d → PR (s 18) st → (∀ k : Int, 0 ≤ k → k < 10 → s 17 k = fx (k + 1)) →
    ∃ s1 : Mem, f_X2_value_12 12 (p + (trs L).length) (n + 1 + (trs L).length) (st.length : Int) p s = some (s1 18 0, s1) ∧ PR (s1 18) (ev fx L st) ∧ ∀ a : Nat, a ≠ 18 → s1 a = s a := by
  intro L
  induction L with
  | nil =>
    intro n p st d s hp hp2 hS hl hD hP hf
    refine ⟨s, ?_, hP, fun _ _ => rfl⟩
    have e : p + ((trs []).length : Int) = p := Int.add_zero p
    have e2 : n + 1 + (trs []).length = n + 1 := rfl
    rw [e, e2, f_X2_value_12, if_neg (Int.lt_irrefl p), gd_t (by decide)]
  | cons q L ih =>
    intro n p st d s hp hp2 hS hl hD hP hf
    have et : trs (q :: L) = tr q ++ trs L := rfl
    rw [et] at hp2 hS ⊢
    rw [List.length_append] at hp2 ⊢
    have hp3 : p + ((tr q).length : Int) + ((trs L).length : Int) ≤ 400 := by omega
    obtain ⟨hS1, hS2⟩ := (LsC_app _ _ _ _).mp hS
    obtain ⟨d1, hq, hD1⟩ := hD
    have hl1 := dok_len (fx := fx) hq
    obtain ⟨s1, e1, hP1, ho1⟩ := c_step (n := n + 1 + (trs L).length) (e := p + (tr q).length + (trs L).length) hp (by omega) hp3 hS1 hl hq hP hf
    obtain ⟨s2, e3, hP2, ho2⟩ := ih n (p + (tr q).length) (ev1 fx q st) d s1 (by omega) hp3 (by rw [ho1 16 (by decide)]; exact hS2) (by rw [hl1]; exact dok_in hq hl) (by rw [hl1]; exact hD1) hP1 (fun j h1 h2 => by rw [ho1 17 (by decide)]; exact hf j h1 h2)
    have e4 : p + (((tr q).length + (trs L).length : Nat) : Int) = p + ((tr q).length : Int) + ((trs L).length : Int) := by omega
    have e5 : n + 1 + ((tr q).length + (trs L).length) = n + 1 + (trs L).length + (tr q).length := by omega
    exact ⟨s2, by rw [e4, e5, e1, e3], hP2, fun a ha => (ho2 a ha).trans (ho1 a ha)⟩
/-- E or B whole -/
theorem c_value {fx : Int → Int} {L : List Sg} {p e v : Int} {s : Mem} (hp : 0 ≤ p) (he : e = p + (trs L).length) (hp2 : e ≤ 400) (hS : LsC (s 16) p (trs L)) (hD : Dp L 0 1) (hv : ev fx L [] = [v]) (hf : ∀ k : Int, 0 ≤ k → k < 10 → s 17 k = fx (k + 1)) :
    ∃ s1 : Mem, f_X2_value 12 p e s = some (v, s1) ∧ ∀ a : Nat, a ≠ 18 → s1 a = s a := by
  subst he
  have hfu : FU = FU - 1 - (trs L).length + 1 + (trs L).length := by
    have : FU = 6000 := rfl
    omega
  obtain ⟨s1, e1, hP, ho⟩ := c_run (fx := fx) L (FU - 1 - (trs L).length) p [] 1 (mup s 18 0 0) hp hp2 (by rw [mup_o (by decide)]; exact hS) (by decide) hD trivial (fun j h1 h2 => by rw [mup_o (by decide)]; exact hf j h1 h2)
  refine ⟨s1, ?_, fun a ha => (ho a ha).trans (mup_o ha)⟩
  unfold f_X2_value
  rw [gd_t (by decide), lm_s]
  rw [← hfu] at e1
  have e2 : (([] : List Int).length : Int) = 0 := rfl
  rw [e2] at e1
  have e3 : (12 : Nat) + 6 = 18 := rfl
  rw [e3, e1]
  rw [hv] at hP
  have h3 : s1 18 0 = v := hP.1
  rw [h3]

/-! ===== L3: texts: THE LAW: line by line ===== -/
section
variable {T : List Tk} {B : Int → Int} {L : Nat}
theorem l_lawR (hc : PC T B L 0) {bo : Int} : ∀ (j f1 f2 c : Nat) (lw : List Lin) (s t : Mem) (R : List Tk), R.length ≤ j → j < f1 → j + 1 < f2 → c + R.length ≤ T.length → LI T B L R lw s t → Two (f_X7_reads_71 236 0 bo f1 (c : Int) s) (f_X12_readsLaw_12 0 f2 1 t) s t (fun s1 t1 => ∃ (lw : List Lin) (R' : List Tk), R' ≠ [] ∧ LI T B L R' lw s1 t1) := by
  intro j
  induction j with
  | zero =>
    intro f1 f2 c lw s t R g1 g2 g3 g4 h
    obtain ⟨x, R', e⟩ := h.1.1.ne
    rw [e] at g1
    simp only [List.length_cons] at g1
    omega
  | succ j ih =>
    intro f1 f2 c lw s t R g1 g2 g3 g4 h
    obtain ⟨x, R', e⟩ := h.1.1.ne
    subst e
    have el : (x :: R').length = R'.length + 1 := List.length_cons
    have h401 := hc.2.2.1
    have h0 := h.1.1
    cases f1 with
    | zero => omega
    | succ f1 =>
      cases f2 with
      | zero => omega
      | succ f2 =>
        obtain ⟨i, i1, i2, i3, i4, i5, i6, i7⟩ := h0.at hc
        have hk0 := tk_eq hc.2.2.2.2 (h0.ok hc).1 (show TokD 30 by decide) (show tkm 0 30 = 0 by rfl) (by decide)
        rw [f_X7_reads_71, f_X12_readsLaw_12, i3, if_pos (by omega), bd_e (c_next hc h0), if_neg (show ¬ (1 : Int) = 0 by decide), h0.tk]
        by_cases c30 : x.1 = 30
        · rw [if_pos c30, if_pos (hk0.mpr c30)]
          exact Two.ok rfl rfl (FC.rf s) (FM.rf t) ⟨lw, x :: R', List.cons_ne_nil _ _, h⟩
        · rw [if_neg c30, if_neg (fun z => c30 (hk0.mp z)), jn_s, if_pos (show (0 : Int) = 0 from rfl)]
          rcases l_law hc h with ⟨s1, t1, a1, a2, a3, a4, R2, l, b1, b2, b3⟩ | ⟨s1, t1, a1, a2, a3, a4, a5⟩
          · rw [bd_e a1, bd_e a2, jn_s, if_neg (show ¬ (1 : Int) = 0 by decide)]
            show Two (if (1 : Int) = 0 then _ else _) (lm _ _) s t _
            have hl16 : lw.length ≤ 16 := h.2.1.2.1
            rw [if_neg (show ¬ (1 : Int) = 0 by decide), b3, lm_s, wr_s (by omega), wr_s (by omega)]
            have g5 : FM t (mup t1 0 13 ((lw.length + 1 : Nat) : Int)) := a4.up0 (by decide) _
            have nx := ih f1 f2 (c + 1) (lw ++ [l]) s1 (mup t1 0 13 ((lw.length + 1 : Nat) : Int)) R2 (by omega) (by omega) (by omega) (by omega) b1
            exact nx.fr a3 g5
          · rw [bd_e a1, bd_e a2, jn_s, if_pos rfl]
            show Two (if (0 : Int) = 0 then _ else _) (lm _ _) s t _
            rw [if_pos rfl, lm_s]
            cases f2 with
            | zero => omega
            | succ f2 =>
              rw [f_X12_readsLaw_12, if_pos rfl]
              exact Or.inr ⟨s1, _, rfl, rfl, ⟨a3.1.trans (mup_n (Or.inr (by decide))).symm, a3.2.trans (mup_n (Or.inr (by decide))).symm⟩, a4, a5.up0 (by decide) _⟩
end
/-! what stands then -/
theorem nSt_stps : ∀ lw : List Lin, nSt lw = (stps lw).length
  | [] => rfl
  | l :: r => by
    have ih := nSt_stps r
    show l.2.1.length + l.2.2.length + nSt r = (l.2.1 ++ (l.2.2 ++ stps r)).length
    rw [List.length_append, List.length_append, ih]
    omega
theorem nCo_cods : ∀ lw : List Lin, nCo lw = (cods lw).length
  | [] => rfl
  | l :: r => by
    have ih := nCo_cods r
    show (trs l.2.1).length + (trs l.2.2).length + nCo r = (trs l.2.1 ++ (trs l.2.2 ++ cods r)).length
    rw [List.length_append, List.length_append, ih]
    omega
theorem LA_law {f1 f2 f3 f4 : Int → Int} : ∀ (r : List Lin) (i p : Int), LA f1 f2 f3 i p r → LsC f4 p (cods r) → LwC f1 f2 f3 f4 i p r
  | [], _, _, _, _ => trivial
  | l :: r, i, p, h, q => by
    obtain ⟨h1, h2, h3, h4⟩ := h
    have q1 := (LsC_app _ _ _ _).mp q
    have q2 := (LsC_app _ _ _ _).mp q1.2
    exact ⟨h1, h2, h3, q1.1, q2.1, LA_law r _ _ h4 q2.2⟩
theorem StF_M {f w : Int → Int} : ∀ (E : List Sg) (p : Int), StF f p E → (∀ q : Int, 2 * p ≤ q → q < 2 * (p + E.length) → w (912 + q) = f q) → StM w p E
  | [], _, _, _ => trivial
  | c :: E, p, h, q => by
    have e : ((c :: E).length : Int) = (E.length : Int) + 1 := by rw [List.length_cons]; omega
    have e1 : 912 + 2 * p + 1 = 912 + (2 * p + 1) := by omega
    exact ⟨by rw [q _ (by omega) (by omega)]; exact h.1, by rw [e1, q _ (by omega) (by omega)]; exact h.2.1, StF_M E (p + 1) h.2.2 (fun x h1 h2 => q x (by omega) (by omega))⟩
theorem MA_law {f5 f6 w : Int → Int} : ∀ (r : List Lin) (i p : Int), MA f5 i p r → StF f6 p (stps r) → (∀ k : Int, i ≤ k → k < i + r.length → w (848 + k) = f5 (4 * k) ∧ w (864 + k) = f5 (4 * k + 1) ∧ w (880 + k) = f5 (4 * k + 2) ∧ w (896 + k) = f5 (4 * k + 3)) → (∀ q : Int, 2 * p ≤ q → q < 2 * (p + (stps r).length) → w (912 + q) = f6 q) → LwM w i p r
  | [], _, _, _, _, _, _ => trivial
  | l :: r, i, p, h, q, u, v => by
    have e : ((l :: r).length : Int) = (r.length : Int) + 1 := by rw [List.length_cons]; omega
    have e2 := stps_len l r
    obtain ⟨h1, h2, h3, h4, h5⟩ := h
    have q1 := (StF_app _ _ _ _).mp q
    have q2 := (StF_app _ _ _ _).mp q1.2
    obtain ⟨u1, u2, u3, u4⟩ := u i (by omega) (by omega)
    refine ⟨u4.trans h1, u1.trans h2, u2.trans h3, u3.trans h4, StF_M _ _ q1.1 (fun x g1 g2 => v x (by omega) (by omega)), StF_M _ _ q2.1 (fun x g1 g2 => v x (by omega) (by omega)), MA_law r _ _ h5 q2.2 (fun k g1 g2 => u k (by omega) (by omega)) (fun x g1 g2 => v x (by omega) (by omega))⟩
theorem LI.ok {T : List Tk} {B : Int → Int} {L : Nat} {s t : Mem} {R : List Tk} {lw : List Lin} (hT : T.length ≤ 401) (hR : R ≠ []) (h : LI T B L R lw s t) : OkW lw ∧ LawC s 237 lw := by
  obtain ⟨h1, ⟨h2, h3, h4⟩, ⟨h5, h6⟩, h7, h8, h9⟩ := h
  have lR : 1 ≤ R.length := by
    cases R with
    | nil => exact absurd rfl hR
    | cons x R => rw [List.length_cons]; omega
  exact ⟨⟨h3, by rw [nSt_stps]; omega, by rw [nCo_cods]; omega, h7⟩, h2, LA_law lw 0 0 h4 h1.2.1.1⟩

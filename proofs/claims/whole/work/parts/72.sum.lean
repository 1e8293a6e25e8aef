/-! ===== L3: texts: THE LAW: what both put down ===== -/
def StF (f : Int → Int) : Int → List Sg → Prop
  | _, [] => True
  | p, q :: L => f (2 * p) = q.1 ∧ f (2 * p + 1) = q.2 ∧ StF f (p + 1) L
theorem StF_app (f : Int → Int) : ∀ (L M : List Sg) (p : Int), StF f p (L ++ M) ↔ StF f p L ∧ StF f (p + L.length) M
  | [], M, p => by
    have e : p + (([] : List Sg).length : Int) = p := Int.add_zero p
    rw [e]
    exact ⟨fun h => ⟨trivial, h⟩, fun h => h.2⟩
  | c :: L, M, p => by
    have e : p + ((c :: L).length : Int) = p + 1 + (L.length : Int) := by rw [List.length_cons]; omega
    rw [e]
    have ih := StF_app f L M (p + 1)
    exact ⟨fun h => ⟨⟨h.1, h.2.1, (ih.mp h.2.2).1⟩, (ih.mp h.2.2).2⟩, fun h => ⟨h.1.1, h.1.2.1, ih.mpr ⟨h.1.2.2, h.2⟩⟩⟩
theorem StF_cg {f g : Int → Int} : ∀ (L : List Sg) (p : Int), (∀ i : Int, 2 * p ≤ i → i < 2 * (p + L.length) → g i = f i) → StF f p L → StF g p L
  | [], _, _, _ => trivial
  | c :: L, p, q, h => by
    have e : ((c :: L).length : Int) = (L.length : Int) + 1 := by rw [List.length_cons]; omega
    exact ⟨by rw [q _ (by omega) (by omega)]; exact h.1, by rw [q _ (by omega) (by omega)]; exact h.2.1, StF_cg L (p + 1) (fun i h1 h2 => q i (by omega) (by omega)) h.2.2⟩
def FSc (s s1 : Mem) : Prop := (∀ c : Nat, c ≠ 236 → c ≠ 237 → c ≠ 241 → s1 c = s c) ∧ (∀ i : Int, i ≠ 5 → s1 237 i = s 237 i) ∧ ∀ i : Int, i ≠ 12 → i ≠ 13 → s1 236 i = s 236 i
def FSm (t t1 : Mem) : Prop := (∀ c : Nat, c ≠ 0 → c ≠ 6 → t1 c = t c) ∧ ∀ i : Int, i ≠ 14 → i ≠ 17 → i ≠ 18 → i ≠ 19 → i ≠ 20 → t1 0 i = t 0 i
theorem FSc.rf (s : Mem) : FSc s s := ⟨fun _ _ _ _ => rfl, fun _ _ => rfl, fun _ _ _ => rfl⟩
theorem FSm.rf (t : Mem) : FSm t t := ⟨fun _ _ _ => rfl, fun _ _ _ _ _ _ => rfl⟩
theorem FSc.tr {s s1 s2 : Mem} (a : FSc s s1) (b : FSc s1 s2) : FSc s s2 := ⟨fun c x y z => (b.1 c x y z).trans (a.1 c x y z), fun i x => (b.2.1 i x).trans (a.2.1 i x), fun i x y => (b.2.2 i x y).trans (a.2.2 i x y)⟩
theorem FSm.tr {s s1 s2 : Mem} (a : FSm s s1) (b : FSm s1 s2) : FSm s s2 := ⟨fun c x y => (b.1 c x y).trans (a.1 c x y), fun i x y z u v => (b.2 i x y z u v).trans (a.2 i x y z u v)⟩
theorem FSc.fc {s s1 : Mem} (a : FSc s s1) : FC s s1 := ⟨fun c hc => a.1 c (by omega) (by omega) (by omega), a.2.2 4 (by decide) (by decide), a.2.2 5 (by decide) (by decide), a.2.2 6 (by decide) (by decide)⟩
theorem FSm.fm {s s1 : Mem} (a : FSm s s1) : FM s s1 := ⟨fun c x _ y _ => a.1 c x y, fun i hi => a.2 i (by omega) (by omega) (by omega) (by omega) (by omega)⟩
theorem FSm.f4 {t t1 : Mem} (h : Fr4 t t1) : FSm t t1 := ⟨fun c a _ => h.1 c a, fun i _ b c d e => h.2 i b c d e⟩
theorem adv_fs (s : Mem) : FSc s (adv s) := ⟨fun _ c _ _ => adv_r c, fun _ _ => by rw [adv_r (by decide)], fun _ a _ => adv_o (Or.inr a)⟩
/-- both so far: what is left of the tokens, the class's codes, the model's steps -/
def SL (T : List Tk) (B : Int → Int) (L : Nat) (s t : Mem) (R : List Tk) (K : List Int) (G : List Sg) : Prop := PT T B L 0 s t R ∧ (LsC (s 241) 0 K ∧ s 237 5 = K.length) ∧ (StF (t 6) 0 G ∧ t 0 14 = G.length)
section
variable {T : List Tk} {B : Int → Int} {L : Nat} {s t : Mem} {x : Tk} {R : List Tk} {K : List Int} {G : List Sg}
theorem SL.put (h : SL T B L s t R K G) (hK : K.length < 400) (v : Int) : ∃ s1 : Mem, f_X2_put 237 v s = some (0, s1) ∧ SL T B L s1 t R (K ++ [v]) G ∧ FSc s s1 := by
  obtain ⟨h1, ⟨h2, h3⟩, h4⟩ := h
  unfold f_X2_put
  simp only [Nat.reduceAdd]
  have e5 : mup s 241 (K.length : Int) v 237 5 = K.length := by rw [mup_o (by decide)]; exact h3
  rw [h3, if_pos (by omega), gd_t (by omega), lm_s, e5, wr_n (by omega), lm_s]
  refine ⟨_, rfl, ⟨h1.sc (fun c hc => by rw [mup_o (by omega), mup_o (by omega)]) ⟨by rw [mup_o (by decide), mup_o (by decide)], by rw [mup_o (by decide), mup_o (by decide)]⟩ (fun _ _ => rfl) rfl, ⟨?_, ?_⟩, h4⟩, ?_⟩
  · rw [mup_o (by decide), mup_row]
    refine (LsC_app _ _ _ _).mpr ⟨LsC_up K 0 h2 (by omega), ?_, trivial⟩
    exact up_eq (by omega)
  · rw [mup_e rfl rfl, List.length_append]
    rfl
  · exact ⟨fun c q1 q2 q3 => by rw [mup_o q2, mup_o q3], fun i hi => by rw [mup_n (Or.inr hi), mup_o (by decide)], fun i _ _ => by rw [mup_o (by decide), mup_o (by decide)]⟩
theorem SL.lay (h : SL T B L s t R K G) (hG : G.length < 410) (k v : Int) : ∃ t1 : Mem, f_X12_lay 0 k v t = some (0, t1) ∧ SL T B L s t1 R K (G ++ [(k, v)]) ∧ FSm t t1 := by
  obtain ⟨h1, h2, h3, h4⟩ := h
  unfold f_X12_lay
  simp only [Nat.reduceAdd, Nat.zero_add]
  have e5 : ∀ w : Int, mup t 6 w k 0 14 = G.length := fun w => by rw [mup_o (by decide)]; exact h4
  have e6 : ∀ w z : Int, mup (mup t 6 w k) 6 z v 0 14 = G.length := fun w z => by rw [mup_o (by decide), mup_o (by decide)]; exact h4
  rw [h4, wr_n (x := 2 * (G.length : Int)) (by omega), gd_t (by omega), lm_s, e5, wr_n (x := 2 * (G.length : Int)) (by omega), wr_n (x := 2 * (G.length : Int) + 1) (by omega), gd_t (by omega), lm_s, e6, wr_n (by omega), lm_s]
  refine ⟨_, rfl, ⟨h1.sc (fun _ _ => rfl) ⟨rfl, rfl⟩ (fun i hi => by rw [mup_n (Or.inr (by omega)), mup_o (by decide), mup_o (by decide)]) (by rw [mup_o (by decide), mup_o (by decide), mup_o (by decide)]), h2, ?_, ?_⟩, ?_⟩
  · rw [mup_o (by decide), mup_row, mup_row]
    refine (StF_app _ _ _ _).mpr ⟨StF_cg G 0 (fun i q1 q2 => by rw [up_ne (by omega), up_ne (by omega)]) h3, ?_, ?_, trivial⟩
    · rw [up_ne (by omega), up_eq (by omega)]
    · rw [up_eq (by omega)]
  · rw [mup_e rfl rfl, List.length_append]
    rfl
  · exact ⟨fun c q1 q2 => by rw [mup_o q1, mup_o q2, mup_o q2], fun i hi _ _ _ _ => by rw [mup_n (Or.inr hi), mup_o (by decide), mup_o (by decide)]⟩
theorem SL.nx (hc : PC T B L 0) (h : SL T B L s t (x :: R) K G) (hx : x.1 ≠ 30) : ∃ t1 : Mem, f_X12_next0 0 t = some (0, t1) ∧ SL T B L (adv s) t1 R K G ∧ FSm t t1 ∧ mup s 236 12 (wr (s 236 12 + 1)) = adv s := by
  obtain ⟨h1, h2, h3⟩ := h
  obtain ⟨t1, a1, a2, a3, a4⟩ := both_adv hc h1 hx
  refine ⟨t1, a1, ⟨a2, ?_, ?_⟩, FSm.f4 a3, by rw [a4]; rfl⟩
  · rw [adv_r (by decide), adv_r (by decide)]
    exact h2
  · rw [a3.1 6 (by decide), a3.2 14 (by decide) (by decide) (by decide) (by decide)]
    exact h3
def TwoL (o1 o2 : Res) (s t : Mem) (Q : Mem → Mem → Prop) : Prop := (∃ s1 t1 : Mem, o1 = some (1, s1) ∧ o2 = some (1, t1) ∧ FSc s s1 ∧ FSm t t1 ∧ Q s1 t1) ∨ (∃ s1 t1 : Mem, o1 = some (0, s1) ∧ o2 = some (0, t1) ∧ Er s1 t1 ∧ FD s s1 ∧ FM t t1)
theorem TwoL.fr {o1 o2 : Res} {s1 t1 : Mem} {Q : Mem → Mem → Prop} (f : FSc s s1) (g : FSm t t1) (h : TwoL o1 o2 s1 t1 Q) : TwoL o1 o2 s t Q := by
  rcases h with ⟨s2, t2, z1, z2, z3, z4, z5⟩ | ⟨s2, t2, z1, z2, z3, z4, z5⟩
  · exact Or.inl ⟨s2, t2, z1, z2, f.tr z3, g.tr z4, z5⟩
  · exact Or.inr ⟨s2, t2, z1, z2, z3, f.fc.tl z4, g.fm.tr z5⟩
theorem TwoL.b {o1 o2 : Res} {k1 k2 : Int → Mem → Res} {P Q : Mem → Mem → Prop} (h : TwoL o1 o2 s t P) (h1 : ∀ s1 : Mem, k1 0 s1 = some (0, s1)) (h2 : ∀ t1 : Mem, k2 0 t1 = some (0, t1)) (hk : ∀ s1 t1 : Mem, FSc s s1 → FSm t t1 → P s1 t1 → TwoL (k1 1 s1) (k2 1 t1) s1 t1 Q) : TwoL (bd o1 k1) (bd o2 k2) s t Q := by
  rcases h with ⟨s1, t1, a1, a2, a3, a4, a5⟩ | ⟨s1, t1, a1, a2, a3, a4, a5⟩
  · rw [bd_e a1, bd_e a2]
    exact (hk s1 t1 a3 a4 a5).fr a3 a4
  · rw [bd_e a1, bd_e a2]
    exact Or.inr ⟨s1, t1, h1 s1, h2 t1, a3, a4, a5⟩
theorem TwoL.bad (hc : PC T B L 0) (h : SL T B L s t (x :: R) K G) (why : Int) {Q : Mem → Mem → Prop} {o1 o2 : Res} (h1 : o1 = f_X7_refuse 236 why s) (h2 : o2 = f_X12_bad 0 why t) : TwoL o1 o2 s t Q := by
  obtain ⟨s1, t1, a1, a2, a3, a4, a5⟩ := c_refuse hc h.1 why
  exact Or.inr ⟨s1, t1, h1.trans a1, h2.trans a2, a3, a4, a5⟩
theorem bd_id (o : Res) : bd o (fun r s => some (r, s)) = o := by
  cases o with
  | none => rfl
  | some q => rfl
theorem nm_all : (List.range 63).all (fun x => decide (TokD (x : Int) → ((41 ≤ tkm 0 (x : Int) ∧ tkm 0 (x : Int) ≤ 50) ↔ (0 ≤ (x : Int) ∧ (x : Int) ≤ 9)) ∧ ((0 ≤ (x : Int) ∧ (x : Int) ≤ 9) → tkm 0 (x : Int) = 41 + x))) = true := by decide +kernel
theorem nm_tk {x : Int} (hx : TokD x) : ((41 ≤ tkm 0 x ∧ tkm 0 x ≤ 50) ↔ (0 ≤ x ∧ x ≤ 9)) ∧ ((0 ≤ x ∧ x ≤ 9) → tkm 0 x = 41 + x) := by
  have xi : 0 ≤ x ∧ x < 63 := by omega
  have ex : ((x.toNat : Nat) : Int) = x := by omega
  have q := of_decide_eq_true (List.all_eq_true.mp nm_all x.toNat (List.mem_range.mpr (by omega)))
  rw [ex] at q
  exact q hx
/-- a number or a name -/
def isU (q : Sg) : Prop := 0 ≤ q.1 ∧ q.1 ≤ 10 ∧ (q.1 = 0 → 0 ≤ q.2 ∧ q.2 ≤ 9999)
theorem l_fac (hc : PC T B L 0) (h : SL T B L s t (x :: R) K G) (hK : K.length + (R.length + 1) ≤ T.length) (hG : G.length + (R.length + 1) ≤ T.length) : TwoL (f_X7_factor 236 s) (f_X12_unit 0 t) s t (fun s1 t1 => ∃ q : Sg, isU q ∧ SL T B L s1 t1 R (K ++ tr q) (G ++ [q]) ∧ (tr q).length = 1) := by
  have h0 := h.1
  have hT := hc.2.2.1
  obtain ⟨i, i1, i2, i3, i4, i5, i6, i7⟩ := h0.at hc
  have hk := tk_eq hc.2.2.2.2 (h0.ok hc).1 (show TokD 31 by decide) (num_tk hc.2.2.2.2) (by decide)
  have hok := h0.ok hc
  have e58 : s (236 + 22) (s 236 12) = x.2.1 := by
    rw [i1]
    exact i5
  unfold f_X7_factor f_X12_unit
  simp only [Nat.reduceAdd]
  have e58 : s 258 (s 236 12) = x.2.1 := by
    rw [i1]
    exact i5
  rw [bd_e (c_next hc h0), jn_s, bd_e (e_isIn _ _ _ _), jn_s, h0.tk]
  have hne : x.1 ≠ 30 → 1 ≤ R.length := fun hx => by
    obtain ⟨t1, a1, a2, -⟩ := SL.nx hc h hx
    obtain ⟨y, R', e⟩ := a2.1.ne
    rw [e, List.length_cons]
    omega
  by_cases c1 : x.1 = 31
  · have hl := hne (by omega)
    have hnm : ¬ (41 ≤ tkm 0 x.1 ∧ tkm 0 x.1 ≤ 50) := by
      rw [hk.mpr c1]
      decide
    rw [if_pos c1, if_pos (hk.mpr c1), gd_t (by omega), e58]
    show TwoL _ (jn _ _) s t _
    rw [jn_s, bI_z, if_neg hnm]
    show TwoL _ (bd (f_X12_lay 0 0 (t 0 20) t) _) s t _
    obtain ⟨s1, a1, a2, a3⟩ := h.put (by omega) x.2.1
    obtain ⟨t1, b1, b2, b3⟩ := a2.lay (by omega) 0 (t 0 20)
    obtain ⟨t2, d1, d2, d3, d4⟩ := SL.nx hc b2 (by omega)
    rw [bd_e a1, bd_e b1]
    show TwoL (lm _ _) _ s t _
    rw [d4, lm_s, bd_e d1]
    have hv := h0.val c1
    rw [hv] at d2
    refine Or.inl ⟨_, _, rfl, rfl, a3.tr (adv_fs s1), b3.tr d3, (0, x.2.1), ⟨Int.le_refl 0, show (0 : Int) ≤ 10 by decide, fun _ => hok.2⟩, d2, rfl⟩
  · rw [if_neg c1, if_neg (fun z => c1 (hk.mp z)), bd_e (e_within _ _ _ _), bI_z, bI_z]
    have hnm : (41 ≤ tkm 0 x.1 ∧ tkm 0 x.1 ≤ 50) ↔ (0 ≤ x.1 ∧ x.1 ≤ 9) := by
      have := nm_tk hok.1
      exact this.1
    by_cases c2 : 0 ≤ x.1 ∧ x.1 ≤ 9
    · have hl := hne (by omega)
      have hv := (nm_tk hok.1).2 c2
      rw [if_pos c2, if_pos (hnm.mpr c2)]
      show TwoL _ (jn _ _) s t _
      rw [jn_s, bI_z, if_pos (hnm.mpr c2), hv, wr_n (x := 10000 + x.1) (by omega), wr_n (by omega)]
      show TwoL _ (bd (f_X12_lay 0 (41 + x.1 - 40) (t 0 20) t) _) s t _
      obtain ⟨s1, a1, a2, a3⟩ := h.put (by omega) (10000 + x.1)
      obtain ⟨t1, b1, b2, b3⟩ := a2.lay (by omega) (41 + x.1 - 40) (t 0 20)
      obtain ⟨t2, d1, d2, d3, d4⟩ := SL.nx hc b2 (by omega)
      rw [bd_e a1, bd_e b1]
      show TwoL (lm _ _) _ s t _
      rw [d4, lm_s, bd_e d1]
      have et : tr (41 + x.1 - 40, t 0 20) = [10000 + x.1] := by
        unfold tr
        rw [if_neg (show ¬ (41 + x.1 - 40 = 0) by omega), if_pos (show 41 + x.1 - 40 ≤ 10 by omega)]
        have : (10000 : Int) + (41 + x.1 - 40 - 1) = 10000 + x.1 := by omega
        rw [this]
      refine Or.inl ⟨_, _, rfl, rfl, a3.tr (adv_fs s1), b3.tr d3, (41 + x.1 - 40, t 0 20), ⟨by show 0 ≤ 41 + x.1 - 40; omega, by show 41 + x.1 - 40 ≤ 10; omega, fun z => ?_⟩, by rw [et]; exact d2, by rw [et]; rfl⟩
      have z' : 41 + x.1 - 40 = 0 := z
      omega
    · rw [if_neg c2, if_neg (fun z => c2 (hnm.mp z)), bd_id, bd_id]
      exact TwoL.bad hc h 1 rfl rfl
end

/-! ===== what is known at the start ===== -/
theorem hts_gt {args : Array Value} {s : State} (hts : ∀ w ∈ lw_tbl, w.before args s = true) : ∀ w ∈ GT, w.before args s = true := fun w hw => hts w (List.mem_filter.mp hw).1
theorem kn_cl {args : Array Value} {s : State} (ht : ∀ w ∈ GT, w.before args s = true) : ∃ D : va_G, ∀ (k : Nat) (q : vw_C), vwCl[k]? = some q → u_Kn s q.1 q.2.1 q.2.2 (D.1 k) (D.2 k) := by
  obtain ⟨c0, i0, h0⟩ := u_known (C := RX0) (T := TX0) (N := 5) (n := 5) ht in_0 (ht _ nw_0.1)
  obtain ⟨c1, i1, h1⟩ := u_known (C := RX1) (T := TX1) (N := 3) (n := 3) ht in_1 (ht _ nw_1.1)
  obtain ⟨c2, i2, h2⟩ := u_known (C := RX2) (T := TX2) (N := 8) (n := 8) ht in_2 (ht _ nw_2.1)
  obtain ⟨c3, i3, h3⟩ := u_known (C := RX3) (T := TX3) (N := 3) (n := 3) ht in_3 (ht _ nw_3.1)
  obtain ⟨c4, i4, h4⟩ := u_known (C := RX4) (T := TX4) (N := 17) (n := 17) ht in_4 (ht _ nw_4.1)
  obtain ⟨c5, i5, h5⟩ := u_known (C := RX5) (T := TX5) (N := 3) (n := 3) ht in_5 (ht _ nw_5.1)
  obtain ⟨c6, i6, h6⟩ := u_known (C := RX6) (T := TX6) (N := 5) (n := 5) ht in_6 (ht _ nw_6.1)
  obtain ⟨c7, i7, h7⟩ := u_known (C := RX7) (T := TX7) (N := 18) (n := 18) ht in_7 (ht _ nw_7.1)
  obtain ⟨c8, i8, h8⟩ := u_known (C := RX8) (T := TX8) (N := 3) (n := 3) ht in_8 (ht _ nw_8.1)
  obtain ⟨c9, i9, h9⟩ := u_known (C := RX9) (T := TX9) (N := 4) (n := 4) ht in_9 (ht _ nw_9.1)
  obtain ⟨c10, i10, h10⟩ := u_known (C := RX10) (T := TX10) (N := 8) (n := 8) ht in_10 (ht _ nw_10.1)
  obtain ⟨c11, i11, h11⟩ := u_known (C := RX11) (T := TX11) (N := 6) (n := 6) ht in_11 (ht _ nw_11.1)
  obtain ⟨c12, i12, h12⟩ := u_known (C := RX12) (T := TX12) (N := 30) (n := 30) ht in_12 (ht _ nw_12.1)
  refine ⟨(fun k => [c0, c1, c2, c3, c4, c5, c6, c7, c8, c9, c10, c11, c12].getD k c0, fun k => [i0, i1, i2, i3, i4, i5, i6, i7, i8, i9, i10, i11, i12].getD k i0), fun k q hq => ?_⟩
  match k, hq with
  | 0, hq => cases hq; exact h0
  | 1, hq => cases hq; exact h1
  | 2, hq => cases hq; exact h2
  | 3, hq => cases hq; exact h3
  | 4, hq => cases hq; exact h4
  | 5, hq => cases hq; exact h5
  | 6, hq => cases hq; exact h6
  | 7, hq => cases hq; exact h7
  | 8, hq => cases hq; exact h8
  | 9, hq => cases hq; exact h9
  | 10, hq => cases hq; exact h10
  | 11, hq => cases hq; exact h11
  | 12, hq => cases hq; exact h12
  | k + 13, hq => simp [vwCl] at hq
theorem ow_3 : Cond.arrayOver (.object "FogArrows$Night") ∈ lw_tbl := by decide +kernel
theorem kn_ai {args : Array Value} {s : State} (ht : ∀ w ∈ GT, w.before args s = true) : ∃ cA : ClassId, ArrOfT s cA .int ∧ va_RA s cA .int := by
  obtain ⟨cA, kA, comp, h1, h2, h3⟩ := Cond.arrayClass_spec (args := args) (first := s) (o := none) (s := s) (idx := []) (type := .int) (ht _ ow_2)
  exact ⟨cA, fun n z => ⟨fun k h => (by cases h), kA, h2, comp, h3⟩, h1⟩
theorem kn_aq {args : Array Value} {s : State} (hts : ∀ w ∈ lw_tbl, w.before args s = true) : ∃ cQ : ClassId, ArrOfT s cQ (.object "FogArrows$Night") ∧ va_RA s cQ (.object "FogArrows$Night") := by
  obtain ⟨comp, c, k, h1, h2, h3, h4, h5⟩ := Cond.arrayOver_spec (args := args) (first := s) (o := none) (s := s) (idx := []) (n := "FogArrows$Night") (hts _ ow_3)
  exact ⟨c, fun n z => ⟨fun k h => (by cases h), k, h3, comp, h4⟩, k, comp, h3, h4, h1, h5⟩
theorem kn_tabs {args : Array Value} {s : State} (hts : ∀ w ∈ lw_tbl, w.before args s = true) : Tabs s := by
  intro w hw
  obtain ⟨h1, h2⟩ := List.mem_filter.mp hw
  have h3 := hts w h1
  unfold isNest at h2
  split at h2
  · exact va_Nw.of rfl h3
  · cases h2
/-! the String constants -/
def tmS (i : Nat) : Term := .string (strR.getD i ("", 0, "", 0)).1 (strR.getD i ("", 0, "", 0)).2.1
def FLN : List Cond := flatC (Cond.and given_1 narrow_1)
def expS (i : Nat) : List Cond := [Cond.exactly (tmS i) "java/lang/String", Cond.eq (.field (tmS i) "java/lang/String" "coder" "B") (.int 0), Cond.arrayOf (.field (tmS i) "java/lang/String" "value" "[B") .byte, Cond.eq (.length (.field (tmS i) "java/lang/String" "value" "[B")) (.int (Int32.ofNat (strL.getD i 0)))] ++ (List.range (strL.getD i 0)).map (fun j => Cond.eq (.elem (.field (tmS i) "java/lang/String" "value" "[B") (.int (Int32.ofNat j))) (.int ((strB.getD i []).getD j 0)))
def orS : List Nat := [1, 0, 12, 13, 14, 15, 16, 17, 18, 19, 2, 3, 4, 5, 6, 7, 8, 9, 10, 11, 27, 28, 20, 21, 22, 23, 24, 25, 26]
theorem fln_eq : FLN.drop 9 = orS.flatMap expS := by decide +kernel
theorem orS_all : ∀ i, i < nStr → i ∈ orS := by decide +kernel
theorem fln_m {i : Nat} {w : Cond} (hi : i < nStr) (h : w ∈ expS i) : w ∈ FLN := by
  have h1 : w ∈ FLN.drop 9 := by
    rw [fln_eq]
    exact List.mem_flatMap.mpr ⟨i, orS_all i hi, h⟩
  exact List.mem_of_mem_drop h1
theorem exp_4 {i : Nat} : Cond.exactly (tmS i) "java/lang/String" ∈ expS i ∧ Cond.eq (.field (tmS i) "java/lang/String" "coder" "B") (.int 0) ∈ expS i ∧ Cond.arrayOf (.field (tmS i) "java/lang/String" "value" "[B") .byte ∈ expS i ∧ Cond.eq (.length (.field (tmS i) "java/lang/String" "value" "[B")) (.int (Int32.ofNat (strL.getD i 0))) ∈ expS i := by
  refine ⟨?_, ?_, ?_, ?_⟩
  · exact List.mem_append_left _ List.mem_cons_self
  · exact List.mem_append_left _ (List.mem_cons_of_mem _ List.mem_cons_self)
  · exact List.mem_append_left _ (List.mem_cons_of_mem _ (List.mem_cons_of_mem _ List.mem_cons_self))
  · exact List.mem_append_left _ (List.mem_cons_of_mem _ (List.mem_cons_of_mem _ (List.mem_cons_of_mem _ List.mem_cons_self)))
theorem exp_e {i j : Nat} (hj : j < strL.getD i 0) : Cond.eq (.elem (.field (tmS i) "java/lang/String" "value" "[B") (.int (Int32.ofNat j))) (.int ((strB.getD i []).getD j 0)) ∈ expS i := List.mem_append_right _ (List.mem_map.mpr ⟨j, List.mem_range.mpr hj, rfl⟩)
theorem m_in : ∀ i, i < nStr → ∀ j, j < nStr → strL.getD i 0 = strL.getD j 0 → (∀ k, k < strL.getD i 0 → (strB.getD i []).getD k 0 = (strB.getD j []).getD k 0) → i = j := by decide +kernel
theorem m_ref : ∀ i, i < nStr → Cond.stringRef (strR.getD i ("", 0, "", 0)).1 (strR.getD i ("", 0, "", 0)).2.1 (strR.getD i ("", 0, "", 0)).2.2.1 ∈ lw_tbl := by decide +kernel
theorem m_idx : ∀ q ∈ strR, q.2.2.2 < nStr ∧ strR.getD q.2.2.2 ("", 0, "", 0) = q := by decide +kernel
theorem len_lt : ∀ i, i < nStr → strL.getD i 0 < 1000 := by decide +kernel
theorem kn_str {args : Array Value} {s : State} {A : Nat → Prop} (hgv : (Jvm.Cond.and given_1 narrow_1).before args s = true) (hA : ∀ a : Nat, a < s.heap.size → ¬ A a) : ∃ adK adV : Nat → Nat, vk_S nStr strL strB adK adV A s s.heap ∧ ∀ i : Nat, i < nStr → (tmS i).eval args s none [] s = some (.ref (adK i)) := by
  have hs : ∀ w ∈ FLN, w.before args s = true := flat_of_before _ hgv
  have h0 : ∀ i : Nat, ∃ q : Nat × Nat, i < nStr → (tmS i).eval args s none [] s = some (.ref q.1) ∧ va_O "java/lang/String" q.1 A s s.heap ∧ va_OF "java/lang/String" "coder" "B" (.int 0) q.1 A s s.heap ∧ va_OF "java/lang/String" "value" "[B" (.ref q.2) q.1 A s s.heap ∧ va_T .byte q.2 (strL.getD i 0) (fun j => .int ((strB.getD i []).getD j 0)) A s s.heap := by
    intro i
    by_cases hi : i < nStr
    · obtain ⟨e1, e2, e3, e4⟩ := exp_4 (i := i)
      obtain ⟨a, c, cA, kA, q1, q2, q3, q4, q5, q6, -⟩ := Cond.exactly_spec (args := args) (first := s) (o := none) (s := s) (idx := []) (t := tmS i) (cls := "java/lang/String") (hs _ (fln_m hi e1))
      have hlt := len_lt i hi
      obtain ⟨t, ht, hT⟩ := va_Tof (f := fun j => .int ((strB.getD i []).getD j 0)) (A := A) (by omega) (hs _ (fln_m hi e3)) (va_eqt (hs _ (fln_m hi e4))) (fun j hj => va_eqt (hs _ (fln_m hi (exp_e hj)))) hA
      exact ⟨(a, t), fun _ => ⟨q1, ⟨cA, q3, q5, by rw [q6]; exact q2, hA a (Array.getElem?_eq_some_iff.mp q3).1⟩, vk_OFof q1 (va_eqt (hs _ (fln_m hi e2))) hA, vk_OFof q1 ht hA, hT⟩⟩
    · exact ⟨(0, 0), fun h => absurd h hi⟩
  obtain ⟨ad, had⟩ := Classical.axiomOfChoice h0
  refine ⟨fun i => (ad i).1, fun i => (ad i).2, ⟨fun i hi => (had i hi).2, fun i j hi hj e => ?_⟩, fun i hi => (had i hi).1⟩
  obtain ⟨-, -, -, ⟨cf, k, x, f, cell, a1, a2, a3, a4, a5, a6⟩, cl1, b1, b2, b3, b4, b5, b6, b7⟩ := had i hi
  obtain ⟨-, -, -, ⟨cf', k', x', f', cell', a1', a2', a3', a4', a5', a6'⟩, cl1', b1', b2', b3', b4', b5', b6', b7'⟩ := had j hj
  have e' : (ad i).1 = (ad j).1 := e
  have ef := Option.some.inj (a1.symm.trans a1')
  have ef' : f = f' := by
    injection ef with _ ef
    injection ef with _ ef
    injection ef with _ ef
  rw [← e'] at a3'
  have ec := Option.some.inj (a3.symm.trans a3')
  rw [← ec, ← ef'] at a5'
  have ev : (ad i).2 = (ad j).2 := Value.ref.inj (Option.some.inj (a5.symm.trans a5'))
  rw [← ev] at b1'
  have ecl := Option.some.inj (b1.symm.trans b1')
  rw [← ecl] at b5' b6'
  have l1 := len_lt i hi
  have l2 := len_lt j hj
  have el : strL.getD i 0 = strL.getD j 0 := (nI_eq (by omega) (by omega)).mp (b5.symm.trans b5')
  exact m_in i hi j hj el (fun q hq => Value.int.inj (Option.some.inj ((b6 q hq).symm.trans (b6' q (by omega)))))

/-! ===== the start; the law from its entry ===== -/
theorem kn_all {args : Array Value} {s : State} (hts : ∀ w ∈ lw_tbl, w.before args s = true) (hgv : (Jvm.Cond.and given_1 narrow_1).before args s = true) : ∃ (D : va_G) (K : ClassId × ClassId × (Nat → Nat) × (Nat → Nat) × Option Nat), ∀ (l : Launch) (base : Nat) (ks : List (Nat × Nat)), s.heap.size ≤ base → Kn (l, D, K, base, ks) s ∧ KC (l, D, K, base, ks) s := by
  have ht := hts_gt hts
  have hs : ∀ w ∈ FLN, w.before args s = true := flat_of_before _ hgv
  obtain ⟨D, hD⟩ := kn_cl ht
  obtain ⟨cA, a1, a2⟩ := kn_ai ht
  obtain ⟨cQ, q1, q2⟩ := kn_aq hts
  have hA0 : ∀ a : Nat, a < s.heap.size → ¬ (fun q : Nat => s.heap.size ≤ q) a := fun a h q => absurd h (Nat.not_lt.mpr q)
  obtain ⟨adK, adV, hstr, hev⟩ := kn_str (A := fun q : Nat => s.heap.size ≤ q) hgv hA0
  have hz1 : va_Z "java/lang/String" "COMPACT_STRINGS" "Z" (.int 1) (fun q : Nat => s.heap.size ≤ q) s s.heap := va_Zof (hts _ (by decide +kernel)) (hts _ (by decide +kernel)) (va_eqi (hs _ (by decide +kernel))) hA0
  have hz2 : ∃ fm : Option Nat, va_Z "jdk/internal/util/Preconditions" "SIOOBE_FORMATTER" "Ljava/util/function/BiFunction;" (va_rf fm) (fun q : Nat => s.heap.size ≤ q) s s.heap := by
    rcases va_Zqof (A := fun q : Nat => s.heap.size ≤ q) (C := "jdk/internal/util/Preconditions") (n := "SIOOBE_FORMATTER") (d := "Ljava/util/function/BiFunction;") (hts _ (by decide +kernel)) (hts _ (by decide +kernel)) (hs _ (by decide +kernel)) hA0 with h | ⟨t, h⟩
    · exact ⟨none, h⟩
    · exact ⟨some t, h⟩
  obtain ⟨fm, hz2⟩ := hz2
  refine ⟨D, (cA, cQ, adK, adV, fm), fun l base ks hb => ?_⟩
  have hr : ∀ q : Nat, reg (l, D, (cA, cQ, adK, adV, fm), base, ks) q → s.heap.size ≤ q := fun q h => Nat.le_trans hb h.1
  have hK : va_K D vwCl [(cA, .int), (cQ, .object "FogArrows$Night")] s := by
    refine ⟨hD, fun k q hk => ?_⟩
    match k, hk with
    | 0, hk => cases hk; exact ⟨a1, a2⟩
    | 1, hk => cases hk; exact ⟨q1, q2⟩
    | k + 2, hk => simp at hk
  have hT := kn_tabs hts
  refine ⟨⟨hK, hT, ⟨hstr.narrow hr, fun q hq => ?_, hz1.narrow hr, hz2.narrow hr⟩⟩, hK, hT, va_AO.of (A := args) (by
    have h := hts _ ow_3
    unfold Cond.before Cond.holds at h ⊢
    simpa using h)⟩
  obtain ⟨i1, i2⟩ := m_idx q hq
  have h1 := hts _ (m_ref _ i1)
  have h2 := hev _ i1
  unfold tmS at h2
  rw [i2] at h1 h2
  exact vk_R.of (A := args) h1 h2
/-- new, dup, <init> -/
theorem z_make {κ : Kp} {p : Program} {e : Env} {s : State} {m : MethodId} {below : List Frame} {meth : Method} {c : Code} {b pc pc1 pc2 pc3 idx idx2 ci dn k n : Nat} {H : Heap} {locs : List Loc} {lsA : Array Slot} {C : String} {fs : List Value} {μ' : Mth} {R' : Room} {Lc : List va_E} {Q : State → Prop} (hx : p.tables.exec = Jvm.exec) (hb : c.code = code) (hml : c.maxLocals = 4) (hown : s.vm.findClass "FogArrowsLaw" = some m.cls) (hts : ∀ w ∈ GT, w.before #[Value.ref b] s = true) (hKC : KC κ s)
    (hd1 : Dc code pc (.new idx) 3 pc1) (hd2 : Dc code pc1 (.dup) 1 pc2) (hd3 : Dc code pc2 (.invokespecial idx2) 3 pc3) (hcl : Cond.classLink "FogArrowsLaw" idx C ∈ GT) (hw : Cond.instantiable C dn ∈ GT ∧ Cond.initialized C ∈ GT) (hq : ∃ (T : u_T) (ty : Nat → FieldType), vwCl[ci]? = some (C, T, dn) ∧ (∀ w ∈ u_ws C T dn, w ∈ GT) ∧ (∀ k, k < dn → parseFieldDescriptor (T k).2.2.1 = some (ty k)) ∧ ∀ j, j < dn → defaultValue (ty j) = vp_V fs j)
    (hc : CallWd μ' 0) (hm : Cond.methodLink "FogArrowsLaw" idx2 μ'.1 ∈ GT) (him : Cond.instanceMethod μ'.1 ∈ GT) (hi : μ'.1.name = "<init>") (hr : μ'.2.2.2 = none) (hM : CtC κ μ' R' H.size (.inr (ci, fs)) Lc) (hR : Nat.ble (R'.frames + 1) room_1.frames = true ∧ Nat.ble (8 + (μ'.2.2.1 + 11) + R'.locals) room_1.locals = true) (hk : k + 1 + R'.cells ≤ room_1.cells) (hn : n + dn + R'.slots ≤ room_1.slots) (hS : va_S (fun q : Nat => s.heap.size ≤ q) s.heap H locs) (hl : lsA.size = 4)
    (kk : ∀ (H2 : Heap) (locs2 : List Loc), va_P κ.2.1 vwCl (wz H.size Lc) H2 → H2.size = H.size + Lc.length → (∀ a : Nat, a < H.size → H2[a]? = H[a]?) → va_S (fun q : Nat => s.heap.size ≤ q) s.heap H2 locs2 → W p κ.1 e room_1 s m #[Value.ref b] below meth c H2 locs2 (k + 1 + R'.cells) (n + dn + R'.slots) Q (F0 m pc3 lsA [.ref H.size])) : W p κ.1 e room_1 s m #[Value.ref b] below meth c H locs k n Q (F0 m pc lsA []) := by
  obtain ⟨hd1, rfl⟩ := hd1
  obtain ⟨hd2, rfl⟩ := hd2
  obtain ⟨hd3, rfl⟩ := hd3
  obtain ⟨T, ty, t1, t2, t3, t4⟩ := hq
  obtain ⟨c1, c2, c3, c4, c5⟩ := hc
  have hKn := hKC.1.1 ci _ t1
  refine W.newcK hx hb hown (hts _ hcl) (hts _ hw.1) (hts _ hw.2) rfl hd1 (by omega) (by omega) hKn.2.1 rfl fun H1 kC hkC e1 z1 o1 => ?_
  refine lv_dup hx hb hd2 rfl ?_
  have hat : va_at κ.2.1 vwCl (H.size, .inr (ci, fs)) H1 := ⟨_, t1, (u_born ty hts t2 hKn hkC e1 t3).to t4⟩
  have hP1 : va_P κ.2.1 vwCl (wz H.size [.inr (ci, fs)]) H1 := by
    intro j x hj
    have hz1 : j < 1 := (List.getElem?_eq_some_iff.mp hj).1
    rw [show j = 0 by omega] at hj
    cases hj
    exact hat
  rw [hr] at c2
  unfold CtC at hM
  rw [hr] at hM
  have hrun : va_Run p κ.1 e room_1 s m #[Value.ref b] below meth c H1 locs (k + 1) (n + dn) R'.cells R'.slots (F0 m (pc + 3 + 1) lsA [.ref H.size, .ref H.size]) [.ref H.size] (QC κ H.size Lc #[.ref H.size]) (fun x : Nat => H.size ≤ x) := va_runI (As := []) (n := 0) (nL := 4) ⟨hx, hb, hml, hown, hts⟩ hM
    ⟨callB_of 0 hts (gt_in c2) rfl rfl rfl (hts _ c1) (hts _ hm) ⟨c3, c4, c5⟩ ⟨Nat.le_of_ble_eq_true hR.1, Nat.le_of_ble_eq_true hR.2⟩, hi, hts _ him⟩
    ⟨World_blindC, fun U hU hW => ⟨rfl, by rw [hU]; exact z1, by rw [hU]; exact hP1, hKC.warm hW⟩⟩ rfl rfl hl rfl (lv_room (Nat.le_of_ble_eq_true rfl)) hd3 ⟨by omega, by omega⟩
  intro TT hT X
  obtain ⟨v, st₀, t, T', L', g0, X', hL, e1', e2, ⟨⟨hv, hP2, hz2⟩, hz, hkk⟩, stp⟩ := hrun TT hT X
  cases hv
  rw [g0] at hz hkk
  have old : ∀ a : Nat, a < H.size → T'.heap[a]? = H[a]? := fun a ha => by
    rw [e1', hkk a (by rw [z1]; omega) (fun q => absurd ha (Nat.not_lt.mpr q)), o1 a ha]
  have hS1 : va_S (fun q : Nat => s.heap.size ≤ q) s.heap T'.heap (locs ++ L') := by
    refine ⟨?_, fun q h1 h2 => ?_, fun q hq => ?_⟩
    · have := hS.1
      rw [e1', hz2]
      omega
    · rw [old q (Nat.lt_of_lt_of_le h1 hS.1)]
      exact hS.2.1 q h1 h2
    · rcases List.mem_append.mp hq with h | h
      · exact hS.2.2 q h
      · exact Nat.le_trans hS.1 (hL q h)
  obtain ⟨t2', b1, b2⟩ := kk T'.heap (locs ++ L') (by rw [e1']; exact hP2) (by rw [e1']; exact hz2) old hS1 T' rfl X'
  exact ⟨t2', stp t2' b1, b2⟩
theorem lay_len : layX.length = 261 := by decide +kernel
theorem len12 (κ : Kp) (q : Nat) : (Lo_12 κ q).length = 14 := rfl
set_option maxHeartbeats 4000000 in
/-- the law, from its entry: for every script of at most 3072 ints it comes to its end with true -/
theorem whole_start {p : Program} {e : Env} {s : State} {m : MethodId} {below : List Frame} {meth : Method} {c : Code} (l : Launch) {b L : Nat} {xs : Nat → Int32} (hL : L ≤ 3072) (C0 : lw_At p s m meth c b L xs) : W p l e room_1 s m #[Value.ref b] below meth c s.heap [] 0 0 (lw_Z below #[Value.ref b] s) (entryFrame m ([Value.ref b] : List Value).toArray 4) := by
  obtain ⟨hx, hb, hr, hml, hown, hts, hX, hbl, hlocks, hgv⟩ := C0
  have ht := hts_gt hts
  obtain ⟨D, K, hK⟩ := kn_all hts hgv
  have k1 := hK l s.heap.size layX (Nat.le_refl _)
  have k2 := hK l (s.heap.size + 261) ks_12 (Nat.le_add_right _ _)
  obtain ⟨κ, hκ⟩ : ∃ κ : Kp, κ = (l, D, K, s.heap.size, layX) := ⟨_, rfl⟩
  obtain ⟨κ', hκ'⟩ : ∃ κ' : Kp, κ' = (l, D, K, s.heap.size + 261, ks_12) := ⟨_, rfl⟩
  rw [← hκ] at k1
  rw [← hκ'] at k2
  have el : κ.1 = l := by rw [hκ]
  have el' : κ'.1 = κ.1 := by rw [hκ, hκ']
  have eD : κ'.2.1 = κ.2.1 := by rw [hκ, hκ']
  have eB : κ.2.2.2.1 = s.heap.size := by rw [hκ]
  have eB' : κ'.2.2.2.1 = s.heap.size + 261 := by rw [hκ']
  have eL : κ.2.2.2.2 = layX := by rw [hκ]
  have eL' : κ'.2.2.2.2 = ks_12 := by rw [hκ']
  rw [lg_entry_eq, ← el]
  have hl := (LH.entry [Value.ref b] (n := 4) (Nat.le_of_ble_eq_true rfl) (fun v hv => by rw [List.mem_singleton.mp hv]; rfl)).sub (a := [some (.ref b), none, none, none]) ⟨rfl, trivial⟩
  generalize (lg_sl [Value.ref b] ++ List.replicate (4 - (lg_sl [Value.ref b]).length) Slot.unset).toArray = lsA at hl ⊢
  refine z_make (R' := R_X11_init) (k := 0) (n := 0) hx hb hml hown ht k1.2 d_law_0 d_law_3 d_law_4 cl_L_7 nw_11 nq_11 cw_X11_init ml_L_9 im_X11_init rfl rfl (c_X11_init κ s.heap.size) ⟨rfl, rfl⟩ (Nat.le_of_ble_eq_true rfl) (Nat.le_of_ble_eq_true rfl) va_S.rf hl.1 (fun H2 locs2 hP2 hz2 ho2 hS2 => ?_)
  refine lv_astore_n hx hb d_law_7.1 rfl hl.has (by decide) rfl (fun lsB hB => ?_)
  have hl2 := hl.set (v := .ref s.heap.size) rfl hB
  rw [len_11] at hz2
  have d8 : Dc code 8 (.new 10) 3 11 := d_law_8
  rw [← el']
  refine z_make (R' := R_X12_init) (κ := κ') hx hb hml hown ht k2.2 d8 d_law_11 d_law_12 cl_L_10 nw_12 nq_12 cw_X12_init ml_L_12 im_X12_init rfl rfl (c_X12_init κ' H2.size) ⟨rfl, rfl⟩ (Nat.le_of_ble_eq_true rfl) (Nat.le_of_ble_eq_true rfl) hS2 hl2.1 (fun H3 locs3 hP3 hz3 ho3 hS3 => ?_)
  rw [el']
  refine lv_astore_n hx hb d_law_15.1 rfl hl2.has (by decide) rfl (fun lsC hC => ?_)
  have hl3 := hl2.set (v := .ref H2.size) rfl hC
  refine lv_iconst hx hb d_law_16.1 rfl ?_
  refine lv_istore_n hx hb d_law_17.1 rfl hl3.has (by decide) rfl (fun lsD hD => ?_)
  have hl4 := hl3.set (v := vi 0) rfl hD
  refine W.widen (k := 600000) (n := 7302250) (Nat.le_of_ble_eq_true rfl) (Nat.le_of_ble_eq_true rfl) ?_
  have ex : Cx κ MuL p s m #[Value.ref b] meth c := ⟨hx, hb, hml, hown, ht, k1.1, hr, hlocks⟩
  have ex' : Cx κ' MuL p s m #[Value.ref b] meth c := ⟨hx, hb, hml, hown, ht, k2.1, hr, hlocks⟩
  have rg : ∀ q : Nat, reg κ q → s.heap.size ≤ q ∧ q < s.heap.size + 261 := fun q hq => by
    obtain ⟨q1, q2⟩ := hq
    rw [eL, lay_len, eB] at q2
    rw [eB] at q1
    exact ⟨q1, q2⟩
  have rg' : ∀ q : Nat, reg κ' q → s.heap.size + 261 ≤ q := fun q hq => by
    have q1 := hq.1
    rw [eB'] at q1
    exact q1
  have hLC : LC κ κ' p s m meth c b L xs := ⟨ex, ex', el', hX, hbl, hL, fun q hq => (rg q hq).1, fun q hq => Nat.le_trans (Nat.le_add_right _ _) (rg' q hq), fun q hq hq' => absurd (rg q hq).2 (Nat.not_lt.mpr (rg' q hq'))⟩
  have hw1 : va_P κ.2.1 vwCl (wl κ s00) H3 := by
    rw [← wl_cls eL, eB]
    exact hP2.kept (fun j x hj => ho3 x.1 ((hP2 j x hj).lt))
  have hw2 : va_P κ'.2.1 vwCl (wl κ' t00) H3 := by
    rw [← wl_mod eL', eB', ← hz2]
    exact hP3
  refine law_loop (e := e) (below := below) hLC (at11_x eL) (at12_x eL') (L + 1) 0 s00 t00 (Int.le_refl 0) (Int.natCast_nonneg L) (by omega) iv_00 s00_wf t00_wf H3 locs3 lsD hw1 hw2 hS3 ?_
  have ev : vr κ 0 = .ref s.heap.size := by
    show Value.ref (κ.2.2.2.1 + 0) = _
    rw [eB]
    rfl
  have ev' : vr κ' 0 = .ref H2.size := by
    show Value.ref (κ'.2.2.2.1 + 0) = _
    rw [eB', hz2]
  rw [ev, ev']
  exact hl4

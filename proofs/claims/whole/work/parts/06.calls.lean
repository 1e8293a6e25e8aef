/-! ===== L1: calls ===== -/
/-- the words of a call; n: the callee's parameters -/
def CallWd (μ' : Mth) (n : Nat) : Prop := Cond.initialized μ'.1.cls ∈ GT ∧ Cond.code μ'.1 μ'.2.1 μ'.2.2.1 μ'.2.2.2 ∈ GT ∧ μ'.1.cls ≠ "java/lang/invoke/MethodHandle" ∧ μ'.1.cls ≠ "java/lang/invoke/VarHandle" ∧ (parseMethodDescriptor μ'.1.desc).map (fun d => d.parameters.length) = some n
def CV (own : String) (idx : Nat) (μ' : Mth) (n : Nat) : Prop := CallWd μ' n ∧ Cond.methodLink own idx μ'.1 ∈ GT ∧ Cond.instanceMethod μ'.1 ∈ GT ∧ Cond.selects μ'.1.cls μ'.1 μ'.1 ∈ GT
def CS (own : String) (idx : Nat) (μ' : Mth) (n : Nat) : Prop := CallWd μ' n ∧ Cond.methodLink own idx μ'.1 ∈ GT ∧ Cond.static μ'.1 ∈ GT
def CN (own : String) (idx : Nat) (μ' : Mth) (n : Nat) : Prop := CallWd μ' n ∧ (∃ host, Cond.methodLinkNest own idx μ'.1 host ∈ NT) ∧ Cond.static μ'.1 ∈ GT
def Rm (R' R : Room) (nL : Nat) : Prop := R'.cells = 0 ∧ R'.slots = 0 ∧ R'.frames + 1 ≤ R.frames ∧ 8 + (nL + 11) + R'.locals ≤ R.locals
def Runs (κ : Kp) (μ : Mth) (R : Room) (pc : Nat) (st0 rest : List Value) (σ : Mem) (μ' : Mth) (R' : Room) (Aa : List Value) : Prop :=
  ∀ (p : Program) (e : Env) (s : State) (m : MethodId) (args : Array Value) (below : List Frame) (meth : Method) (c : Code) (H : Heap) (locs : List Loc) (lsA : Array Slot), Cx κ μ p s m args meth c → va_P κ.2.1 vwCl (wl κ σ) H → va_S (reg κ) s.heap H locs → lsA.size = μ.2.2.1 → ∀ (r : Int) (σ1 : Mem), Ct κ μ' R' Aa σ r σ1 →
    va_Run p κ.1 e R s m args below meth c H locs 0 0 0 0 (F0 m pc lsA st0) rest (QE κ μ' r σ1 Aa.toArray) (reg κ)
theorem gt_in {y : MethodName} {bytes : ByteArray} {maxL : Nat} {ret : Option FieldType} (h : Cond.code y bytes maxL ret ∈ GT) : GoodIn GT (Cond.code y bytes maxL ret :: GT) := by
  intro w hw
  rcases List.mem_cons.mp hw with rfl | hw
  · exact ⟨h, good_of_word (gt_good h)⟩
  · exact ⟨hw, good_of_word (gt_good hw)⟩
theorem World_pre {κ : Kp} {μ : Mth} {σ : Mem} {p : Program} {s U : State} {m : MethodId} {args : Array Value} {meth : Method} {c : Code} {H : Heap} (hx : Cx κ μ p s m args meth c) (hw : WF σ) (hP : va_P κ.2.1 vwCl (wl κ σ) H) {locs : List Loc} (hS : va_S (reg κ) s.heap H locs) (hU : U.heap = H) (hW : s.WarmedH U.vm) : World κ σ U := ⟨hw, by rw [hU]; exact hP, hx.2.2.2.2.2.1.next hW (by rw [hU]; exact hS.2.1)⟩
theorem World_blind {κ : Kp} {σ : Mem} {As : List Value} : FrameBlind (va_Pc As (World κ σ)) := by
  intro a U g mk h
  obtain ⟨h1, h2, h3, h4, h5, h6, h7, h8, h9⟩ := h
  exact ⟨h1, h2, h3, va_K.moved (u := U) (U := U.calling g mk a) (Vm.Alike.refl U.vm) h4, Tabs.same (s := U) (U := U.calling g mk a) (rfl : U.vm = U.vm) h5,
    vk_S.moved (u := U) (U := U.calling g mk a) (Vm.Alike.refl U.vm) h6, fun q hq => vk_R.same (u := U) (U := U.calling g mk a) rfl (h7 q hq), va_Z.moved (u := U) (U := U.calling g mk a) (Vm.Alike.refl U.vm) h8, va_Z.moved (u := U) (U := U.calling g mk a) (Vm.Alike.refl U.vm) h9⟩
section
variable {κ : Kp} {μ μ' : Mth} {R R' : Room} {pc : Nat} {ls : List (Option Value)} {st rest : List Value} {σ : Mem} {o : Res}
theorem runV {idx a ci n : Nat} {As : List Value} {q : vw_C} (hd : decode μ.2.1 pc = .ok (.invokevirtual idx, 3)) (hc : CV μ.1.cls idx μ' n) (hn : As.length = n) (hk : kd κ a = (0, ci)) (hq : vwCl[ci]? = some q) (hq1 : q.1 = μ'.1.cls) (hR : Rm R' R μ'.2.2.1) (hs : (rest.map fun v => v.category).sum ≤ 8) (hw : WF σ) (hst : As.reverse ++ vr κ a :: rest = st) : Runs κ μ R pc st rest σ μ' R' (vr κ a :: As) := by
  intro p e s m args below meth c H locs lsA hx hP hS hsz r σ1 hM
  obtain ⟨⟨c1, c2, c3, c4, c5⟩, c6, c7, c8⟩ := hc
  obtain ⟨r1, r2, r3, r4⟩ := hR
  have ht := hx.2.2.2.2.1
  obtain ⟨q', h1, cell, h2, h3, h4, h5⟩ := hP a _ (wl_at hk (by simp))
  have hqq : q' = q := Option.some.inj (h1.symm.trans hq)
  subst hqq
  have hcl := (hx.2.2.2.2.2.1.1.1 ci q' hq).2.1
  rw [hq1] at hcl
  subst hst
  exact va_runV (C := μ'.1.cls) (b := κ.2.2.2.1 + a) (As := As) (n := n) (nL := μ.2.2.1) ⟨hx.1, hx.2.1, hx.2.2.1, hx.2.2.2.1, ht⟩ hM
    ⟨callB_of n ht (gt_in c2) rfl r1 r2 (ht _ c1) (ht _ c6) ⟨c3, c4, c5⟩ ⟨r3, r4⟩, ht _ c7, ht _ c8⟩
    ⟨World_blind, ⟨cell, h2, by rw [h4]; rfl, by rw [hcl, h3]⟩, fun U hU hW => ⟨rfl, World_pre hx hw hP hS hU hW⟩⟩ rfl hn hsz rfl (lv_room hs) hd ⟨Nat.zero_le _, Nat.zero_le _⟩
theorem runS {idx n : Nat} {As : List Value} (hd : decode μ.2.1 pc = .ok (.invokestatic idx, 3)) (hc : CS μ.1.cls idx μ' n) (hn : As.length = n) (hR : Rm R' R μ'.2.2.1) (hs : (rest.map fun v => v.category).sum ≤ 8) (hw : WF σ) (hst : As.reverse ++ rest = st) : Runs κ μ R pc st rest σ μ' R' As := by
  intro p e s m args below meth c H locs lsA hx hP hS hsz r σ1 hM
  obtain ⟨⟨c1, c2, c3, c4, c5⟩, c6, c7⟩ := hc
  obtain ⟨r1, r2, r3, r4⟩ := hR
  have ht := hx.2.2.2.2.1
  subst hst
  exact va_runS (As := As) (n := n) (nL := μ.2.2.1) ⟨hx.1, hx.2.1, hx.2.2.1, hx.2.2.2.1, ht⟩ hM
    ⟨callB_of n ht (gt_in c2) rfl r1 r2 (ht _ c1) (ht _ c6) ⟨c3, c4, c5⟩ ⟨r3, r4⟩, ht _ c7⟩
    ⟨World_blind, fun U hU hW => ⟨rfl, World_pre hx hw hP hS hU hW⟩⟩ rfl hn hsz rfl (lv_room hs) hd ⟨Nat.zero_le _, Nat.zero_le _⟩
theorem runN {idx n : Nat} {As : List Value} (hd : decode μ.2.1 pc = .ok (.invokestatic idx, 3)) (hc : CN μ.1.cls idx μ' n) (hn : As.length = n) (hR : Rm R' R μ'.2.2.1) (hs : (rest.map fun v => v.category).sum ≤ 8) (hw : WF σ) (hst : As.reverse ++ rest = st) : Runs κ μ R pc st rest σ μ' R' As := by
  intro p e s m args below meth c H locs lsA hx hP hS hsz r σ1 hM
  obtain ⟨⟨c1, c2, c3, c4, c5⟩, ⟨host, c6⟩, c7⟩ := hc
  obtain ⟨r1, r2, r3, r4⟩ := hR
  have ht := hx.2.2.2.2.1
  subst hst
  exact va_runSN (As := As) (n := n) (nL := μ.2.2.1) ⟨hx.1, hx.2.1, hx.2.2.1, hx.2.2.2.1, ht⟩ hM
    ⟨va_cnB n ht (gt_in c2) rfl r1 r2 (hx.2.2.2.2.2.1.2.1 _ c6) (ht _ c1) ⟨c3, c4, c5⟩ ⟨r3, r4⟩, ht _ c7, trivial⟩
    ⟨World_blind, fun U hU hW => ⟨rfl, World_pre hx hw hP hS hU hW⟩⟩ rfl hn hsz rfl (lv_room hs) hd ⟨Nat.zero_le _, Nat.zero_le _⟩
theorem q_call {pc' : Nat} {Aa : List Value} {oc : Res} {k : Int → Mem → Res} (hr : Runs κ μ R pc st rest σ μ' R' Aa) (hp : pc' = pc + 3) (hM : ∀ r σ1, oc = some (r, σ1) → Ct κ μ' R' Aa σ r σ1) (kk : ∀ r σ1, InT μ'.2.2.2 r → WF σ1 → EO κ μ R pc' ls ((rv κ μ'.2.2.2 r).toList ++ rest) σ1 (k r σ1)) : EO κ μ R pc ls st σ (bd oc k) := by
  subst hp
  intro r σ' ho
  cases oc with
  | none => cases ho
  | some q =>
    obtain ⟨r1, σ1⟩ := q
    intro p e s m args below meth c H locs lsA hx hP hS hl T hT X
    obtain ⟨v, st₀, t, T', L, h0, X', hL, e1, e2, ⟨⟨hv, hin, hw1, hP1, hK1⟩, hz, hk⟩, stp⟩ := hr p e s m args below meth c H locs lsA hx hP hS hl.1 r1 σ1 (hM r1 σ1 rfl) T hT X
    have hv' : v = rv κ μ'.2.2.2 r1 := Outcome.returned.inj hv
    subst hv'
    rw [h0] at hz hk
    have hS1 : va_S (reg κ) s.heap T'.heap (locs ++ L) := by
      refine ⟨Nat.le_trans hS.1 (by rw [e1]; exact hz), fun q h1 h2 => ?_, fun q hq => ?_⟩
      · rw [e1, hk q (Nat.lt_of_lt_of_le h1 hS.1) h2]
        exact hS.2.1 q h1 h2
      · rcases List.mem_append.mp hq with h | h
        · exact hS.2.2 q h
        · exact hL q h
    obtain ⟨t2, a1, b1⟩ := kk r1 σ1 hin hw1 r σ' ho p e s m args below meth c T'.heap (locs ++ L) lsA hx (by rw [e1]; exact hP1) hS1 hl T' rfl X'
    exact ⟨t2, stp t2 a1, b1⟩
theorem q_callI {pc' : Nat} {Aa : List Value} {oc : Res} {k : Int → Mem → Res} (hr : Runs κ μ R pc st rest σ μ' R' Aa) (hp : pc' = pc + 3) (hM : ∀ r σ1, oc = some (r, σ1) → Ct κ μ' R' Aa σ r σ1) (ht : μ'.2.2.2 = some .int) (kk : ∀ r σ1, InR r → WF σ1 → EO κ μ R pc' ls (vi r :: rest) σ1 (k r σ1)) : EO κ μ R pc ls st σ (bd oc k) :=
  q_call hr hp hM (fun r σ1 h1 h2 => by rw [ht] at h1 ⊢; exact kk r σ1 h1 h2)
theorem q_callZ {pc' : Nat} {Aa : List Value} {oc : Res} {k : Int → Mem → Res} (hr : Runs κ μ R pc st rest σ μ' R' Aa) (hp : pc' = pc + 3) (hM : ∀ r σ1, oc = some (r, σ1) → Ct κ μ' R' Aa σ r σ1) (ht : μ'.2.2.2 = some .boolean) (kk : ∀ r σ1, (r = 0 ∨ r = 1) → WF σ1 → EO κ μ R pc' ls (vi r :: rest) σ1 (k r σ1)) : EO κ μ R pc ls st σ (bd oc k) :=
  q_call hr hp hM (fun r σ1 h1 h2 => by rw [ht] at h1 ⊢; exact kk r σ1 h1 h2)
theorem q_callV {pc' : Nat} {Aa : List Value} {oc : Res} {k : Int → Mem → Res} (hr : Runs κ μ R pc st rest σ μ' R' Aa) (hp : pc' = pc + 3) (hM : ∀ r σ1, oc = some (r, σ1) → Ct κ μ' R' Aa σ r σ1) (ht : μ'.2.2.2 = none) (kk : ∀ r σ1, WF σ1 → EO κ μ R pc' ls rest σ1 (k r σ1)) : EO κ μ R pc ls st σ (bd oc k) :=
  q_call hr hp hM (fun r σ1 h1 h2 => by rw [ht] at h1 ⊢; exact kk r σ1 h2)
theorem q_callR {pc' : Nat} {Aa : List Value} {oc : Res} {k : Int → Mem → Res} {n : String} (hr : Runs κ μ R pc st rest σ μ' R' Aa) (hp : pc' = pc + 3) (hM : ∀ r σ1, oc = some (r, σ1) → Ct κ μ' R' Aa σ r σ1) (ht : μ'.2.2.2 = some (.object n)) (kk : ∀ r σ1, InR r → WF σ1 → EO κ μ R pc' ls (vr κ r.toNat :: rest) σ1 (k r σ1)) : EO κ μ R pc ls st σ (bd oc k) :=
  q_call hr hp hM (fun r σ1 h1 h2 => by rw [ht] at h1 ⊢; exact kk r σ1 h1 h2)
theorem inr_b {r : Int} (h : r = 0 ∨ r = 1) : InR r := by rcases h with rfl | rfl <;> exact inr_d rfl
/-- switches -/
theorem q_tswC {dflt lo hi x v off : Int} {offs : Array Int} {len tgt : Nat} (hd : decode μ.2.1 pc = .ok (.tableswitch dflt lo hi offs, len)) (hx : InR x) (hc : x = v) (h1 : ¬ v < lo) (h2 : ¬ hi < v) (ho : offs[(v - lo).toNat]? = some off) (ht : (pc : Int) + off = (tgt : Int)) (k : EO κ μ R tgt ls st σ o) : EO κ μ R pc ls (vi x :: st) σ o := by
  subst hc
  exact q_go (fun p e s m args below meth c H locs lsA Q hC hP hl kk => lv_tableIn (x := Int32.ofInt x) hC.1 hC.2.1 hd (by rw [i32_toInt hx]; exact h1) (by rw [i32_toInt hx]; exact h2) (by rw [i32_toInt hx]; exact ho) ht kk) k
theorem q_tswD {dflt lo hi x : Int} {offs : Array Int} {len tgt : Nat} (hd : decode μ.2.1 pc = .ok (.tableswitch dflt lo hi offs, len)) (hx : InR x) (h : x < lo ∨ hi < x) (ht : (pc : Int) + dflt = (tgt : Int)) (k : EO κ μ R tgt ls st σ o) : EO κ μ R pc ls (vi x :: st) σ o :=
  q_go (fun p e s m args below meth c H locs lsA Q hC hP hl kk => lv_tableOut (x := Int32.ofInt x) hC.1 hC.2.1 hd (by rw [i32_toInt hx]; exact h) ht kk) k
theorem q_lsw {dflt x off : Int} {ps : Array (Int × Int)} {len tgt : Nat} (hd : decode μ.2.1 pc = .ok (.lookupswitch dflt ps, len)) (hx : InR x) (hp : (ps.toList.zip (ps.toList.drop 1)).all (fun (a, next) => a.1 < next.1) = true) (ho : Op.lookupswitch.offset ps.toList dflt x = off) (ht : (pc : Int) + off = (tgt : Int)) (k : EO κ μ R tgt ls st σ o) : EO κ μ R pc ls (vi x :: st) σ o :=
  q_go (fun p e s m args below meth c H locs lsA Q hC hP hl kk => lv_lookup hC.1 hC.2.1 hd hp (by rw [i32_toInt hx]; exact ho) ht kk) k
/-- names, guards, joins -/
theorem q_lt {v : Int} {o1 : Int → Res} (hv : InR v) (k : ∀ x, InR x → EO κ μ R pc ls (vi x :: st) σ (o1 x)) : EO κ μ R pc ls (vi v :: st) σ (lt v o1) := k v hv
theorem q_gd {c : Prop} [Decidable c] {o1 : Res} (k : c → EO κ μ R pc ls st σ o1) : EO κ μ R pc ls st σ (gd c o1) := by
  intro r σ' ho
  unfold gd at ho
  split at ho
  · rename_i h
    exact k h r σ' ho
  · cases ho
theorem q_jn {α : Type} (P : α → Prop) {J : α} {k : α → Res} (h1 : P J) (h2 : ∀ j, P j → EO κ μ R pc ls st σ (k j)) : EO κ μ R pc ls st σ (jn J k) := h2 J h1
theorem q_sub {ls' : List (Option Value)} (h : sub ls' ls) (k : EO κ μ R pc ls' st σ o) : EO κ μ R pc ls st σ o := fun r σ' ho p e s m args below meth c H locs lsA hx hP hS hl => k r σ' ho p e s m args below meth c H locs lsA hx hP hS (hl.sub h)
theorem q_none : EO κ μ R pc ls st σ none := fun _ _ h => by cases h
theorem q_ent {ls' : List (Option Value)} {r : Int} {σ' : Mem} (h : sub ls' ls) (k : EO κ μ R pc ls' st σ o) (ho : o = some (r, σ')) : E κ μ R pc ls st σ r σ' := fun p e s m args below meth c H locs lsA hx hP hS hl => k r σ' ho p e s m args below meth c H locs lsA hx hP hS (hl.sub h)
theorem q_ite {c : Prop} [Decidable c] {o1 o2 : Res} (h1 : c → EO κ μ R pc ls st σ o1) (h2 : ¬ c → EO κ μ R pc ls st σ o2) : EO κ μ R pc ls st σ (if c then o1 else o2) := by
  split
  · rename_i h
    exact h1 h
  · rename_i h
    exact h2 h
theorem q_mmax {pc' : Nat} {idx : Nat} {x y : Int} (hd : Dc μ.2.1 pc (.invokestatic idx) 3 pc') (hl : Cond.methodLink μ.1.cls idx Lib.Math.max.name ∈ GT) (hw : Cond.static Lib.Math.max.name ∈ GT ∧ Cond.initialized "java/lang/Math" ∈ GT ∧ Cond.code Lib.Math.max.name Lib.Math.max.code 2 (some .int) ∈ GT) (hR : 1 ≤ R.frames ∧ (st.map fun v => v.category).sum + 13 ≤ R.locals) (hx : InR x) (hy : InR y) (k : EO κ μ R pc' ls (vi (mmx x y) :: st) σ o) : EO κ μ R pc ls (vi y :: vi x :: st) σ o := by
  obtain ⟨hd, rfl⟩ := hd
  refine q_go (fun p e s m args below meth c H locs lsA Q hC hP hl' kk => ?_) k
  refine va_mmax hC.1 hC.2.1 (by rw [hC.2.2.1, hl'.1]) hC.2.2.2.1 (hC.2.2.2.2.1 _ hl) (hC.2.2.2.2.1 _ hw.1) (hC.2.2.2.2.1 _ hw.2.1) (hC.2.2.2.2.1 _ hw.2.2) hR.1 hR.2 (Nat.zero_le _) (Nat.zero_le _) hd ?_
  have e1 : vi (mmx x y) = .int (if Int32.ofInt x < Int32.ofInt y then Int32.ofInt y else Int32.ofInt x) := by
    unfold mmx
    by_cases h : x < y
    · rw [if_pos h, if_pos ((i32_lt hx hy).mpr h)]; rfl
    · rw [if_neg h, if_neg (fun q => h ((i32_lt hx hy).mp q))]; rfl
  rw [← e1]
  exact kk
theorem q_mmin {pc' : Nat} {idx : Nat} {x y : Int} (hd : Dc μ.2.1 pc (.invokestatic idx) 3 pc') (hl : Cond.methodLink μ.1.cls idx Lib.Math.min.name ∈ GT) (hw : Cond.static Lib.Math.min.name ∈ GT ∧ Cond.initialized "java/lang/Math" ∈ GT ∧ Cond.code Lib.Math.min.name Lib.Math.min.code 2 (some .int) ∈ GT) (hR : 1 ≤ R.frames ∧ (st.map fun v => v.category).sum + 13 ≤ R.locals) (hx : InR x) (hy : InR y) (k : EO κ μ R pc' ls (vi (mmn x y) :: st) σ o) : EO κ μ R pc ls (vi y :: vi x :: st) σ o := by
  obtain ⟨hd, rfl⟩ := hd
  refine q_go (fun p e s m args below meth c H locs lsA Q hC hP hl' kk => ?_) k
  refine va_mmin hC.1 hC.2.1 (by rw [hC.2.2.1, hl'.1]) hC.2.2.2.1 (hC.2.2.2.2.1 _ hl) (hC.2.2.2.2.1 _ hw.1) (hC.2.2.2.2.1 _ hw.2.1) (hC.2.2.2.2.1 _ hw.2.2) hR.1 hR.2 (Nat.zero_le _) (Nat.zero_le _) hd ?_
  have e1 : vi (mmn x y) = .int (if Int32.ofInt y < Int32.ofInt x then Int32.ofInt y else Int32.ofInt x) := by
    unfold mmn
    by_cases h : y < x
    · rw [if_pos h, if_pos ((i32_lt hy hx).mpr h)]; rfl
    · rw [if_neg h, if_neg (fun q => h ((i32_lt hy hx).mp q))]; rfl
  rw [← e1]
  exact kk
theorem q_mabs {pc' : Nat} {idx : Nat} {x : Int} (hd : Dc μ.2.1 pc (.invokestatic idx) 3 pc') (hl : Cond.methodLink μ.1.cls idx Lib.Math.abs.name ∈ GT) (hw : Cond.static Lib.Math.abs.name ∈ GT ∧ Cond.initialized "java/lang/Math" ∈ GT ∧ Cond.code Lib.Math.abs.name Lib.Math.abs.code 1 (some .int) ∈ GT) (hR : 1 ≤ R.frames ∧ (st.map fun v => v.category).sum + 13 ≤ R.locals) (hx : InR x) (k : EO κ μ R pc' ls (vi (mab x) :: st) σ o) : EO κ μ R pc ls (vi x :: st) σ o := by
  obtain ⟨hd, rfl⟩ := hd
  refine q_go (fun p e s m args below meth c H locs lsA Q hC hP hl' kk => ?_) k
  refine va_mabs hC.1 hC.2.1 (by rw [hC.2.2.1, hl'.1]) hC.2.2.2.1 (hC.2.2.2.2.1 _ hl) (hC.2.2.2.2.1 _ hw.1) (hC.2.2.2.2.1 _ hw.2.1) (hC.2.2.2.2.1 _ hw.2.2) hR.1 hR.2 (Nat.zero_le _) (Nat.zero_le _) hd ?_
  have e1 : vi (mab x) = .int (if 0 ≤ Int32.ofInt x then Int32.ofInt x else 0 - Int32.ofInt x) := by
    unfold mab
    by_cases h : 0 ≤ x
    · rw [if_pos h, if_pos ((i32_0le hx).mpr h), vi_wr]; rfl
    · rw [if_neg h, if_neg (fun q => h ((i32_0le hx).mp q)), vi_wr, vi, Int32.ofInt_sub]; rfl
  rw [← e1]
  exact kk
theorem q_copyi {pc' idx x y n0 n1 : Nat} {sp dp n m0 m1 : Int} {o1 : Mem → Res} (hd : Dc μ.2.1 pc (.invokestatic idx) 3 pc') (hl : Cond.methodLink μ.1.cls idx arraycopyName ∈ GT) (hw : Cond.native arraycopyName ∈ GT ∧ Cond.static arraycopyName ∈ GT ∧ Cond.initialized "java/lang/System" ∈ GT) (hR : 1 ≤ R.frames ∧ (st.map fun v => v.category).sum + (nativeFrameWords "java/lang/System" "arraycopy" 5 + 11) ≤ R.locals)
    (hkx : kd κ x = (1, n0)) (hky : kd κ y = (1, n1)) (hn0 : n0 ≤ 100000) (hn1 : n1 ≤ 100000) (hm0 : m0 = (n0 : Int)) (hm1 : m1 = (n1 : Int)) (hw0 : WF σ) (kk : ∀ σ1, WF σ1 → EO κ μ R pc' ls st σ1 (o1 σ1)) : EO κ μ R pc ls (vi n :: vi dp :: vr κ y :: vi sp :: vr κ x :: st) σ (gd ((0 ≤ sp ∧ 0 ≤ dp ∧ 0 ≤ n) ∧ sp + n ≤ m0 ∧ dp + n ≤ m1) (lm (mcp σ x sp y dp n) o1)) := by
  obtain ⟨hd, rfl⟩ := hd
  subst hm0
  subst hm1
  intro r σ' ho
  unfold gd at ho
  split at ho
  · rename_i hi
    obtain ⟨⟨h1, h2, h3⟩, h4, h5⟩ := hi
    have i1 : InR sp := by unfold InR; omega
    have i2 : InR dp := by unfold InR; omega
    have i3 : InR n := by unfold InR; omega
    have t1 : (Int32.ofInt sp).toNatClampNeg = sp.toNat := by show (Int32.ofInt sp).toInt.toNat = _; rw [i32_toInt i1]
    have t2 : (Int32.ofInt dp).toNatClampNeg = dp.toNat := by show (Int32.ofInt dp).toInt.toNat = _; rw [i32_toInt i2]
    have t3 : (Int32.ofInt n).toNatClampNeg = n.toNat := by show (Int32.ofInt n).toInt.toNat = _; rw [i32_toInt i3]
    refine q_goM (o := lm (mcp σ x sp y dp n) o1) (fun p e s m args below meth c H locs lsA Q hC hP hS hl' kk => ?_) (kk _ (wf_mcp hw0 x sp y dp n)) r σ' ho
    refine va_copyi hC.1 hC.2.1 (by rw [hC.2.2.1, hl'.1]) hC.2.2.2.1 (hC.2.2.2.2.1 _ hl) (hC.2.2.2.2.1 _ hw.1) (hC.2.2.2.2.1 _ hw.2.1) (hC.2.2.2.2.1 _ hw.2.2) hC.2.2.2.2.2.1.1 hP (wl_D κ σ) hS x y 0 0 (wl_at hkx (by simp)) (wl_at hky (by simp)) rfl rfl rfl
      (fun q => by rw [i32_lt0 i1] at q; omega) (fun q => by rw [i32_lt0 i2] at q; omega) (fun q => by rw [i32_lt0 i3] at q; omega) (by rw [t1, t3]; show _ ≤ n0; omega) (by rw [t2, t3]; show _ ≤ n1; omega) (fun _ _ => rfl) hR.1 hR.2 hd (fun H1 locs1 q1 q2 q3 => kk H1 locs1 ?_ q3)
    rw [t1, t2, t3] at q1
    have e := wl_cpy (σ := σ) (x := x) hky h1 h2 h3
    exact (congrArg (fun w => va_P κ.2.1 vwCl w H1) e).mp q1
  · cases ho
/-- String constants -/
theorem q_ldcS {pc' idx i : Nat} {tx : String} (hd : Dc μ.2.1 pc (.ldc idx) 2 pc') (hr : (μ.1.cls, idx, tx, i) ∈ strR) (k : EO κ μ R pc' ls (vs κ i :: st) σ o) : EO κ μ R pc ls st σ o := by
  obtain ⟨hd, rfl⟩ := hd
  exact q_go (fun p e s m args below meth c H locs lsA Q hC hP hl kk => va_ldcS hC.1 hC.2.1 hC.2.2.2.1 (hC.2.2.2.2.2.1.2.2.2.1 _ hr) hd kk) k
/-- a row that needs the heap's older part -/
theorem q_goS {pc' : Nat} {st' : List Value} (h : ∀ (p : Program) (e : Env) (s : State) (m : MethodId) (args : Array Value) (below : List Frame) (meth : Method) (c : Code) (H : Heap) (locs : List Loc) (lsA : Array Slot) (Q : State → Prop), Cx κ μ p s m args meth c → va_S (reg κ) s.heap H locs →
    W p κ.1 e R s m args below meth c H locs 0 0 Q (F0 m pc' lsA st') → W p κ.1 e R s m args below meth c H locs 0 0 Q (F0 m pc lsA st)) (k : EO κ μ R pc' ls st' σ o) : EO κ μ R pc ls st σ o :=
  fun r σ' ho p e s m args below meth c H locs lsA hx hP hS hl => h p e s m args below meth c H locs lsA _ hx hS (k r σ' ho p e s m args below meth c H locs lsA hx hP hS hl)
theorem q_strV {pc' idx i : Nat} (hd : Dc μ.2.1 pc (.getfield idx) 3 pc') (hi : i < nStr) (hf : Cond.fieldLink μ.1.cls idx "java/lang/String" "value" "[B" ∈ GT) (k : EO κ μ R pc' ls (vb κ i :: st) σ o) : EO κ μ R pc ls (vs κ i :: st) σ o := by
  obtain ⟨hd, rfl⟩ := hd
  exact q_goS (fun p e s m args below meth c H locs lsA Q hC hS kk => vk_getf hC.1 hC.2.1 (hC.2.2.2.2.2.1.2.2.1.1 i hi).2.2.1 hS hC.2.2.2.1 (hC.2.2.2.2.1 _ hf) (fun _ q => q) hd kk) k
theorem q_strC {pc' idx i : Nat} (hd : Dc μ.2.1 pc (.getfield idx) 3 pc') (hi : i < nStr) (hf : Cond.fieldLink μ.1.cls idx "java/lang/String" "coder" "B" ∈ GT) (k : EO κ μ R pc' ls (vi 0 :: st) σ o) : EO κ μ R pc ls (vs κ i :: st) σ o := by
  obtain ⟨hd, rfl⟩ := hd
  exact q_goS (fun p e s m args below meth c H locs lsA Q hC hS kk => vk_getf (v := .int 0) hC.1 hC.2.1 (hC.2.2.2.2.2.1.2.2.1.1 i hi).2.1 hS hC.2.2.2.1 (hC.2.2.2.2.1 _ hf) (fun _ q => q) hd kk) k
theorem q_gsC {pc' idx : Nat} (hd : Dc μ.2.1 pc (.getstatic idx) 3 pc') (hf : Cond.fieldLink μ.1.cls idx "java/lang/String" "COMPACT_STRINGS" "Z" ∈ GT) (k : EO κ μ R pc' ls (vi 1 :: st) σ o) : EO κ μ R pc ls st σ o := by
  obtain ⟨hd, rfl⟩ := hd
  exact q_goS (fun p e s m args below meth c H locs lsA Q hC hS kk => va_gets (v := .int 1) hC.1 hC.2.1 hC.2.2.2.2.2.1.2.2.2.2.1 hS hC.2.2.2.1 (hC.2.2.2.2.1 _ hf) (fun _ q => q) hd kk) k
theorem q_gsF {pc' idx : Nat} (hd : Dc μ.2.1 pc (.getstatic idx) 3 pc') (hf : Cond.fieldLink μ.1.cls idx "jdk/internal/util/Preconditions" "SIOOBE_FORMATTER" "Ljava/util/function/BiFunction;" ∈ GT) (k : EO κ μ R pc' ls (vf κ :: st) σ o) : EO κ μ R pc ls st σ o := by
  obtain ⟨hd, rfl⟩ := hd
  exact q_goS (fun p e s m args below meth c H locs lsA Q hC hS kk => va_gets (v := va_rf κ.2.2.1.2.2.2.2) hC.1 hC.2.1 hC.2.2.2.2.2.1.2.2.2.2.2 hS hC.2.2.2.1 (hC.2.2.2.2.1 _ hf) (fun _ q => q) hd kk) k
theorem q_blen {pc' i : Nat} (hd : Dc μ.2.1 pc (.arraylength) 1 pc') (hi : i < nStr) (k : EO κ μ R pc' ls (vi (slen i) :: st) σ o) : EO κ μ R pc ls (vb κ i :: st) σ o := by
  obtain ⟨hd, rfl⟩ := hd
  refine q_goS (fun p e s m args below meth c H locs lsA Q hC hS kk => va_tlen (v := Int32.ofInt (slen i)) hC.1 hC.2.1 (hC.2.2.2.2.2.1.2.2.1.1 i hi).2.2.2 hS ?_ hd kk) k
  exact Int32.ofInt_eq_ofNat.symm
theorem str_ok : ∀ i, i < nStr → (strB.getD i []).length = strL.getD i 0 ∧ strL.getD i 0 ≤ 1000 := by decide +kernel
theorem q_baload {pc' i : Nat} {j : Int} {o1 : Res} (hd : Dc μ.2.1 pc (.baload) 1 pc') (hi : i < nStr) (k : 0 ≤ j ∧ j < slen i → EO κ μ R pc' ls (vi (sbyt i j) :: st) σ o1) : EO κ μ R pc ls (vi j :: vb κ i :: st) σ (gd (0 ≤ j ∧ j < slen i) o1) := by
  obtain ⟨hd, rfl⟩ := hd
  intro r σ' ho
  unfold gd at ho
  split at ho
  · rename_i hj
    obtain ⟨-, h2, h3⟩ := i32_inb (n := strL.getD i 0) hj (by have := (str_ok i hi).2; omega)
    refine q_goS (o := o1) (fun p e s m args below meth c H locs lsA Q hC hS kk => va_tb (v := vi (sbyt i j)) hC.1 hC.2.1 (hC.2.2.2.2.2.1.2.2.1.1 i hi).2.2.2 hS h2 ?_ hd kk) (k hj) r σ' ho
    rw [h3, sbyt, vi_toInt]
  · cases ho
theorem q_i2b {pc' : Nat} {x : Int} (hd : Dc μ.2.1 pc (.i2b) 1 pc') (k : EO κ μ R pc' ls (vi (ii2b x) :: st) σ o) : EO κ μ R pc ls (vi x :: st) σ o := by
  obtain ⟨hd, rfl⟩ := hd
  exact q_go (fun _ _ _ _ _ _ _ _ _ _ _ _ hx _ _ kk => lv_i2b hx.1 hx.2.1 hd rfl (by rw [ii2b, vi_toInt] at kk; exact kk)) k
/-- the values that are references of these kinds, in locals -/
theorem q_loadS_n {pc' : Nat} {i : Fin 4} {v : Value} (hd : Dc μ.2.1 pc (.aload_n i) 1 pc') (hl : lg ls i = some v) (hv : v = .null ∨ ∃ q, v = .ref q) (k : EO κ μ R pc' ls (v :: st) σ o) : EO κ μ R pc ls st σ o := by
  obtain ⟨hd, rfl⟩ := hd
  rcases hv with rfl | ⟨q, rfl⟩
  · exact q_go (fun _ _ _ _ _ _ _ _ _ _ _ _ hx _ h kk => lv_aload_nN hx.1 hx.2.1 hd rfl (h.2.2 _ _ hl).1 kk) k
  · exact q_go (fun _ _ _ _ _ _ _ _ _ _ _ _ hx _ h kk => lv_aload_n hx.1 hx.2.1 hd rfl (h.2.2 _ _ hl).1 kk) k
theorem runVS {idx i n : Nat} {As : List Value} (hd : decode μ.2.1 pc = .ok (.invokevirtual idx, 3)) (hc : CV μ.1.cls idx μ' n) (hn : As.length = n) (hi : i < nStr) (hq1 : "java/lang/String" = μ'.1.cls) (hR : Rm R' R μ'.2.2.1) (hs : (rest.map fun v => v.category).sum ≤ 8) (hw : WF σ) (hst : As.reverse ++ vs κ i :: rest = st) : Runs κ μ R pc st rest σ μ' R' (vs κ i :: As) := by
  intro p e s m args below meth c H locs lsA hx hP hS hsz r σ1 hM
  obtain ⟨⟨c1, c2, c3, c4, c5⟩, c6, c7, c8⟩ := hc
  obtain ⟨r1, r2, r3, r4⟩ := hR
  have ht := hx.2.2.2.2.1
  subst hst
  exact va_runV (C := μ'.1.cls) (b := κ.2.2.1.2.2.1 i) (As := As) (n := n) (nL := μ.2.2.1) ⟨hx.1, hx.2.1, hx.2.2.1, hx.2.2.2.1, ht⟩ hM
    ⟨callB_of n ht (gt_in c2) rfl r1 r2 (ht _ c1) (ht _ c6) ⟨c3, c4, c5⟩ ⟨r3, r4⟩, ht _ c7, ht _ c8⟩
    ⟨World_blind, by rw [← hq1]; exact vk_recv hx.2.2.2.2.2.1.2.2.1 hi hS, fun U hU hW => ⟨rfl, World_pre hx hw hP hS hU hW⟩⟩ rfl hn hsz rfl (lv_room hs) hd ⟨Nat.zero_le _, Nat.zero_le _⟩
theorem q_callC {pc' : Nat} {Aa : List Value} {oc : Res} {k : Int → Mem → Res} (hr : Runs κ μ R pc st rest σ μ' R' Aa) (hp : pc' = pc + 3) (hM : ∀ r σ1, oc = some (r, σ1) → Ct κ μ' R' Aa σ r σ1) (ht : μ'.2.2.2 = some .char) (kk : ∀ r σ1, (0 ≤ r ∧ r < 65536) → WF σ1 → EO κ μ R pc' ls (vi r :: rest) σ1 (k r σ1)) : EO κ μ R pc ls st σ (bd oc k) :=
  q_call hr hp hM (fun r σ1 h1 h2 => by rw [ht] at h1 ⊢; exact kk r σ1 h1 h2)
theorem q_callB {pc' : Nat} {Aa : List Value} {oc : Res} {k : Int → Mem → Res} (hr : Runs κ μ R pc st rest σ μ' R' Aa) (hp : pc' = pc + 3) (hM : ∀ r σ1, oc = some (r, σ1) → Ct κ μ' R' Aa σ r σ1) (ht : μ'.2.2.2 = some .byte) (kk : ∀ r σ1, InR r → WF σ1 → EO κ μ R pc' ls (vi r :: rest) σ1 (k r σ1)) : EO κ μ R pc ls st σ (bd oc k) :=
  q_call hr hp hM (fun r σ1 h1 h2 => by rw [ht] at h1 ⊢; exact kk r σ1 h1 h2)
theorem inr_c {r : Int} (h : 0 ≤ r ∧ r < 65536) : InR r := by unfold InR; omega
theorem q_putY {pc' : Nat} {idx c k a q : Nat} {j : Int} {o1 : Mem → Res} (hd : Dc μ.2.1 pc (.putfield idx) 3 pc') (hk : kd κ a = (0, c)) (hf : FP μ.1.cls idx c k (.array .int)) (h0 : fk c k = 1) (hj : (k : Int) = j) (hq : q ≤ 100000) (hw : WF σ) (kk : ∀ σ1, WF σ1 → EO κ μ R pc' ls st σ1 (o1 σ1)) : EO κ μ R pc ls (vr κ q :: vr κ a :: st) σ (lm (mup σ a j ((q : Nat) : Int)) o1) := by
  obtain ⟨hd, rfl⟩ := hd
  subst hj
  exact q_putV (v := (q : Int)) ⟨hd, rfl⟩ hk hf (Or.inr ⟨h0, rfl⟩) rfl rfl (kk _ (wf_mup hw a k (by unfold InR; omega)))
end
theorem ii2c_in (x : Int) : 0 ≤ ii2c x ∧ ii2c x < 65536 := by
  unfold ii2c
  rw [pk_char]
  have h : (Int32.ofInt x).toBitVec.toNat % 65536 < 65536 := Nat.mod_lt _ (by decide)
  rw [nI_toInt (by omega)]
  omega
theorem q_iretc {κ : Kp} {μ : Mth} {R : Room} {pc pc' : Nat} {ls : List (Option Value)} {σ : Mem} {x : Int} (hd : Dc μ.2.1 pc (.ireturn) 1 pc') (hr : μ.2.2.2 = some .char) (hv : 0 ≤ x ∧ x < 65536) (hw : WF σ) : EO κ μ R pc ls [vi x] σ (some (x, σ)) := by
  intro r σ' ho p e s m args below meth c H locs lsA hx hP hS hl
  obtain ⟨rfl, rfl⟩ := Prod.mk.inj (Option.some.inj ho)
  have e1 : vi x = .int (nI x.toNat) := by
    rw [vi, nI, ← Int32.ofInt_eq_ofNat, Int.toNat_of_nonneg hv.1]
  exact W.zret hx.1 hx.2.1 (hx.2.2.2.2.2.2.1.trans hr) (by show narrow .char (vi x) = vi x; rw [e1]; exact (pk_charN (by omega)).1) (fun t ht hW => ⟨⟨by rw [hr]; rfl, by rw [hr]; exact hv, World_end hx hw hP hS ht hW⟩, hS.F ht⟩) hS.2.2 hd.1 hx.2.2.2.2.2.2.2
theorem q_iretb {κ : Kp} {μ : Mth} {R : Room} {pc pc' : Nat} {ls : List (Option Value)} {σ : Mem} {x : Int} (hd : Dc μ.2.1 pc (.ireturn) 1 pc') (hr : μ.2.2.2 = some .byte) (hv : x = 0 ∨ x = 1) (hw : WF σ) : EO κ μ R pc ls [vi x] σ (some (x, σ)) := by
  intro r σ' ho p e s m args below meth c H locs lsA hx hP hS hl
  obtain ⟨rfl, rfl⟩ := Prod.mk.inj (Option.some.inj ho)
  exact W.zret hx.1 hx.2.1 (hx.2.2.2.2.2.2.1.trans hr) (by rcases hv with rfl | rfl <;> rfl) (fun t ht hW => ⟨⟨by rw [hr]; rfl, by rw [hr]; exact inr_b hv, World_end hx hw hP hS ht hW⟩, hS.F ht⟩) hS.2.2 hd.1 hx.2.2.2.2.2.2.2
theorem toNat_lt {i : Int} {n : Nat} (h : 0 ≤ i ∧ i < (n : Int)) : i.toNat < n := by omega
theorem inr_n {n : Nat} (h : n ≤ 100000) : InR (n : Int) := by unfold InR; omega
theorem cat_ok {As : List Value} (h : (As.all fun v => v.category == 1) = true) : ∀ v ∈ As, v.category = 1 := fun v hv => by simpa using List.all_eq_true.mp h v hv
def FU : Nat := 6000
theorem inr_slen {i : Nat} (h : i < nStr) : InR (slen i) := by
  have := (str_ok i h).2
  unfold InR slen
  omega
theorem vf_ref (κ : Kp) : vf κ = .null ∨ ∃ q, vf κ = .ref q := by
  unfold vf va_rf
  cases κ.2.2.1.2.2.2.2 with
  | none => exact Or.inl rfl
  | some q => exact Or.inr ⟨q, rfl⟩
theorem cat_okF (κ : Kp) {As Bs : List Value} (h : As = Bs ++ [vf κ]) (hB : (Bs.all fun v => v.category == 1) = true) : ∀ v ∈ As, v.category = 1 := by
  subst h
  intro v hv
  rcases List.mem_append.mp hv with h1 | h1
  · exact cat_ok hB v h1
  · rw [List.mem_singleton.mp h1]
    rcases vf_ref κ with h2 | ⟨q, h2⟩ <;> rw [h2] <;> rfl

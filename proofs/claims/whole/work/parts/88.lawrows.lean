/-! THE CLAIM OUT OF ONE WALK OF THE LAW'S BODY. Your part is whole_start (and what it stands on); all else here is the same for every law, but numbers. -/
def R_law : String := "FogArrowsLaw"
def lw_P (b : Addr) (xs : List Int32) (args : Array Value) (s : State) : Prop := args = #[.ref b] ∧ s.IntsAt b xs ∧ xs.length ≤ 3072 ∧ (Jvm.Cond.and given_1 narrow_1).before args s = true
def lw_Q (_ : Array Value) (s : State) (o : Outcome) (t : State) : Prop := o = .returned (some (.int 1)) ∧ Framed s o t [] 600000 7302250
def lw_Z (below : List Frame) (a : Array Value) (s : State) : State → Prop := fun t => ∃ o, t.status = .running ∧ Ended t below o ∧ lw_Q a s o t
/-- the law's own end, with 1 on the stack, nothing written that was there before, its room as the claim has it -/
theorem lw_ret {p : Program} {l : Launch} {e : Env} {s : State} {m : MethodId} {below : List Frame} {meth : Method} {c : Code} {b : Nat} (hx : p.tables.exec = Jvm.exec) (hb : c.code = code) (hr : meth.sig.returnType = ret) (hlocks : meth.locks = false) {pc : Nat} {H : Heap} {ls : Array Slot} (hdg : decode code pc = .ok (.ireturn, 1)) : W p l e room_1 s m #[Value.ref b] below meth c H [] 600000 7302250 (lw_Z below #[Value.ref b] s) (F0 m pc ls [.int 1]) := by
  intro T hT X
  obtain ⟨fs, hret, hrun, hended, hW, hframe⟩ := X.leave (v := some (.int 1)) (hlocks := hlocks) (fun h => by rw [hr] at h; cases h)
  have hmeth' : T.vm.method? m = some meth := X.method'
  refine ⟨T.setFrames fs, ?_, .returned (some (.int 1)), hrun, hended, rfl, ⟨_, rfl⟩, hW, hframe⟩
  jvm_step X.here [X.here.top, hx, hb, hdg, hmeth', hr, ret, narrow_b1]
  (try refine ⟨rfl, ?_⟩); (try refine ⟨rfl, ?_⟩)
  first | (intro acts; rw [hret _ acts rfl rfl rfl]) | rw [hret _ _ rfl rfl rfl]
  exact Steps.refl _
/-- what holds at the law's entry: the machine, the code, the tables' words (any of lw_tbl by 'hts w (by decide +kernel)'), the script of L ints xs at the cell b, what the Statement gives of the start (any of its parts by flat_of_before) -/
def lw_At (p : Program) (s : State) (m : MethodId) (meth : Method) (c : Code) (b L : Nat) (xs : Nat → Int32) : Prop :=
  p.tables.exec = Jvm.exec ∧ c.code = code ∧ meth.sig.returnType = ret ∧ c.maxLocals = 4 ∧ s.vm.findClass R_law = some m.cls ∧ (∀ w ∈ lw_tbl, w.before #[Value.ref b] s = true) ∧ va_X b L xs s s.heap ∧ b < s.heap.size ∧ meth.locks = false ∧ (Jvm.Cond.and given_1 narrow_1).before #[Value.ref b] s = true
/-! ===== the law's rows: both systems in one heap ===== -/
abbrev MuL : Mth := (x, code, 4, ret)
/-- what holds of the start, through the whole law -/
def LC (κ κ' : Kp) (p : Program) (s : State) (m : MethodId) (meth : Method) (c : Code) (b L : Nat) (xs : Nat → Int32) : Prop := Cx κ MuL p s m #[.ref b] meth c ∧ Cx κ' MuL p s m #[.ref b] meth c ∧ κ'.1 = κ.1 ∧ va_X b L xs s s.heap ∧ b < s.heap.size ∧ L ≤ 3072 ∧ (∀ q : Nat, reg κ q → s.heap.size ≤ q) ∧ (∀ q : Nat, reg κ' q → s.heap.size ≤ q) ∧ ∀ q : Nat, reg κ q → ¬ reg κ' q
/-- from here the law comes to its end with true -/
def LW (κ κ' : Kp) (p : Program) (e : Env) (s : State) (m : MethodId) (below : List Frame) (meth : Method) (c : Code) (b : Nat) (pc : Nat) (ls : List (Option Value)) (st : List Value) (σ τ : Mem) : Prop :=
  ∀ (H : Heap) (locs : List Loc) (lsA : Array Slot), va_P κ.2.1 vwCl (wl κ σ) H → va_P κ'.2.1 vwCl (wl κ' τ) H → va_S (fun q : Nat => s.heap.size ≤ q) s.heap H locs → LH lsA 4 ls → W p κ.1 e room_1 s m #[Value.ref b] below meth c H locs 600000 7302250 (lw_Z below #[Value.ref b] s) (F0 m pc lsA st)
section
variable {κ κ' : Kp} {p : Program} {e : Env} {s : State} {m : MethodId} {below : List Frame} {meth : Method} {c : Code} {b L : Nat} {xs : Nat → Int32} {pc pc' : Nat} {ls : List (Option Value)} {st : List Value} {σ τ : Mem}
theorem y_go {pc2 : Nat} {st' : List Value} (h : ∀ (H : Heap) (locs : List Loc) (lsA : Array Slot) (Q : State → Prop), va_S (fun q : Nat => s.heap.size ≤ q) s.heap H locs → LH lsA 4 ls → W p κ.1 e room_1 s m #[Value.ref b] below meth c H locs 600000 7302250 Q (F0 m pc2 lsA st') → W p κ.1 e room_1 s m #[Value.ref b] below meth c H locs 600000 7302250 Q (F0 m pc lsA st)) (k : LW κ κ' p e s m below meth c b pc2 ls st' σ τ) : LW κ κ' p e s m below meth c b pc ls st σ τ :=
  fun H locs lsA hP hP' hS hl => h H locs lsA _ hS hl (k H locs lsA hP hP' hS hl)
theorem y_iconst (hC : LC κ κ' p s m meth c b L xs) {n : Int} (hd : Dc code pc (.iconst n) 1 pc') (k : LW κ κ' p e s m below meth c b pc' ls (vi n :: st) σ τ) : LW κ κ' p e s m below meth c b pc ls st σ τ := by
  obtain ⟨hd, rfl⟩ := hd
  exact y_go (fun _ _ _ _ _ _ kk => lv_iconst hC.1.1 hC.1.2.1 hd rfl kk) k
theorem y_bipush (hC : LC κ κ' p s m meth c b L xs) {n : Int} (hd : Dc code pc (.bipush n) 2 pc') (hv : (Int8.ofInt n).toInt32 = Int32.ofInt n) (k : LW κ κ' p e s m below meth c b pc' ls (vi n :: st) σ τ) : LW κ κ' p e s m below meth c b pc ls st σ τ := by
  obtain ⟨hd, rfl⟩ := hd
  exact y_go (fun _ _ _ _ _ _ kk => lv_bipush hC.1.1 hC.1.2.1 hd hv kk) k
theorem y_iload_n (hC : LC κ κ' p s m meth c b L xs) {i : Fin 4} {v : Int} (hd : Dc code pc (.iload_n i) 1 pc') (hl : lg ls i = some (vi v)) (k : LW κ κ' p e s m below meth c b pc' ls (vi v :: st) σ τ) : LW κ κ' p e s m below meth c b pc ls st σ τ := by
  obtain ⟨hd, rfl⟩ := hd
  exact y_go (fun _ _ _ _ _ h kk => lv_iload_n hC.1.1 hC.1.2.1 hd rfl (h.2.2 _ _ hl).1 kk) k
theorem y_aload_n (hC : LC κ κ' p s m meth c b L xs) {i : Fin 4} {q : Nat} (hd : Dc code pc (.aload_n i) 1 pc') (hl : lg ls i = some (.ref q)) (k : LW κ κ' p e s m below meth c b pc' ls (.ref q :: st) σ τ) : LW κ κ' p e s m below meth c b pc ls st σ τ := by
  obtain ⟨hd, rfl⟩ := hd
  exact y_go (fun _ _ _ _ _ h kk => lv_aload_n hC.1.1 hC.1.2.1 hd rfl (h.2.2 _ _ hl).1 kk) k
theorem y_iadd (hC : LC κ κ' p s m meth c b L xs) {v w z : Int} (hd : Dc code pc (.iadd) 1 pc') (hz : v + w = z) (k : LW κ κ' p e s m below meth c b pc' ls (vi z :: st) σ τ) : LW κ κ' p e s m below meth c b pc ls (vi w :: vi v :: st) σ τ := by
  obtain ⟨hd, rfl⟩ := hd
  subst hz
  exact y_go (fun _ _ _ _ _ _ kk => lv_iadd hC.1.1 hC.1.2.1 hd (by rw [vi, Int32.ofInt_add] at kk; exact kk)) k
theorem y_isub (hC : LC κ κ' p s m meth c b L xs) {v w z : Int} (hd : Dc code pc (.isub) 1 pc') (hz : v - w = z) (k : LW κ κ' p e s m below meth c b pc' ls (vi z :: st) σ τ) : LW κ κ' p e s m below meth c b pc ls (vi w :: vi v :: st) σ τ := by
  obtain ⟨hd, rfl⟩ := hd
  subst hz
  exact y_go (fun _ _ _ _ _ _ kk => lv_isub hC.1.1 hC.1.2.1 hd (by rw [vi, Int32.ofInt_sub] at kk; exact kk)) k
theorem y_iand (hC : LC κ κ' p s m meth c b L xs) {v w : Int} (hd : Dc code pc (.iand) 1 pc') (k : LW κ κ' p e s m below meth c b pc' ls (vi (iand v w) :: st) σ τ) : LW κ κ' p e s m below meth c b pc ls (vi w :: vi v :: st) σ τ := by
  obtain ⟨hd, rfl⟩ := hd
  exact y_go (fun _ _ _ _ _ _ kk => lv_iand hC.1.1 hC.1.2.1 hd (by rw [iand, vi_toInt] at kk; exact kk)) k
theorem y_goto (hC : LC κ κ' p s m meth c b L xs) {off : Int} {tgt : Nat} (hd : Db code pc (.goto off) 3 pc' off tgt) (k : LW κ κ' p e s m below meth c b tgt ls st σ τ) : LW κ κ' p e s m below meth c b pc ls st σ τ := by
  obtain ⟨hd, rfl, ht⟩ := hd
  exact y_go (fun _ _ _ _ _ _ kk => lv_goto hC.1.1 hC.1.2.1 hd ht kk) k
/-- the answers are the same -/
theorem y_same (hC : LC κ κ' p s m meth c b L xs) {r off : Int} {tgt : Nat} (hd : Db code pc (.if_icmp .eq off) 3 pc' off tgt) (k : LW κ κ' p e s m below meth c b tgt ls st σ τ) : LW κ κ' p e s m below meth c b pc ls (vi r :: vi r :: st) σ τ := by
  obtain ⟨hd, rfl, ht⟩ := hd
  exact y_go (fun _ _ _ _ _ _ kk => lv_icmp_eq hC.1.1 hC.1.2.1 hd ht (fun _ => kk) (fun q => absurd rfl q)) k
theorem y_gt (hC : LC κ κ' p s m meth c b L xs) {v w off : Int} {tgt : Nat} (hd : Db code pc (.if_icmp .gt off) 3 pc' off tgt) (hv : InR v) (hw : InR w) (kt : w < v → LW κ κ' p e s m below meth c b tgt ls st σ τ) (kf : ¬ w < v → LW κ κ' p e s m below meth c b pc' ls st σ τ) : LW κ κ' p e s m below meth c b pc ls (vi w :: vi v :: st) σ τ := by
  obtain ⟨hd, rfl, ht⟩ := hd
  by_cases h : w < v
  · exact y_go (fun _ _ _ _ _ _ kk => lv_icmp_gt hC.1.1 hC.1.2.1 hd ht (fun _ => kk) (fun q => absurd ((i32_lt hw hv).mpr h) q)) (kt h)
  · exact y_go (fun _ _ _ _ _ _ kk => lv_icmp_gt hC.1.1 hC.1.2.1 hd ht (fun q => absurd ((i32_lt hw hv).mp q) h) (fun _ => kk)) (kf h)
/-- the script -/
def sX (xs : Nat → Int32) (j : Int) : Int := (xs j.toNat).toInt
theorem sX_in (xs : Nat → Int32) (j : Int) : InR (sX xs j) := inr_i32 _
theorem y_slen (hC : LC κ κ' p s m meth c b L xs) (hd : Dc code pc (.arraylength) 1 pc') (k : LW κ κ' p e s m below meth c b pc' ls (vi (L : Int) :: st) σ τ) : LW κ κ' p e s m below meth c b pc ls (.ref b :: st) σ τ := by
  obtain ⟨hd, rfl⟩ := hd
  refine y_go (fun H locs lsA Q hS _ kk => va_slen (A := fun q : Nat => s.heap.size ≤ q) hC.1.1 hC.1.2.1 hC.2.2.2.1 hC.2.2.2.2.1 (Nat.not_le.mpr hC.2.2.2.2.1) hS hd ?_) k
  rw [vi, Int32.ofInt_eq_ofNat] at kk
  exact kk
theorem y_sld (hC : LC κ κ' p s m meth c b L xs) {j : Int} (hj : 0 ≤ j ∧ j < (L : Int)) (hd : Dc code pc (.iaload) 1 pc') (k : LW κ κ' p e s m below meth c b pc' ls (vi (sX xs j) :: st) σ τ) : LW κ κ' p e s m below meth c b pc ls (vi j :: .ref b :: st) σ τ := by
  obtain ⟨hd, rfl⟩ := hd
  have hL := hC.2.2.2.2.2.1
  obtain ⟨-, h2, h3⟩ := i32_inb hj (by omega)
  refine y_go (fun H locs lsA Q hS _ kk => va_sld (A := fun q : Nat => s.heap.size ≤ q) hC.1.1 hC.1.2.1 hC.2.2.2.1 hC.2.2.2.2.1 (Nat.not_le.mpr hC.2.2.2.2.1) hS h2 hd ?_) k
  rw [h3]
  rw [sX, vi_toInt] at kk
  exact kk
theorem y_swap (k : LW κ' κ p e s m below meth c b pc ls st τ σ) (h : κ'.1 = κ.1) : LW κ κ' p e s m below meth c b pc ls st σ τ := by
  intro H locs lsA hP hP' hS hl
  rw [← h]
  exact k H locs lsA hP' hP hS hl
theorem LC.sw (h : LC κ κ' p s m meth c b L xs) : LC κ' κ p s m meth c b L xs := by
  obtain ⟨h1, h2, h3, h4, h5, h6, h7, h8, h9⟩ := h
  exact ⟨h2, h1, h3.symm, h4, h5, h6, h8, h7, fun q a b => h9 q b a⟩
/-- a call of one of the two, at its first cell -/
theorem y_call (hC : LC κ κ' p s m meth c b L xs) {μ' : Mth} {R' : Room} {idx ci n : Nat} {As rest : List Value} {q : vw_C} {r : Int} {σ1 : Mem} (hd : Dc code pc (.invokevirtual idx) 3 pc') (hc : CV "FogArrowsLaw" idx μ' n) (hn : As.length = n) (hk : kd κ 0 = (0, ci)) (hq : vwCl[ci]? = some q) (hq1 : q.1 = μ'.1.cls) (hR : Rm R' room_1 μ'.2.2.1) (hs : (rest.map fun v => v.category).sum ≤ 8) (hw : WF σ) (hst : As.reverse ++ vr κ 0 :: rest = st) (hM : Ct κ μ' R' (vr κ 0 :: As) σ r σ1) (hrv : rv κ μ'.2.2.2 r = some (vi r)) (k : WF σ1 → LW κ κ' p e s m below meth c b pc' ls (vi r :: rest) σ1 τ) : LW κ κ' p e s m below meth c b pc ls st σ τ := by
  obtain ⟨hd, rfl⟩ := hd
  obtain ⟨hx, hx', h3, h4, h5, h6, h7, h8, h9⟩ := hC
  obtain ⟨⟨c1, c2, c3, c4, c5⟩, c6, c7, c8⟩ := hc
  obtain ⟨r1, r2, r3, r4⟩ := hR
  subst hst
  intro H locs lsA hP hP' hS hl T hT X
  have ht := hx.2.2.2.2.1
  obtain ⟨q', g1, cell, g2, g3, g4, g5⟩ := hP 0 _ (wl_at hk (by simp))
  have hqq : q' = q := Option.some.inj (g1.symm.trans hq)
  subst hqq
  have hcl := (hx.2.2.2.2.2.1.1.1 ci q' hq).2.1
  rw [hq1] at hcl
  have hrun : va_Run p κ.1 e room_1 s m #[Value.ref b] below meth c H locs 600000 7302250 0 0 (F0 m pc lsA (As.reverse ++ vr κ 0 :: rest)) rest (QE κ μ' r σ1 (vr κ 0 :: As).toArray) (reg κ) := va_runV (C := μ'.1.cls) (b := κ.2.2.2.1 + 0) (As := As) (n := n) (nL := 4) ⟨hx.1, hx.2.1, hx.2.2.1, hx.2.2.2.1, ht⟩ hM
    ⟨callB_of n ht (gt_in c2) rfl r1 r2 (ht _ c1) (ht _ c6) ⟨c3, c4, c5⟩ ⟨r3, r4⟩, ht _ c7, ht _ c8⟩
    ⟨World_blind, ⟨cell, g2, by rw [g4]; rfl, by rw [hcl, g3]⟩, fun U hU hW => ⟨rfl, hw, by rw [hU]; exact hP, hx.2.2.2.2.2.1.next hW (fun a g1 _ => by rw [hU]; exact hS.2.1 a g1 (Nat.not_le.mpr g1))⟩⟩ rfl hn hl.1 rfl (lv_room hs) hd ⟨Nat.le_refl _, Nat.le_refl _⟩
  obtain ⟨v, st₀, t, T', L', h0, X', hL, e1, e2, ⟨⟨hv, hin, hw1, hP1, hK1⟩, hz, hkk⟩, stp⟩ := hrun T hT X
  have hv' : v = rv κ μ'.2.2.2 r := Outcome.returned.inj hv
  rw [hrv] at hv'
  subst hv'
  rw [h0] at hz hkk
  have hS1 : va_S (fun q : Nat => s.heap.size ≤ q) s.heap T'.heap (locs ++ L') := by
    refine ⟨Nat.le_trans hS.1 (by rw [e1]; exact hz), fun q g1 g2 => ?_, fun q hq => ?_⟩
    · rw [e1, hkk q (Nat.lt_of_lt_of_le g1 hS.1) (fun z => g2 (h7 q z))]
      exact hS.2.1 q g1 g2
    · rcases List.mem_append.mp hq with h | h
      · exact hS.2.2 q h
      · exact h7 _ (hL q h)
  have hP2 : va_P κ'.2.1 vwCl (wl κ' τ) T'.heap := by
    intro j y hj
    have hy := hP' j y hj
    have hlt := hy.lt
    obtain ⟨hjl, hye⟩ := wl_get hj
    refine hy.kept ?_
    rw [e1]
    refine hkk y.1 hlt (fun z => h9 _ z ?_)
    rw [hye]
    exact ⟨Nat.le_add_right _ _, by dsimp only; omega⟩
  obtain ⟨t2, a1, b1⟩ := k hw1 T'.heap (locs ++ L') lsA (by rw [e1]; exact hP1) hP2 hS1 hl T' rfl X'
  exact ⟨t2, stp t2 a1, b1⟩
theorem y_iinc (hC : LC κ κ' p s m meth c b L xs) {i : Nat} {j v w : Int} (hd : Dc code pc (.iinc i j) 3 pc') (hl : lg ls i = some (vi v)) (hw : v + j = w) (hi : Nat.blt i 4 = true) {ls' : List (Option Value)} (hls : ls.set i (some (vi w)) = ls') (k : LW κ κ' p e s m below meth c b pc' ls' st σ τ) : LW κ κ' p e s m below meth c b pc ls st σ τ := by
  obtain ⟨hd, rfl⟩ := hd
  subst hw
  subst hls
  intro H locs lsA hP hP' hS h
  have hm : (i, vi v) ∈ lpairs ls := lpairs_mem.mpr hl
  obtain ⟨j', hj⟩ := List.getElem?_of_mem hm
  refine lv_iinc hC.1.1 hC.1.2.1 hd h.has (k := j') hj rfl (Nat.blt_eq.mp hi) rfl (fun lsB hB => k H locs lsB hP hP' hS (h.set rfl ?_))
  rw [vi, Int32.ofInt_add]
  exact hB
/-- the end -/
theorem y_end (hC : LC κ κ' p s m meth c b L xs) (hd : Dc code pc (.ireturn) 1 pc') : LW κ κ' p e s m below meth c b pc ls [vi 1] σ τ := by
  obtain ⟨hd, rfl⟩ := hd
  intro H locs lsA hP hP' hS h
  refine va_forget (fun q hq => hS.2.2 q hq) ?_
  exact lw_ret hC.1.1 hC.1.2.1 hC.1.2.2.2.2.2.2.1 hC.1.2.2.2.2.2.2.2 hd
theorem y_tabIn (hC : LC κ κ' p s m meth c b L xs) {dflt lo hi v off : Int} {offs : Array Int} {len tgt : Nat} (hd : decode code pc = .ok (.tableswitch dflt lo hi offs, len)) (hv : InR v) (h1 : ¬ v < lo) (h2 : ¬ hi < v) (ho : offs[(v - lo).toNat]? = some off) (ht : (pc : Int) + off = (tgt : Int)) (k : LW κ κ' p e s m below meth c b tgt ls st σ τ) : LW κ κ' p e s m below meth c b pc ls (vi v :: st) σ τ := by
  have e : (Int32.ofInt v).toInt = v := i32_toInt hv
  exact y_go (fun _ _ _ _ _ _ kk => lv_tableIn hC.1.1 hC.1.2.1 hd (by rw [e]; exact h1) (by rw [e]; exact h2) (by rw [e]; exact ho) ht kk) k
theorem y_tabOut (hC : LC κ κ' p s m meth c b L xs) {dflt lo hi v : Int} {offs : Array Int} {len tgt : Nat} (hd : decode code pc = .ok (.tableswitch dflt lo hi offs, len)) (hv : InR v) (h : v < lo ∨ hi < v) (ht : (pc : Int) + dflt = (tgt : Int)) (k : LW κ κ' p e s m below meth c b tgt ls st σ τ) : LW κ κ' p e s m below meth c b pc ls (vi v :: st) σ τ := by
  have e : (Int32.ofInt v).toInt = v := i32_toInt hv
  exact y_go (fun _ _ _ _ _ _ kk => lv_tableOut hC.1.1 hC.1.2.1 hd (by rw [e]; exact h) ht kk) k
theorem y_ifeq (hC : LC κ κ' p s m meth c b L xs) {v off : Int} {tgt : Nat} (hd : Db code pc (.ifCond .eq off) 3 pc' off tgt) (hv : InR v) (kt : v = 0 → LW κ κ' p e s m below meth c b tgt ls st σ τ) (kf : ¬ v = 0 → LW κ κ' p e s m below meth c b pc' ls st σ τ) : LW κ κ' p e s m below meth c b pc ls (vi v :: st) σ τ := by
  obtain ⟨hd, rfl, ht⟩ := hd
  by_cases h : v = 0
  · exact y_go (fun _ _ _ _ _ _ kk => lv_if_eq hC.1.1 hC.1.2.1 hd ht (fun _ => kk) (fun q => absurd h (fun h => q (by first | exact (i32_eq0 hv).mpr h | simpa using (i32_eq0 hv).mpr h)))) (kt h)
  · exact y_go (fun _ _ _ _ _ _ kk => lv_if_eq hC.1.1 hC.1.2.1 hd ht (fun q => absurd (by first | exact (i32_eq0 hv).mp q | exact (i32_eq0 hv).mp (by simpa using q)) h) (fun _ => kk)) (kf h)
end

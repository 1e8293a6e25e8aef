/-! ===== L1: rows that read or write the memory, calls, ends ===== -/
def FI (own : String) (idx c k : Nat) : Prop := ∃ (C : String) (T : u_T) (N : Nat), vwCl[c]? = some (C, T, N) ∧ k < N ∧ nf c = N ∧ (∀ w ∈ u_ws C T N, w ∈ GT) ∧ Cond.fieldLink own idx (T k).1 (T k).2.1 (T k).2.2.1 ∈ GT
def FP (own : String) (idx c k : Nat) (ty : FieldType) : Prop := ∃ (C : String) (T : u_T) (N : Nat) (ty0 : Nat → FieldType), vwCl[c]? = some (C, T, N) ∧ k < N ∧ nf c = N ∧ (∀ w ∈ u_ws C T N, w ∈ GT) ∧ Cond.fieldLink own idx (T k).1 (T k).2.1 (T k).2.2.1 ∈ GT ∧ (T k).2.2.2 = false ∧ ty0 k = ty ∧
  (∀ k, k < N → parseFieldDescriptor (T k).2.2.1 = some (ty0 k)) ∧ (∀ a, a < N → ∀ b, b < N → a ≠ b → (T a).2.1 ≠ (T b).2.1)
section
variable {κ : Kp} {μ : Mth} {R : Room} {pc : Nat} {ls : List (Option Value)} {st : List Value} {σ : Mem} {o o' : Res}
theorem fval_at {c k b a : Nat} (h : k < nf c) : ((List.range (nf c)).map (fval b σ a c))[k]? = some (fval b σ a c k) := by
  rw [List.getElem?_map, List.getElem?_range h]
  rfl
theorem q_getV {pc' : Nat} {idx c k a : Nat} {v : Value} (hd : Dc μ.2.1 pc (.getfield idx) 3 pc') (hk : kd κ a = (0, c)) (hf : FI μ.1.cls idx c k) (hv : fval κ.2.2.2.1 σ a c k = v) (kk : EO κ μ R pc' ls (v :: st) σ o) : EO κ μ R pc ls (vr κ a :: st) σ o := by
  obtain ⟨hd, rfl⟩ := hd
  obtain ⟨C, T, N, h1, h2, h3, h4, h5⟩ := hf
  have hkn : k < nf c := by omega
  refine q_go (fun p e s m args below meth c H locs lsA Q hx hP hl kk => ?_) kk
  exact va_get (C := C) (T := T) (N := N) (v := v) hx.1 hx.2.1 hx.2.2.2.2.1 h4 hx.2.2.2.1 hx.2.2.2.2.2.1.1 hP a (wl_at hk (by simp)) h1 k h2 (hx.2.2.2.2.1 _ h5) (fun _ q => q) (by rw [← hv]; exact fval_at hkn) hd kk
theorem q_getI {pc' : Nat} {idx c k a : Nat} {j : Int} (hd : Dc μ.2.1 pc (.getfield idx) 3 pc') (hk : kd κ a = (0, c)) (hf : FI μ.1.cls idx c k) (h0 : fk c k = 0) (hj : (k : Int) = j) (kk : EO κ μ R pc' ls (vi (σ a j) :: st) σ o) : EO κ μ R pc ls (vr κ a :: st) σ o := by
  obtain ⟨hd, rfl⟩ := hd
  subst hj
  exact q_getV ⟨hd, rfl⟩ hk hf (by simp [fval, h0]) kk
theorem q_getR {pc' : Nat} {idx c k a n : Nat} (hd : Dc μ.2.1 pc (.getfield idx) 3 pc') (hk : kd κ a = (0, c)) (hf : FI μ.1.cls idx c k) (h0 : fk c k = n + 1) (h1 : 1 ≤ n) (kk : EO κ μ R pc' ls (vr κ (a + n) :: st) σ o) : EO κ μ R pc ls (vr κ a :: st) σ o := by
  obtain ⟨hd, rfl⟩ := hd
  exact q_getV ⟨hd, rfl⟩ hk hf (by
    have h2 : n ≠ 0 := by omega
    simp [fval, h0, vr, h2]) kk
theorem q_getY {pc' : Nat} {idx c k a : Nat} {j : Int} (hd : Dc μ.2.1 pc (.getfield idx) 3 pc') (hk : kd κ a = (0, c)) (hf : FI μ.1.cls idx c k) (h0 : fk c k = 1) (hj : (k : Int) = j) (kk : EO κ μ R pc' ls (vr κ (σ a j).toNat :: st) σ o) : EO κ μ R pc ls (vr κ a :: st) σ o := by
  obtain ⟨hd, rfl⟩ := hd
  subst hj
  exact q_getV ⟨hd, rfl⟩ hk hf (by simp [fval, h0, vr]) kk
/-- a row that writes the memory -/
theorem q_goM {pc' : Nat} {st' : List Value} {σ1 : Mem} (h : ∀ (p : Program) (e : Env) (s : State) (m : MethodId) (args : Array Value) (below : List Frame) (meth : Method) (c : Code) (H : Heap) (locs : List Loc) (lsA : Array Slot) (Q : State → Prop), Cx κ μ p s m args meth c → va_P κ.2.1 vwCl (wl κ σ) H → va_S (reg κ) s.heap H locs → LH lsA μ.2.2.1 ls →
    (∀ (H1 : Heap) (locs1 : List Loc), va_P κ.2.1 vwCl (wl κ σ1) H1 → va_S (reg κ) s.heap H1 locs1 → W p κ.1 e R s m args below meth c H1 locs1 0 0 Q (F0 m pc' lsA st')) → W p κ.1 e R s m args below meth c H locs 0 0 Q (F0 m pc lsA st)) (k : EO κ μ R pc' ls st' σ1 o) : EO κ μ R pc ls st σ o :=
  fun r σ' ho p e s m args below meth c H locs lsA hx hP hS hl => h p e s m args below meth c H locs lsA _ hx hP hS hl (fun H1 locs1 hP1 hS1 => k r σ' ho p e s m args below meth c H1 locs1 lsA hx hP1 hS1 hl)
theorem q_putV {pc' : Nat} {idx c k a : Nat} {x : Value} {v : Int} {ty : FieldType} (hd : Dc μ.2.1 pc (.putfield idx) 3 pc') (hk : kd κ a = (0, c)) (hf : FP μ.1.cls idx c k ty) (h0 : (fk c k = 0 ∧ x = vi v) ∨ (fk c k = 1 ∧ x = .ref (κ.2.2.2.1 + v.toNat))) (hn : narrow ty x = x) (hft : fits ty x = true) (kk : EO κ μ R pc' ls st (mup σ a k v) o) : EO κ μ R pc ls (x :: vr κ a :: st) σ o := by
  obtain ⟨hd, rfl⟩ := hd
  obtain ⟨C, T, N, ty0, h1, h2, h3, h4, h5, h6, h7, h8, h9⟩ := hf
  refine q_goM (fun p e s m args below meth c H locs lsA Q hx hP hS hl kk => ?_) kk
  refine va_put (C := C) (T := T) (N := N) (ty := ty) (v := x) hx.1 hx.2.1 hx.2.2.2.2.1 h4 ty0 h8 h9 hx.2.2.2.1 hx.2.2.2.2.2.1.1 hP (wl_D κ σ) hS a (wl_at hk (by simp)) h1 k h2 (hx.2.2.2.2.1 _ h5) (fun _ q => q) h6 (by rw [h8 k h2, h7]) hn hft (by simpa [h3] using h2) hd (fun H1 locs1 q1 q2 q3 => kk H1 locs1 ?_ q3)
  rw [wl_setF hk (by omega) h0] at q1
  exact q1
theorem q_putI {pc' : Nat} {idx c k a : Nat} {v j : Int} {o1 : Mem → Res} (hd : Dc μ.2.1 pc (.putfield idx) 3 pc') (hk : kd κ a = (0, c)) (hf : FP μ.1.cls idx c k .int) (h0 : fk c k = 0) (hj : (k : Int) = j) (hv : InR v) (hw : WF σ) (kk : ∀ σ1, WF σ1 → EO κ μ R pc' ls st σ1 (o1 σ1)) : EO κ μ R pc ls (vi v :: vr κ a :: st) σ (lm (mup σ a j v) o1) := by
  obtain ⟨hd, rfl⟩ := hd
  subst hj
  exact q_putV ⟨hd, rfl⟩ hk hf (Or.inl ⟨h0, rfl⟩) rfl rfl (kk _ (wf_mup hw a k hv))
theorem q_putZ {pc' : Nat} {idx c k a : Nat} {v j : Int} {o1 : Mem → Res} (hd : Dc μ.2.1 pc (.putfield idx) 3 pc') (hk : kd κ a = (0, c)) (hf : FP μ.1.cls idx c k .boolean) (h0 : fk c k = 0) (hj : (k : Int) = j) (hv : v = 0 ∨ v = 1) (hw : WF σ) (kk : ∀ σ1, WF σ1 → EO κ μ R pc' ls st σ1 (o1 σ1)) : EO κ μ R pc ls (vi v :: vr κ a :: st) σ (lm (mup σ a j v) o1) := by
  obtain ⟨hd, rfl⟩ := hd
  subst hj
  exact q_putV ⟨hd, rfl⟩ hk hf (Or.inl ⟨h0, rfl⟩) (by rcases hv with rfl | rfl <;> rfl) (by rcases hv with rfl | rfl <;> rfl) (kk _ (wf_mup hw a k (by rcases hv with rfl | rfl <;> exact inr_d rfl)))
theorem q_iaload {pc' : Nat} {a n : Nat} {i m : Int} {o1 : Res} (hd : Dc μ.2.1 pc (.iaload) 1 pc') (hk : kd κ a = (1, n)) (hn : n ≤ 100000) (hm : m = (n : Int)) (kk : 0 ≤ i ∧ i < m → EO κ μ R pc' ls (vi (σ a i) :: st) σ o1) : EO κ μ R pc ls (vi i :: vr κ a :: st) σ (gd (0 ≤ i ∧ i < m) o1) := by
  obtain ⟨hd, rfl⟩ := hd
  subst hm
  intro r σ' ho
  unfold gd at ho
  split at ho
  · rename_i hi
    obtain ⟨-, h2, h3⟩ := i32_inb hi hn
    refine q_go (o := o1) (fun p e s m args below meth c H locs lsA Q hx hP hl kk => ?_) (kk hi) r σ' ho
    refine va_iald hx.1 hx.2.1 hx.2.2.2.2.2.1.1 hP a 0 (wl_at hk (by simp)) rfl h2 hd ?_
    rw [h3, Int.toNat_of_nonneg hi.1]
    exact kk
  · cases ho
theorem q_iastore {pc' : Nat} {a n : Nat} {i v m : Int} {o1 : Mem → Res} (hd : Dc μ.2.1 pc (.iastore) 1 pc') (hk : kd κ a = (1, n)) (hn : n ≤ 100000) (hm : m = (n : Int)) (hv : InR v) (hw : WF σ) (kk : 0 ≤ i ∧ i < m → ∀ σ1, WF σ1 → EO κ μ R pc' ls st σ1 (o1 σ1)) : EO κ μ R pc ls (vi v :: vi i :: vr κ a :: st) σ (gd (0 ≤ i ∧ i < m) (lm (mup σ a i v) o1)) := by
  obtain ⟨hd, rfl⟩ := hd
  subst hm
  intro r σ' ho
  unfold gd at ho
  split at ho
  · rename_i hi
    obtain ⟨-, h2, h3⟩ := i32_inb hi hn
    refine q_goM (o := lm (mup σ a i v) o1) (fun p e s m args below meth c H locs lsA Q hx hP hS hl kk => ?_) (kk hi _ (wf_mup hw a i hv)) r σ' ho
    refine va_iast hx.1 hx.2.1 hx.2.2.2.2.2.1.1 hP (wl_D κ σ) hS a 0 (wl_at hk (by simp)) rfl h2 hd (fun H1 locs1 q1 q2 q3 => kk H1 locs1 ?_ q3)
    rw [h3] at q1
    have e := wl_setA (σ := σ) (v := v) hk hi.1
    exact (congrArg (fun w => va_P κ.2.1 vwCl w H1) e).mp q1
  · cases ho
theorem q_aaload {pc' : Nat} {a n j : Nat} {i m : Int} {o1 : Res} (hd : Dc μ.2.1 pc (.aaload) 1 pc') (hk : kd κ a = (j + 2, n)) (hj : j ≤ 50) (hn : n ≤ 100000) (hm : m = (n : Int)) (kk : 0 ≤ i ∧ i < m → EO κ μ R pc' ls (vr κ (a + j + 9 * i.toNat) :: st) σ o1) : EO κ μ R pc ls (vi i :: vr κ a :: st) σ (gd (0 ≤ i ∧ i < m) o1) := by
  obtain ⟨hd, rfl⟩ := hd
  subst hm
  intro r σ' ho
  unfold gd at ho
  split at ho
  · rename_i hi
    obtain ⟨-, h2, h3⟩ := i32_inb hi hn
    refine q_go (o := o1) (fun p e s m args below meth c H locs lsA Q hx hP hl kk => ?_) (kk hi) r σ' ho
    refine va_aldq hx.1 hx.2.1 hx.2.2.2.2.2.1.1 hP a 1 (wl_at hk (by show j + 2 ≠ 99; omega)) rfl h2 hd ?_
    rw [h3]
    exact kk
  · cases ho
theorem q_alen {pc' : Nat} {a n : Nat} {m : Int} (hd : Dc μ.2.1 pc (.arraylength) 1 pc') (hk : kd κ a = (1, n)) (hm : m = (n : Int)) (kk : EO κ μ R pc' ls (vi m :: st) σ o) : EO κ μ R pc ls (vr κ a :: st) σ o := by
  obtain ⟨hd, rfl⟩ := hd
  subst hm
  refine q_go (fun p e s m args below meth c H locs lsA Q hx hP hl kk => ?_) kk
  refine va_alen (v := Int32.ofInt n) hx.1 hx.2.1 hx.2.2.2.2.2.1.1 hP a 0 (wl_at hk (by simp)) rfl ?_ hd kk
  exact Int32.ofInt_eq_ofNat.symm
theorem q_alen3 {pc' : Nat} {a n j : Nat} {m : Int} (hd : Dc μ.2.1 pc (.arraylength) 1 pc') (hk : kd κ a = (j + 2, n)) (hj : j ≤ 50) (hm : m = (n : Int)) (kk : EO κ μ R pc' ls (vi m :: st) σ o) : EO κ μ R pc ls (vr κ a :: st) σ o := by
  obtain ⟨hd, rfl⟩ := hd
  subst hm
  refine q_go (fun p e s m args below meth c H locs lsA Q hx hP hl kk => ?_) kk
  refine va_alen (v := Int32.ofInt n) hx.1 hx.2.1 hx.2.2.2.2.2.1.1 hP a 1 (wl_at hk (by show j + 2 ≠ 99; omega)) rfl ?_ hd kk
  exact Int32.ofInt_eq_ofNat.symm
theorem q_idiv {pc' : Nat} {x y : Int} {o1 : Res} (hd : Dc μ.2.1 pc (.idiv) 1 pc') (hx : InR x) (hy : InR y) (kk : y ≠ 0 → EO κ μ R pc' ls (vi (wr (x.tdiv y)) :: st) σ o1) : EO κ μ R pc ls (vi y :: vi x :: st) σ (gd (y ≠ 0) o1) := by
  obtain ⟨hd, rfl⟩ := hd
  intro r σ' ho
  unfold gd at ho
  split at ho
  · rename_i hi
    refine q_go (o := o1) (fun p e s m args below meth c H locs lsA Q hC hP hl kk => ?_) (kk hi) r σ' ho
    refine lv_idiv hC.1 hC.2.1 hd (fun h => hi ((i32_eq0 hy).mp h)) ?_
    rw [vi_wr, vi, Int32.ofInt_tdiv hx.1 hx.2 hy.1 hy.2] at kk
    exact kk
  · cases ho
theorem q_irem {pc' : Nat} {x y : Int} {o1 : Res} (hd : Dc μ.2.1 pc (.irem) 1 pc') (hx : InR x) (hy : InR y) (kk : y ≠ 0 → EO κ μ R pc' ls (vi (x.tmod y) :: st) σ o1) : EO κ μ R pc ls (vi y :: vi x :: st) σ (gd (y ≠ 0) o1) := by
  obtain ⟨hd, rfl⟩ := hd
  intro r σ' ho
  unfold gd at ho
  split at ho
  · rename_i hi
    refine q_go (o := o1) (fun p e s m args below meth c H locs lsA Q hC hP hl kk => ?_) (kk hi) r σ' ho
    refine lv_irem hC.1 hC.2.1 hd (fun h => hi ((i32_eq0 hy).mp h)) ?_
    have e : vi (x.tmod y) = .int (Int32.ofInt x - Int32.ofInt x / Int32.ofInt y * Int32.ofInt y) := by
      rw [vi, Int.tmod_def, Int32.ofInt_sub, Int32.ofInt_mul, Int32.ofInt_tdiv hx.1 hx.2 hy.1 hy.2, Int32.mul_comm]
    rw [← e]
    exact kk
  · cases ho
/-- ends -/
theorem World_end {s t : State} {H : Heap} {p : Program} {m : MethodId} {args : Array Value} {meth : Method} {c : Code} (hx : Cx κ μ p s m args meth c) (hw : WF σ) (hP : va_P κ.2.1 vwCl (wl κ σ) H) {locs : List Loc} (hS : va_S (reg κ) s.heap H locs) (ht : t.heap = H) (hW : s.WarmedH t.vm) : World κ σ t :=
  ⟨hw, by rw [ht]; exact hP, hx.2.2.2.2.2.1.next hW (by rw [ht]; exact hS.2.1)⟩
theorem q_ireti {pc' : Nat} {v : Int} (hd : Dc μ.2.1 pc (.ireturn) 1 pc') (hr : μ.2.2.2 = some .int) (hv : InR v) (hw : WF σ) : EO κ μ R pc ls [vi v] σ (some (v, σ)) := by
  obtain ⟨hd, rfl⟩ := hd
  intro r σ' ho p e s m args below meth c H locs lsA hx hP hS hl
  obtain ⟨rfl, rfl⟩ := Prod.mk.inj (Option.some.inj ho)
  exact W.zret hx.1 hx.2.1 (hx.2.2.2.2.2.2.1.trans hr) rfl (fun t ht hW => ⟨⟨by rw [hr]; rfl, by rw [hr]; exact hv, World_end hx hw hP hS ht hW⟩, hS.F ht⟩) hS.2.2 hd hx.2.2.2.2.2.2.2
theorem q_iretz {pc' : Nat} {v : Int} (hd : Dc μ.2.1 pc (.ireturn) 1 pc') (hr : μ.2.2.2 = some .boolean) (hv : v = 0 ∨ v = 1) (hw : WF σ) : EO κ μ R pc ls [vi v] σ (some (v, σ)) := by
  obtain ⟨hd, rfl⟩ := hd
  intro r σ' ho p e s m args below meth c H locs lsA hx hP hS hl
  obtain ⟨rfl, rfl⟩ := Prod.mk.inj (Option.some.inj ho)
  exact W.zret hx.1 hx.2.1 (hx.2.2.2.2.2.2.1.trans hr) (by rcases hv with rfl | rfl <;> rfl) (fun t ht hW => ⟨⟨by rw [hr]; rfl, by rw [hr]; exact hv, World_end hx hw hP hS ht hW⟩, hS.F ht⟩) hS.2.2 hd hx.2.2.2.2.2.2.2
theorem q_vret {pc' : Nat} (hd : Dc μ.2.1 pc (.return_) 1 pc') (hr : μ.2.2.2 = none) (hw : WF σ) : EO κ μ R pc ls [] σ (some (0, σ)) := by
  obtain ⟨hd, rfl⟩ := hd
  intro r σ' ho p e s m args below meth c H locs lsA hx hP hS hl
  obtain ⟨rfl, rfl⟩ := Prod.mk.inj (Option.some.inj ho)
  exact W.vret hx.1 hx.2.1 (hx.2.2.2.2.2.2.1.trans hr) (fun t ht hW => ⟨⟨by rw [hr]; rfl, by rw [hr]; exact inr_0, World_end hx hw hP hS ht hW⟩, hS.F ht⟩) hS.2.2 hd hx.2.2.2.2.2.2.2
theorem q_aret {pc' : Nat} {a : Nat} {n : String} (hd : Dc μ.2.1 pc (.areturn) 1 pc') (hr : μ.2.2.2 = some (.object n)) (ha : a ≤ 100000) (hw : WF σ) : EO κ μ R pc ls [vr κ a] σ (some ((a : Int), σ)) := by
  obtain ⟨hd, rfl⟩ := hd
  intro r σ' ho p e s m args below meth c H locs lsA hx hP hS hl
  obtain ⟨rfl, rfl⟩ := Prod.mk.inj (Option.some.inj ho)
  exact W.aret hx.1 hx.2.1 (hx.2.2.2.2.2.2.1.trans hr) (Or.inl ⟨n, rfl⟩) (Or.inr ⟨_, rfl⟩) (fun t ht hW => ⟨⟨by rw [hr]; rfl, by rw [hr]; show InR _; unfold InR; omega, World_end hx hw hP hS ht hW⟩, hS.F ht⟩) hS.2.2 hd hx.2.2.2.2.2.2.2
/-- from a walk of the body to the method's contract -/
theorem Ct.of {As : List Value} {r : Int} {σ' : Mem} (hy : plainName μ.1.cls = true) (hn : As.length ≤ μ.2.2.1) (hc : ∀ v ∈ As, v.category = 1) (h : WF σ → E κ μ R 0 (As.map some) [] σ r σ') (hR : R.cells = 0 ∧ R.slots = 0) : Ct κ μ R As σ r σ' := by
  refine Met.ofW (cc := μ.2.1) (maxL := μ.2.2.1) (ret := μ.2.2.2) (ws' := GT) hy rfl ?_
  intro p e s m args below meth c s₁ B hml hv
  obtain ⟨rfl, hw, hP, hK⟩ := hv
  have hts := atoms_spec (ws := .code μ.1 μ.2.1 μ.2.2.1 μ.2.2.2 :: GT) B.pre
  have hx : Cx κ μ p s m As.toArray meth c := ⟨B.exec, B.bytes, hml, findClass_of_methodNamed B.named, fun w hw => hts w (List.mem_cons_of_mem _ hw), hK, B.returns, B.notSynchronized⟩
  rw [lg_entry_eq]
  exact h hw p e s m As.toArray below meth c s.heap [] _ hx hP va_S.rf (LH.entry As hn hc)
end

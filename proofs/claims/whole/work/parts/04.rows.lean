/-! ===== L1: the rows, an instruction each ===== -/
section
variable {κ : Kp} {μ : Mth} {R : Room} {pc : Nat} {ls : List (Option Value)} {st : List Value} {σ : Mem} {o o' : Res}
theorem q_go {pc' : Nat} {st' : List Value} (h : ∀ (p : Program) (e : Env) (s : State) (m : MethodId) (args : Array Value) (below : List Frame) (meth : Method) (c : Code) (H : Heap) (locs : List Loc) (lsA : Array Slot) (Q : State → Prop), Cx κ μ p s m args meth c → va_P κ.2.1 vwCl (wl κ σ) H → LH lsA μ.2.2.1 ls →
    W p κ.1 e R s m args below meth c H locs 0 0 Q (F0 m pc' lsA st') → W p κ.1 e R s m args below meth c H locs 0 0 Q (F0 m pc lsA st)) (k : EO κ μ R pc' ls st' σ o) : EO κ μ R pc ls st σ o :=
  fun r σ' ho p e s m args below meth c H locs lsA hx hP hS hl => h p e s m args below meth c H locs lsA _ hx hP hl (k r σ' ho p e s m args below meth c H locs lsA hx hP hS hl)
theorem q_iconst {pc' : Nat} {n : Int} (hd : Dc μ.2.1 pc (.iconst n) 1 pc') (k : EO κ μ R pc' ls (vi n :: st) σ o) : EO κ μ R pc ls st σ o := by
  obtain ⟨hd, rfl⟩ := hd
  exact q_go (fun _ _ _ _ _ _ _ _ _ _ _ _ hx _ _ kk => lv_iconst hx.1 hx.2.1 hd rfl kk) k
theorem q_bipush {pc' : Nat} {n : Int} (hd : Dc μ.2.1 pc (.bipush n) 2 pc') (hv : (Int8.ofInt n).toInt32 = Int32.ofInt n) (k : EO κ μ R pc' ls (vi n :: st) σ o) : EO κ μ R pc ls st σ o := by
  obtain ⟨hd, rfl⟩ := hd
  exact q_go (fun _ _ _ _ _ _ _ _ _ _ _ _ hx _ _ kk => lv_bipush hx.1 hx.2.1 hd hv kk) k
theorem q_sipush {pc' : Nat} {n : Int} (hd : Dc μ.2.1 pc (.sipush n) 3 pc') (hv : (Int16.ofInt n).toInt32 = Int32.ofInt n) (k : EO κ μ R pc' ls (vi n :: st) σ o) : EO κ μ R pc ls st σ o := by
  obtain ⟨hd, rfl⟩ := hd
  exact q_go (fun _ _ _ _ _ _ _ _ _ _ _ _ hx _ _ kk => lv_sipush hx.1 hx.2.1 hd hv kk) k
theorem q_ldc {pc' : Nat} {idx : Nat} {n : Int} {v : Int32} (hd : Dc μ.2.1 pc (.ldc idx) 2 pc') (hw : Cond.constant μ.1.cls idx v ∈ GT) (hv : v = Int32.ofInt n) (k : EO κ μ R pc' ls (vi n :: st) σ o) : EO κ μ R pc ls st σ o := by
  obtain ⟨hd, rfl⟩ := hd
  exact q_go (fun _ _ _ _ _ _ _ _ _ _ _ _ hx _ _ kk => lv_ldc hx.1 hx.2.1 hx.2.2.2.1 (hx.2.2.2.2.1 _ hw) hd (by rw [hv]; exact kk)) k
theorem q_ldcw {pc' : Nat} {idx : Nat} {n : Int} {v : Int32} (hd : Dc μ.2.1 pc (.ldc_w idx) 3 pc') (hw : Cond.constant μ.1.cls idx v ∈ GT) (hv : v = Int32.ofInt n) (k : EO κ μ R pc' ls (vi n :: st) σ o) : EO κ μ R pc ls st σ o := by
  obtain ⟨hd, rfl⟩ := hd
  exact q_go (fun _ _ _ _ _ _ _ _ _ _ _ _ hx _ _ kk => lv_ldcw hx.1 hx.2.1 hx.2.2.2.1 (hx.2.2.2.2.1 _ hw) hd (by rw [hv]; exact kk)) k
theorem q_iload_n {pc' : Nat} {i : Fin 4} {x : Int} (hd : Dc μ.2.1 pc (.iload_n i) 1 pc') (hl : lg ls i = some (vi x)) (k : EO κ μ R pc' ls (vi x :: st) σ o) : EO κ μ R pc ls st σ o := by
  obtain ⟨hd, rfl⟩ := hd
  exact q_go (fun _ _ _ _ _ _ _ _ _ _ _ _ hx _ h kk => lv_iload_n hx.1 hx.2.1 hd rfl (h.2.2 _ _ hl).1 kk) k
theorem q_iload {pc' : Nat} {i : Nat} {x : Int} (hd : Dc μ.2.1 pc (.iload i) 2 pc') (hl : lg ls i = some (vi x)) (k : EO κ μ R pc' ls (vi x :: st) σ o) : EO κ μ R pc ls st σ o := by
  obtain ⟨hd, rfl⟩ := hd
  exact q_go (fun _ _ _ _ _ _ _ _ _ _ _ _ hx _ h kk => lv_iload hx.1 hx.2.1 hd (h.2.2 _ _ hl).1 kk) k
theorem q_aload_n {pc' : Nat} {i : Fin 4} {q : Nat} (hd : Dc μ.2.1 pc (.aload_n i) 1 pc') (hl : lg ls i = some (.ref q)) (k : EO κ μ R pc' ls (.ref q :: st) σ o) : EO κ μ R pc ls st σ o := by
  obtain ⟨hd, rfl⟩ := hd
  exact q_go (fun _ _ _ _ _ _ _ _ _ _ _ _ hx _ h kk => lv_aload_n hx.1 hx.2.1 hd rfl (h.2.2 _ _ hl).1 kk) k
theorem q_aload {pc' : Nat} {i : Nat} {q : Nat} (hd : Dc μ.2.1 pc (.aload i) 2 pc') (hl : lg ls i = some (.ref q)) (k : EO κ μ R pc' ls (.ref q :: st) σ o) : EO κ μ R pc ls st σ o := by
  obtain ⟨hd, rfl⟩ := hd
  exact q_go (fun _ _ _ _ _ _ _ _ _ _ _ _ hx _ h kk => lv_aload hx.1 hx.2.1 hd (h.2.2 _ _ hl).1 kk) k
/-- a row that writes one local -/
theorem q_goL {pc' : Nat} {ls' : List (Option Value)} {st' : List Value} (h : ∀ (p : Program) (e : Env) (s : State) (m : MethodId) (args : Array Value) (below : List Frame) (meth : Method) (c : Code) (H : Heap) (locs : List Loc) (lsA : Array Slot) (Q : State → Prop), Cx κ μ p s m args meth c → LH lsA μ.2.2.1 ls →
    (∀ lsB : Array Slot, LH lsB μ.2.2.1 ls' → W p κ.1 e R s m args below meth c H locs 0 0 Q (F0 m pc' lsB st')) → W p κ.1 e R s m args below meth c H locs 0 0 Q (F0 m pc lsA st)) (k : EO κ μ R pc' ls' st' σ o) : EO κ μ R pc ls st σ o :=
  fun r σ' ho p e s m args below meth c H locs lsA hx hP hS hl => h p e s m args below meth c H locs lsA _ hx hl (fun lsB hB => k r σ' ho p e s m args below meth c H locs lsB hx hP hS hB)
theorem q_istore_n {pc' : Nat} {i : Fin 4} {x : Int} (hd : Dc μ.2.1 pc (.istore_n i) 1 pc') (hi : Nat.blt i μ.2.2.1 = true) (k : EO κ μ R pc' (ls.set i (some (vi x))) st σ o) : EO κ μ R pc ls (vi x :: st) σ o := by
  obtain ⟨hd, rfl⟩ := hd
  exact q_goL (fun _ _ _ _ _ _ _ _ _ _ _ _ hx h kk => lv_istore_n hx.1 hx.2.1 hd rfl h.has (Nat.blt_eq.mp hi) rfl (fun lsB hB => kk lsB (h.set rfl hB))) k
theorem q_istore {pc' : Nat} {i : Nat} {x : Int} (hd : Dc μ.2.1 pc (.istore i) 2 pc') (hi : Nat.blt i μ.2.2.1 = true) (k : EO κ μ R pc' (ls.set i (some (vi x))) st σ o) : EO κ μ R pc ls (vi x :: st) σ o := by
  obtain ⟨hd, rfl⟩ := hd
  exact q_goL (fun _ _ _ _ _ _ _ _ _ _ _ _ hx h kk => lv_istore hx.1 hx.2.1 hd h.has (Nat.blt_eq.mp hi) rfl (fun lsB hB => kk lsB (h.set rfl hB))) k
theorem q_astore_n {pc' : Nat} {i : Fin 4} {q : Nat} (hd : Dc μ.2.1 pc (.astore_n i) 1 pc') (hi : Nat.blt i μ.2.2.1 = true) (k : EO κ μ R pc' (ls.set i (some (.ref q))) st σ o) : EO κ μ R pc ls (.ref q :: st) σ o := by
  obtain ⟨hd, rfl⟩ := hd
  exact q_goL (fun _ _ _ _ _ _ _ _ _ _ _ _ hx h kk => lv_astore_n hx.1 hx.2.1 hd rfl h.has (Nat.blt_eq.mp hi) rfl (fun lsB hB => kk lsB (h.set rfl hB))) k
theorem q_astore {pc' : Nat} {i : Nat} {q : Nat} (hd : Dc μ.2.1 pc (.astore i) 2 pc') (hi : Nat.blt i μ.2.2.1 = true) (k : EO κ μ R pc' (ls.set i (some (.ref q))) st σ o) : EO κ μ R pc ls (.ref q :: st) σ o := by
  obtain ⟨hd, rfl⟩ := hd
  exact q_goL (fun _ _ _ _ _ _ _ _ _ _ _ _ hx h kk => lv_astore hx.1 hx.2.1 hd h.has (Nat.blt_eq.mp hi) rfl (fun lsB hB => kk lsB (h.set rfl hB))) k
theorem q_iinc {pc' : Nat} {i : Nat} {n x : Int} (hd : Dc μ.2.1 pc (.iinc i n) 3 pc') (hl : lg ls i = some (vi x)) (hi : Nat.blt i μ.2.2.1 = true) (k : EO κ μ R pc' (ls.set i (some (vi (wr (x + n))))) st σ o) : EO κ μ R pc ls st σ o := by
  obtain ⟨hd, rfl⟩ := hd
  refine q_goL (fun _ _ _ _ _ _ _ _ _ _ _ _ hx h kk => ?_) k
  have hm : (i, vi x) ∈ lpairs ls := lpairs_mem.mpr hl
  obtain ⟨j, hj⟩ := List.getElem?_of_mem hm
  refine lv_iinc hx.1 hx.2.1 hd h.has (k := j) hj rfl (Nat.blt_eq.mp hi) rfl (fun lsB hB => kk lsB (h.set rfl ?_))
  rw [vi_wr, vi, Int32.ofInt_add]
  exact hB
theorem q_iadd {pc' : Nat} {x y : Int} (hd : Dc μ.2.1 pc (.iadd) 1 pc') (k : EO κ μ R pc' ls (vi (wr (x + y)) :: st) σ o) : EO κ μ R pc ls (vi y :: vi x :: st) σ o := by
  obtain ⟨hd, rfl⟩ := hd
  exact q_go (fun _ _ _ _ _ _ _ _ _ _ _ _ hx _ _ kk => lv_iadd hx.1 hx.2.1 hd (by rw [vi_wr, vi, Int32.ofInt_add] at kk; exact kk)) k
theorem q_isub {pc' : Nat} {x y : Int} (hd : Dc μ.2.1 pc (.isub) 1 pc') (k : EO κ μ R pc' ls (vi (wr (x - y)) :: st) σ o) : EO κ μ R pc ls (vi y :: vi x :: st) σ o := by
  obtain ⟨hd, rfl⟩ := hd
  exact q_go (fun _ _ _ _ _ _ _ _ _ _ _ _ hx _ _ kk => lv_isub hx.1 hx.2.1 hd (by rw [vi_wr, vi, Int32.ofInt_sub] at kk; exact kk)) k
theorem q_imul {pc' : Nat} {x y : Int} (hd : Dc μ.2.1 pc (.imul) 1 pc') (k : EO κ μ R pc' ls (vi (wr (x * y)) :: st) σ o) : EO κ μ R pc ls (vi y :: vi x :: st) σ o := by
  obtain ⟨hd, rfl⟩ := hd
  exact q_go (fun _ _ _ _ _ _ _ _ _ _ _ _ hx _ _ kk => lv_imul hx.1 hx.2.1 hd (by rw [vi_wr, vi, Int32.ofInt_mul] at kk; exact kk)) k
theorem q_ineg {pc' : Nat} {x : Int} (hd : Dc μ.2.1 pc (.ineg) 1 pc') (k : EO κ μ R pc' ls (vi (wr (-x)) :: st) σ o) : EO κ μ R pc ls (vi x :: st) σ o := by
  obtain ⟨hd, rfl⟩ := hd
  exact q_go (fun _ _ _ _ _ _ _ _ _ _ _ _ hx _ _ kk => lv_ineg hx.1 hx.2.1 hd (by rw [vi_wr, vi, Int32.ofInt_neg] at kk; exact kk)) k
theorem q_iand {pc' : Nat} {x y : Int} (hd : Dc μ.2.1 pc (.iand) 1 pc') (k : EO κ μ R pc' ls (vi (iand x y) :: st) σ o) : EO κ μ R pc ls (vi y :: vi x :: st) σ o := by
  obtain ⟨hd, rfl⟩ := hd
  exact q_go (fun _ _ _ _ _ _ _ _ _ _ _ _ hx _ _ kk => lv_iand hx.1 hx.2.1 hd (by rw [iand, vi_toInt] at kk; exact kk)) k
theorem q_ior {pc' : Nat} {x y : Int} (hd : Dc μ.2.1 pc (.ior) 1 pc') (k : EO κ μ R pc' ls (vi (ior x y) :: st) σ o) : EO κ μ R pc ls (vi y :: vi x :: st) σ o := by
  obtain ⟨hd, rfl⟩ := hd
  exact q_go (fun _ _ _ _ _ _ _ _ _ _ _ _ hx _ _ kk => lv_ior hx.1 hx.2.1 hd (by rw [ior, vi_toInt] at kk; exact kk)) k
theorem q_ixor {pc' : Nat} {x y : Int} (hd : Dc μ.2.1 pc (.ixor) 1 pc') (k : EO κ μ R pc' ls (vi (ixor x y) :: st) σ o) : EO κ μ R pc ls (vi y :: vi x :: st) σ o := by
  obtain ⟨hd, rfl⟩ := hd
  exact q_go (fun _ _ _ _ _ _ _ _ _ _ _ _ hx _ _ kk => lv_ixor hx.1 hx.2.1 hd (by rw [ixor, vi_toInt] at kk; exact kk)) k
theorem q_ishl {pc' : Nat} {x y : Int} (hd : Dc μ.2.1 pc (.ishl) 1 pc') (k : EO κ μ R pc' ls (vi (ishl x y) :: st) σ o) : EO κ μ R pc ls (vi y :: vi x :: st) σ o := by
  obtain ⟨hd, rfl⟩ := hd
  exact q_go (fun _ _ _ _ _ _ _ _ _ _ _ _ hx _ _ kk => lv_ishl hx.1 hx.2.1 hd (by rw [ishl, vi_toInt] at kk; exact kk)) k
theorem q_ishr {pc' : Nat} {x y : Int} (hd : Dc μ.2.1 pc (.ishr) 1 pc') (k : EO κ μ R pc' ls (vi (ishr x y) :: st) σ o) : EO κ μ R pc ls (vi y :: vi x :: st) σ o := by
  obtain ⟨hd, rfl⟩ := hd
  exact q_go (fun _ _ _ _ _ _ _ _ _ _ _ _ hx _ _ kk => lv_ishr hx.1 hx.2.1 hd (by rw [ishr, vi_toInt] at kk; exact kk)) k
theorem q_iushr {pc' : Nat} {x y : Int} (hd : Dc μ.2.1 pc (.iushr) 1 pc') (k : EO κ μ R pc' ls (vi (iushr x y) :: st) σ o) : EO κ μ R pc ls (vi y :: vi x :: st) σ o := by
  obtain ⟨hd, rfl⟩ := hd
  exact q_go (fun _ _ _ _ _ _ _ _ _ _ _ _ hx _ _ kk => lv_iushr hx.1 hx.2.1 hd rfl (by rw [iushr, vi_toInt] at kk; exact kk)) k
theorem q_i2c {pc' : Nat} {x : Int} (hd : Dc μ.2.1 pc (.i2c) 1 pc') (k : EO κ μ R pc' ls (vi (ii2c x) :: st) σ o) : EO κ μ R pc ls (vi x :: st) σ o := by
  obtain ⟨hd, rfl⟩ := hd
  exact q_go (fun _ _ _ _ _ _ _ _ _ _ _ _ hx _ _ kk => lv_i2c hx.1 hx.2.1 hd rfl (by rw [ii2c, vi_toInt] at kk; exact kk)) k
theorem q_dup {pc' : Nat} {v : Value} (hd : Dc μ.2.1 pc (.dup) 1 pc') (hv : v.category = 1) (k : EO κ μ R pc' ls (v :: v :: st) σ o) : EO κ μ R pc ls (v :: st) σ o := by
  obtain ⟨hd, rfl⟩ := hd
  exact q_go (fun _ _ _ _ _ _ _ _ _ _ _ _ hx _ _ kk => lv_dup hx.1 hx.2.1 hd hv kk) k
theorem q_dup2 {pc' : Nat} {v w : Value} (hd : Dc μ.2.1 pc (.dup2) 1 pc') (hv : v.category = 1) (hw : w.category = 1) (k : EO κ μ R pc' ls (v :: w :: v :: w :: st) σ o) : EO κ μ R pc ls (v :: w :: st) σ o := by
  obtain ⟨hd, rfl⟩ := hd
  exact q_go (fun _ _ _ _ _ _ _ _ _ _ _ _ hx _ _ kk => lv_dup2_11 hx.1 hx.2.1 hd hv hw kk) k
theorem q_pop {pc' : Nat} {v : Value} (hd : Dc μ.2.1 pc (.pop) 1 pc') (hv : v.category = 1) (k : EO κ μ R pc' ls st σ o) : EO κ μ R pc ls (v :: st) σ o := by
  obtain ⟨hd, rfl⟩ := hd
  exact q_go (fun _ _ _ _ _ _ _ _ _ _ _ _ hx _ _ kk => lv_pop hx.1 hx.2.1 hd hv kk) k
theorem q_goto {pc' : Nat} {off : Int} {tgt : Nat} (hd : Db μ.2.1 pc (.goto off) 3 pc' off tgt) (k : EO κ μ R tgt ls st σ o) : EO κ μ R pc ls st σ o := by
  obtain ⟨hd, rfl, ht⟩ := hd
  exact q_go (fun _ _ _ _ _ _ _ _ _ _ _ _ hx _ _ kk => lv_goto hx.1 hx.2.1 hd ht kk) k
theorem q_if_eq {pc' : Nat} {x off : Int} {tgt : Nat} {o2 : Res} (hd : Db μ.2.1 pc (.ifCond .eq off) 3 pc' off tgt) (hx : InR x) (kt : x = 0 → EO κ μ R tgt ls st σ o) (kf : ¬ x = 0 → EO κ μ R pc' ls st σ o2) : EO κ μ R pc ls (vi x :: st) σ (if x = 0 then o else o2) := by
  obtain ⟨hd, rfl, ht⟩ := hd
  have hi := i32_eq0 hx
  intro r σ' ho p e s m args below meth c H locs lsA hC hP hS hl
  refine lv_if_eq hC.1 hC.2.1 hd ht (fun h => ?_) (fun h => ?_)
  · have h2 : x = 0 := by first | exact hi.mp h | exact hi.mp (by simpa using h)
    rw [if_pos h2] at ho
    exact kt h2 r σ' ho p e s m args below meth c H locs lsA hC hP hS hl
  · have h2 : ¬ x = 0 := fun q => h (by first | exact hi.mpr q | simpa using hi.mpr q)
    rw [if_neg h2] at ho
    exact kf h2 r σ' ho p e s m args below meth c H locs lsA hC hP hS hl
theorem q_icmp_eq {pc' : Nat} {x y off : Int} {tgt : Nat} {o2 : Res} (hd : Db μ.2.1 pc (.if_icmp .eq off) 3 pc' off tgt) (hx : InR x) (hy : InR y) (kt : x = y → EO κ μ R tgt ls st σ o) (kf : ¬ x = y → EO κ μ R pc' ls st σ o2) : EO κ μ R pc ls (vi y :: vi x :: st) σ (if x = y then o else o2) := by
  obtain ⟨hd, rfl, ht⟩ := hd
  have hi := i32_eq hx hy
  intro r σ' ho p e s m args below meth c H locs lsA hC hP hS hl
  refine lv_icmp_eq hC.1 hC.2.1 hd ht (fun h => ?_) (fun h => ?_)
  · have h2 : x = y := by first | exact hi.mp h | exact hi.mp (by simpa using h)
    rw [if_pos h2] at ho
    exact kt h2 r σ' ho p e s m args below meth c H locs lsA hC hP hS hl
  · have h2 : ¬ x = y := fun q => h (by first | exact hi.mpr q | simpa using hi.mpr q)
    rw [if_neg h2] at ho
    exact kf h2 r σ' ho p e s m args below meth c H locs lsA hC hP hS hl
theorem q_if_ne {pc' : Nat} {x off : Int} {tgt : Nat} {o2 : Res} (hd : Db μ.2.1 pc (.ifCond .ne off) 3 pc' off tgt) (hx : InR x) (kt : x = 0 → EO κ μ R pc' ls st σ o) (kf : ¬ x = 0 → EO κ μ R tgt ls st σ o2) : EO κ μ R pc ls (vi x :: st) σ (if x = 0 then o else o2) := by
  obtain ⟨hd, rfl, ht⟩ := hd
  have hi := i32_eq0 hx
  intro r σ' ho p e s m args below meth c H locs lsA hC hP hS hl
  refine lv_if_ne hC.1 hC.2.1 hd ht (fun h => ?_) (fun h => ?_)
  · have h2 : ¬ x = 0 := fun q => by
      have h3 := hi.mpr q
      first | exact h h3 | (rw [← Int32.not_le] at h3; exact h3 h) | (rw [← Int32.not_lt] at h; exact h h3)
    rw [if_neg h2] at ho
    exact kf h2 r σ' ho p e s m args below meth c H locs lsA hC hP hS hl
  · have h2 : x = 0 := hi.mp (by first | exact h | exact Int32.not_le.mp h | exact Classical.not_not.mp h)
    rw [if_pos h2] at ho
    exact kt h2 r σ' ho p e s m args below meth c H locs lsA hC hP hS hl
theorem q_icmp_ne {pc' : Nat} {x y off : Int} {tgt : Nat} {o2 : Res} (hd : Db μ.2.1 pc (.if_icmp .ne off) 3 pc' off tgt) (hx : InR x) (hy : InR y) (kt : x = y → EO κ μ R pc' ls st σ o) (kf : ¬ x = y → EO κ μ R tgt ls st σ o2) : EO κ μ R pc ls (vi y :: vi x :: st) σ (if x = y then o else o2) := by
  obtain ⟨hd, rfl, ht⟩ := hd
  have hi := i32_eq hx hy
  intro r σ' ho p e s m args below meth c H locs lsA hC hP hS hl
  refine lv_icmp_ne hC.1 hC.2.1 hd ht (fun h => ?_) (fun h => ?_)
  · have h2 : ¬ x = y := fun q => by
      have h3 := hi.mpr q
      first | exact h h3 | (rw [← Int32.not_le] at h3; exact h3 h) | (rw [← Int32.not_lt] at h; exact h h3)
    rw [if_neg h2] at ho
    exact kf h2 r σ' ho p e s m args below meth c H locs lsA hC hP hS hl
  · have h2 : x = y := hi.mp (by first | exact h | exact Int32.not_le.mp h | exact Classical.not_not.mp h)
    rw [if_pos h2] at ho
    exact kt h2 r σ' ho p e s m args below meth c H locs lsA hC hP hS hl
theorem q_if_lt {pc' : Nat} {x off : Int} {tgt : Nat} {o2 : Res} (hd : Db μ.2.1 pc (.ifCond .lt off) 3 pc' off tgt) (hx : InR x) (kt : x < 0 → EO κ μ R tgt ls st σ o) (kf : ¬ x < 0 → EO κ μ R pc' ls st σ o2) : EO κ μ R pc ls (vi x :: st) σ (if x < 0 then o else o2) := by
  obtain ⟨hd, rfl, ht⟩ := hd
  have hi := i32_lt0 hx
  intro r σ' ho p e s m args below meth c H locs lsA hC hP hS hl
  refine lv_if_lt hC.1 hC.2.1 hd ht (fun h => ?_) (fun h => ?_)
  · have h2 : x < 0 := by first | exact hi.mp h | exact hi.mp (by simpa using h)
    rw [if_pos h2] at ho
    exact kt h2 r σ' ho p e s m args below meth c H locs lsA hC hP hS hl
  · have h2 : ¬ x < 0 := fun q => h (by first | exact hi.mpr q | simpa using hi.mpr q)
    rw [if_neg h2] at ho
    exact kf h2 r σ' ho p e s m args below meth c H locs lsA hC hP hS hl
theorem q_icmp_lt {pc' : Nat} {x y off : Int} {tgt : Nat} {o2 : Res} (hd : Db μ.2.1 pc (.if_icmp .lt off) 3 pc' off tgt) (hx : InR x) (hy : InR y) (kt : x < y → EO κ μ R tgt ls st σ o) (kf : ¬ x < y → EO κ μ R pc' ls st σ o2) : EO κ μ R pc ls (vi y :: vi x :: st) σ (if x < y then o else o2) := by
  obtain ⟨hd, rfl, ht⟩ := hd
  have hi := i32_lt hx hy
  intro r σ' ho p e s m args below meth c H locs lsA hC hP hS hl
  refine lv_icmp_lt hC.1 hC.2.1 hd ht (fun h => ?_) (fun h => ?_)
  · have h2 : x < y := by first | exact hi.mp h | exact hi.mp (by simpa using h)
    rw [if_pos h2] at ho
    exact kt h2 r σ' ho p e s m args below meth c H locs lsA hC hP hS hl
  · have h2 : ¬ x < y := fun q => h (by first | exact hi.mpr q | simpa using hi.mpr q)
    rw [if_neg h2] at ho
    exact kf h2 r σ' ho p e s m args below meth c H locs lsA hC hP hS hl
theorem q_if_ge {pc' : Nat} {x off : Int} {tgt : Nat} {o2 : Res} (hd : Db μ.2.1 pc (.ifCond .ge off) 3 pc' off tgt) (hx : InR x) (kt : x < 0 → EO κ μ R pc' ls st σ o) (kf : ¬ x < 0 → EO κ μ R tgt ls st σ o2) : EO κ μ R pc ls (vi x :: st) σ (if x < 0 then o else o2) := by
  obtain ⟨hd, rfl, ht⟩ := hd
  have hi := i32_lt0 hx
  intro r σ' ho p e s m args below meth c H locs lsA hC hP hS hl
  refine lv_if_ge hC.1 hC.2.1 hd ht (fun h => ?_) (fun h => ?_)
  · have h2 : ¬ x < 0 := fun q => by
      have h3 := hi.mpr q
      first | exact h h3 | (rw [← Int32.not_le] at h3; exact h3 h) | (rw [← Int32.not_lt] at h; exact h h3)
    rw [if_neg h2] at ho
    exact kf h2 r σ' ho p e s m args below meth c H locs lsA hC hP hS hl
  · have h2 : x < 0 := hi.mp (by first | exact h | exact Int32.not_le.mp h | exact Classical.not_not.mp h)
    rw [if_pos h2] at ho
    exact kt h2 r σ' ho p e s m args below meth c H locs lsA hC hP hS hl
theorem q_icmp_ge {pc' : Nat} {x y off : Int} {tgt : Nat} {o2 : Res} (hd : Db μ.2.1 pc (.if_icmp .ge off) 3 pc' off tgt) (hx : InR x) (hy : InR y) (kt : x < y → EO κ μ R pc' ls st σ o) (kf : ¬ x < y → EO κ μ R tgt ls st σ o2) : EO κ μ R pc ls (vi y :: vi x :: st) σ (if x < y then o else o2) := by
  obtain ⟨hd, rfl, ht⟩ := hd
  have hi := i32_lt hx hy
  intro r σ' ho p e s m args below meth c H locs lsA hC hP hS hl
  refine lv_icmp_ge hC.1 hC.2.1 hd ht (fun h => ?_) (fun h => ?_)
  · have h2 : ¬ x < y := fun q => by
      have h3 := hi.mpr q
      first | exact h h3 | (rw [← Int32.not_le] at h3; exact h3 h) | (rw [← Int32.not_lt] at h; exact h h3)
    rw [if_neg h2] at ho
    exact kf h2 r σ' ho p e s m args below meth c H locs lsA hC hP hS hl
  · have h2 : x < y := hi.mp (by first | exact h | exact Int32.not_le.mp h | exact Classical.not_not.mp h)
    rw [if_pos h2] at ho
    exact kt h2 r σ' ho p e s m args below meth c H locs lsA hC hP hS hl
theorem q_if_gt {pc' : Nat} {x off : Int} {tgt : Nat} {o2 : Res} (hd : Db μ.2.1 pc (.ifCond .gt off) 3 pc' off tgt) (hx : InR x) (kt : 0 < x → EO κ μ R tgt ls st σ o) (kf : ¬ 0 < x → EO κ μ R pc' ls st σ o2) : EO κ μ R pc ls (vi x :: st) σ (if 0 < x then o else o2) := by
  obtain ⟨hd, rfl, ht⟩ := hd
  have hi := i32_0lt hx
  intro r σ' ho p e s m args below meth c H locs lsA hC hP hS hl
  refine lv_if_gt hC.1 hC.2.1 hd ht (fun h => ?_) (fun h => ?_)
  · have h2 : 0 < x := by first | exact hi.mp h | exact hi.mp (by simpa using h)
    rw [if_pos h2] at ho
    exact kt h2 r σ' ho p e s m args below meth c H locs lsA hC hP hS hl
  · have h2 : ¬ 0 < x := fun q => h (by first | exact hi.mpr q | simpa using hi.mpr q)
    rw [if_neg h2] at ho
    exact kf h2 r σ' ho p e s m args below meth c H locs lsA hC hP hS hl
theorem q_icmp_gt {pc' : Nat} {x y off : Int} {tgt : Nat} {o2 : Res} (hd : Db μ.2.1 pc (.if_icmp .gt off) 3 pc' off tgt) (hx : InR x) (hy : InR y) (kt : y < x → EO κ μ R tgt ls st σ o) (kf : ¬ y < x → EO κ μ R pc' ls st σ o2) : EO κ μ R pc ls (vi y :: vi x :: st) σ (if y < x then o else o2) := by
  obtain ⟨hd, rfl, ht⟩ := hd
  have hi := i32_lt hy hx
  intro r σ' ho p e s m args below meth c H locs lsA hC hP hS hl
  refine lv_icmp_gt hC.1 hC.2.1 hd ht (fun h => ?_) (fun h => ?_)
  · have h2 : y < x := by first | exact hi.mp h | exact hi.mp (by simpa using h)
    rw [if_pos h2] at ho
    exact kt h2 r σ' ho p e s m args below meth c H locs lsA hC hP hS hl
  · have h2 : ¬ y < x := fun q => h (by first | exact hi.mpr q | simpa using hi.mpr q)
    rw [if_neg h2] at ho
    exact kf h2 r σ' ho p e s m args below meth c H locs lsA hC hP hS hl
theorem q_if_le {pc' : Nat} {x off : Int} {tgt : Nat} {o2 : Res} (hd : Db μ.2.1 pc (.ifCond .le off) 3 pc' off tgt) (hx : InR x) (kt : 0 < x → EO κ μ R pc' ls st σ o) (kf : ¬ 0 < x → EO κ μ R tgt ls st σ o2) : EO κ μ R pc ls (vi x :: st) σ (if 0 < x then o else o2) := by
  obtain ⟨hd, rfl, ht⟩ := hd
  have hi := i32_0lt hx
  intro r σ' ho p e s m args below meth c H locs lsA hC hP hS hl
  refine lv_if_le hC.1 hC.2.1 hd ht (fun h => ?_) (fun h => ?_)
  · have h2 : ¬ 0 < x := fun q => by
      have h3 := hi.mpr q
      first | exact h h3 | (rw [← Int32.not_le] at h3; exact h3 h) | (rw [← Int32.not_lt] at h; exact h h3)
    rw [if_neg h2] at ho
    exact kf h2 r σ' ho p e s m args below meth c H locs lsA hC hP hS hl
  · have h2 : 0 < x := hi.mp (by first | exact h | exact Int32.not_le.mp h | exact Classical.not_not.mp h)
    rw [if_pos h2] at ho
    exact kt h2 r σ' ho p e s m args below meth c H locs lsA hC hP hS hl
theorem q_icmp_le {pc' : Nat} {x y off : Int} {tgt : Nat} {o2 : Res} (hd : Db μ.2.1 pc (.if_icmp .le off) 3 pc' off tgt) (hx : InR x) (hy : InR y) (kt : y < x → EO κ μ R pc' ls st σ o) (kf : ¬ y < x → EO κ μ R tgt ls st σ o2) : EO κ μ R pc ls (vi y :: vi x :: st) σ (if y < x then o else o2) := by
  obtain ⟨hd, rfl, ht⟩ := hd
  have hi := i32_lt hy hx
  intro r σ' ho p e s m args below meth c H locs lsA hC hP hS hl
  refine lv_icmp_le hC.1 hC.2.1 hd ht (fun h => ?_) (fun h => ?_)
  · have h2 : ¬ y < x := fun q => by
      have h3 := hi.mpr q
      first | exact h h3 | (rw [← Int32.not_le] at h3; exact h3 h) | (rw [← Int32.not_lt] at h; exact h h3)
    rw [if_neg h2] at ho
    exact kf h2 r σ' ho p e s m args below meth c H locs lsA hC hP hS hl
  · have h2 : y < x := hi.mp (by first | exact h | exact Int32.not_le.mp h | exact Classical.not_not.mp h)
    rw [if_pos h2] at ho
    exact kt h2 r σ' ho p e s m args below meth c H locs lsA hC hP hS hl
end

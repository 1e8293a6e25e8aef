/-! ===== constructors: the cells of what is made stand one behind another from the object on ===== -/
def wz : Nat → List va_E → va_W
  | _, [] => []
  | q, e :: L => (q, e) :: wz (q + 1) L
theorem wz_get : ∀ (L : List va_E) (q i : Nat), (wz q L)[i]? = (L[i]?).map (fun e => (q + i, e))
  | [], q, i => by simp [wz]
  | e :: L, q, 0 => by simp [wz]
  | e :: L, q, i + 1 => by
    have h := wz_get L (q + 1) i
    simp only [wz, List.getElem?_cons_succ, h]
    congr 1
    funext x
    congr 1
    omega
theorem wz_set : ∀ (L : List va_E) (q i : Nat) (e : va_E), (wz q L).set i (q + i, e) = wz q (L.set i e)
  | [], q, i, e => by simp [wz]
  | x :: L, q, 0, e => by simp [wz]
  | x :: L, q, i + 1, e => by
    have h := wz_set L (q + 1) i e
    simp only [wz, List.set_cons_succ]
    rw [← h, show q + (i + 1) = q + 1 + i by omega]
theorem wz_app : ∀ (L M : List va_E) (q : Nat), wz q (L ++ M) = wz q L ++ wz (q + L.length) M
  | [], M, q => by simp [wz]
  | x :: L, M, q => by
    have h := wz_app L M (q + 1)
    simp only [wz, List.cons_append, h, List.length_cons]
    rw [show q + 1 + L.length = q + (L.length + 1) by omega]
theorem wz_at {L : List va_E} {q i : Nat} {e : va_E} (h : L[i]? = some e) : (wz q L)[i]? = some (q + i, e) := by rw [wz_get, h]; rfl
theorem wz_mem {L : List va_E} {q k : Nat} {x : Nat × va_E} (h : (wz q L)[k]? = some x) : x.1 = q + k ∧ L[k]? = some x.2 := by
  rw [wz_get] at h
  cases hk : L[k]? with
  | none => rw [hk] at h; cases h
  | some e => rw [hk] at h; cases h; exact ⟨rfl, rfl⟩
theorem wz_D (q : Nat) (L : List va_E) : va_D (fun x : Nat => q ≤ x) (wz q L) := by
  refine ⟨fun i j a b ha hb hab => ?_, fun k x hk => ?_⟩
  · have h1 := (wz_mem ha).1
    have h2 := (wz_mem hb).1
    omega
  · have h1 := (wz_mem hk).1
    show q ≤ x.1
    omega
def KC (κ : Kp) (U : State) : Prop := va_K κ.2.1 vwCl [(κ.2.2.1.1, .int), (κ.2.2.1.2.1, .object "FogArrows$Night")] U ∧ Tabs U ∧ va_AO "FogArrows$Night" U
theorem KC.warm {κ : Kp} {s t : State} (hW : s.WarmedH t.vm) (h : KC κ s) : KC κ t := ⟨va_K.moved hW.alike h.1, h.2.1.warm hW, h.2.2.moved hW.alike⟩
def Cc (κ : Kp) (μ : Mth) (p : Program) (s : State) (m : MethodId) (args : Array Value) (meth : Method) (c : Code) : Prop :=
  p.tables.exec = Jvm.exec ∧ c.code = μ.2.1 ∧ c.maxLocals = μ.2.2.1 ∧ s.vm.findClass μ.1.cls = some m.cls ∧ (∀ w ∈ GT, w.before args s = true) ∧ KC κ s ∧ meth.sig.returnType = none ∧ meth.locks = false ∧ meth.name = "<init>"
def QC (κ : Kp) (q0 : Nat) (Lo : List va_E) : Array Value → State → Outcome → State → Prop := fun _ st oc t => (oc = .returned none ∧ va_P κ.2.1 vwCl (wz q0 Lo) t.heap ∧ t.heap.size = q0 + Lo.length) ∧ va_F (fun x : Nat => q0 ≤ x) st t
def EC (κ : Kp) (μ : Mth) (R : Room) (q0 pc : Nat) (ls : List (Option Value)) (st : List Value) (L : List va_E) (k n : Nat) (Lo : List va_E) : Prop :=
  ∀ (p : Program) (e : Env) (s : State) (m : MethodId) (args : Array Value) (below : List Frame) (meth : Method) (c : Code) (H : Heap) (locs : List Loc) (lsA : Array Slot), Cc κ μ p s m args meth c → va_P κ.2.1 vwCl (wz q0 L) H → H.size = q0 + L.length → va_S (fun x : Nat => q0 ≤ x) s.heap H locs → s.heap.size = q0 + 1 → LH lsA μ.2.2.1 ls →
    W p κ.1 e R s m args below meth c H locs k n (MQ below (QC κ q0 Lo) args s R.cells R.slots (fun x : Nat => q0 ≤ x)) (F0 m pc lsA st)
def CtC (κ : Kp) (μ : Mth) (R : Room) (q0 : Nat) (e0 : va_E) (Lo : List va_E) : Prop :=
  Met κ.1 μ.1 (.code μ.1 μ.2.1 μ.2.2.1 μ.2.2.2 :: GT) R (va_Pc [.ref q0] (fun U => U.heap.size = q0 + 1 ∧ va_P κ.2.1 vwCl (wz q0 [e0]) U.heap ∧ KC κ U)) (QC κ q0 Lo) R.cells R.slots (fun x : Nat => q0 ≤ x)
section
variable {κ : Kp} {μ μ' : Mth} {R R' : Room} {q0 pc pc' : Nat} {ls : List (Option Value)} {st : List Value} {L Lo : List va_E} {k n : Nat}
theorem x_go {pc2 : Nat} {st' : List Value} (h : ∀ (p : Program) (e : Env) (s : State) (m : MethodId) (args : Array Value) (below : List Frame) (meth : Method) (c : Code) (H : Heap) (locs : List Loc) (lsA : Array Slot) (Q : State → Prop), Cc κ μ p s m args meth c → LH lsA μ.2.2.1 ls →
    W p κ.1 e R s m args below meth c H locs k n Q (F0 m pc2 lsA st') → W p κ.1 e R s m args below meth c H locs k n Q (F0 m pc lsA st)) (kk : EC κ μ R q0 pc2 ls st' L k n Lo) : EC κ μ R q0 pc ls st L k n Lo :=
  fun p e s m args below meth c H locs lsA hx hP hsz hS h0 hl => h p e s m args below meth c H locs lsA _ hx hl (kk p e s m args below meth c H locs lsA hx hP hsz hS h0 hl)
theorem x_goL {pc2 : Nat} {ls' : List (Option Value)} {st' : List Value} (h : ∀ (p : Program) (e : Env) (s : State) (m : MethodId) (args : Array Value) (below : List Frame) (meth : Method) (c : Code) (H : Heap) (locs : List Loc) (lsA : Array Slot) (Q : State → Prop), Cc κ μ p s m args meth c → LH lsA μ.2.2.1 ls →
    (∀ lsB : Array Slot, LH lsB μ.2.2.1 ls' → W p κ.1 e R s m args below meth c H locs k n Q (F0 m pc2 lsB st')) → W p κ.1 e R s m args below meth c H locs k n Q (F0 m pc lsA st)) (kk : EC κ μ R q0 pc2 ls' st' L k n Lo) : EC κ μ R q0 pc ls st L k n Lo :=
  fun p e s m args below meth c H locs lsA hx hP hsz hS h0 hl => h p e s m args below meth c H locs lsA _ hx hl (fun lsB hB => kk p e s m args below meth c H locs lsB hx hP hsz hS h0 hB)
theorem x_iconst {i : Int} (hd : Dc μ.2.1 pc (.iconst i) 1 pc') (kk : EC κ μ R q0 pc' ls (vi i :: st) L k n Lo) : EC κ μ R q0 pc ls st L k n Lo := by
  obtain ⟨hd, rfl⟩ := hd
  exact x_go (fun _ _ _ _ _ _ _ _ _ _ _ _ hx _ w => lv_iconst hx.1 hx.2.1 hd rfl w) kk
theorem x_bipush {i : Int} (hd : Dc μ.2.1 pc (.bipush i) 2 pc') (hv : (Int8.ofInt i).toInt32 = Int32.ofInt i) (kk : EC κ μ R q0 pc' ls (vi i :: st) L k n Lo) : EC κ μ R q0 pc ls st L k n Lo := by
  obtain ⟨hd, rfl⟩ := hd
  exact x_go (fun _ _ _ _ _ _ _ _ _ _ _ _ hx _ w => lv_bipush hx.1 hx.2.1 hd hv w) kk
theorem x_sipush {i : Int} (hd : Dc μ.2.1 pc (.sipush i) 3 pc') (hv : (Int16.ofInt i).toInt32 = Int32.ofInt i) (kk : EC κ μ R q0 pc' ls (vi i :: st) L k n Lo) : EC κ μ R q0 pc ls st L k n Lo := by
  obtain ⟨hd, rfl⟩ := hd
  exact x_go (fun _ _ _ _ _ _ _ _ _ _ _ _ hx _ w => lv_sipush hx.1 hx.2.1 hd hv w) kk
theorem x_iload_n {i : Fin 4} {x : Int} (hd : Dc μ.2.1 pc (.iload_n i) 1 pc') (hl : lg ls i = some (vi x)) (kk : EC κ μ R q0 pc' ls (vi x :: st) L k n Lo) : EC κ μ R q0 pc ls st L k n Lo := by
  obtain ⟨hd, rfl⟩ := hd
  exact x_go (fun _ _ _ _ _ _ _ _ _ _ _ _ hx h w => lv_iload_n hx.1 hx.2.1 hd rfl (h.2.2 _ _ hl).1 w) kk
theorem x_aload_n {i : Fin 4} {q : Nat} (hd : Dc μ.2.1 pc (.aload_n i) 1 pc') (hl : lg ls i = some (.ref q)) (kk : EC κ μ R q0 pc' ls (.ref q :: st) L k n Lo) : EC κ μ R q0 pc ls st L k n Lo := by
  obtain ⟨hd, rfl⟩ := hd
  exact x_go (fun _ _ _ _ _ _ _ _ _ _ _ _ hx h w => lv_aload_n hx.1 hx.2.1 hd rfl (h.2.2 _ _ hl).1 w) kk
theorem x_istore_n {i : Fin 4} {x : Int} (hd : Dc μ.2.1 pc (.istore_n i) 1 pc') (hi : Nat.blt i μ.2.2.1 = true) {ls' : List (Option Value)} (hls : ls.set i (some (vi x)) = ls') (kk : EC κ μ R q0 pc' ls' st L k n Lo) : EC κ μ R q0 pc ls (vi x :: st) L k n Lo := by
  obtain ⟨hd, rfl⟩ := hd
  subst hls
  exact x_goL (fun _ _ _ _ _ _ _ _ _ _ _ _ hx h w => lv_istore_n hx.1 hx.2.1 hd rfl h.has (Nat.blt_eq.mp hi) rfl (fun lsB hB => w lsB (h.set rfl hB))) kk
theorem x_iinc {i : Nat} {j x y : Int} (hd : Dc μ.2.1 pc (.iinc i j) 3 pc') (hl : lg ls i = some (vi x)) (hy : x + j = y) (hi : Nat.blt i μ.2.2.1 = true) {ls' : List (Option Value)} (hls : ls.set i (some (vi y)) = ls') (kk : EC κ μ R q0 pc' ls' st L k n Lo) : EC κ μ R q0 pc ls st L k n Lo := by
  obtain ⟨hd, rfl⟩ := hd
  subst hy
  subst hls
  refine x_goL (fun _ _ _ _ _ _ _ _ _ _ _ _ hx h w => ?_) kk
  have hm : (i, vi x) ∈ lpairs ls := lpairs_mem.mpr hl
  obtain ⟨j', hj⟩ := List.getElem?_of_mem hm
  refine lv_iinc hx.1 hx.2.1 hd h.has (k := j') hj rfl (Nat.blt_eq.mp hi) rfl (fun lsB hB => w lsB (h.set rfl ?_))
  rw [vi, Int32.ofInt_add]
  exact hB
theorem x_iadd {x y z : Int} (hd : Dc μ.2.1 pc (.iadd) 1 pc') (hz : x + y = z) (kk : EC κ μ R q0 pc' ls (vi z :: st) L k n Lo) : EC κ μ R q0 pc ls (vi y :: vi x :: st) L k n Lo := by
  obtain ⟨hd, rfl⟩ := hd
  subst hz
  exact x_go (fun _ _ _ _ _ _ _ _ _ _ _ _ hx _ w => lv_iadd hx.1 hx.2.1 hd (by rw [vi, Int32.ofInt_add] at w; exact w)) kk
theorem x_goto {off : Int} {tgt : Nat} (hd : Db μ.2.1 pc (.goto off) 3 pc' off tgt) (kk : EC κ μ R q0 tgt ls st L k n Lo) : EC κ μ R q0 pc ls st L k n Lo := by
  obtain ⟨hd, rfl, ht⟩ := hd
  exact x_go (fun _ _ _ _ _ _ _ _ _ _ _ _ hx _ w => lv_goto hx.1 hx.2.1 hd ht w) kk
theorem x_geN {x y off : Int} {tgt : Nat} (hd : Db μ.2.1 pc (.if_icmp .ge off) 3 pc' off tgt) (hx : inrB x = true) (hy : inrB y = true) (h : decide (y ≤ x) = false) (kk : EC κ μ R q0 pc' ls st L k n Lo) : EC κ μ R q0 pc ls (vi y :: vi x :: st) L k n Lo := by
  obtain ⟨hd, rfl, ht⟩ := hd
  have h := fun q => of_decide_eq_false h ((i32_le (inr_d hy) (inr_d hx)).mp q)
  exact x_go (fun _ _ _ _ _ _ _ _ _ _ _ _ hx _ w => lv_icmp_ge hx.1 hx.2.1 hd ht (fun q => absurd q h) (fun _ => w)) kk
theorem x_geY {x y off : Int} {tgt : Nat} (hd : Db μ.2.1 pc (.if_icmp .ge off) 3 pc' off tgt) (hx : inrB x = true) (hy : inrB y = true) (h : decide (y ≤ x) = true) (kk : EC κ μ R q0 tgt ls st L k n Lo) : EC κ μ R q0 pc ls (vi y :: vi x :: st) L k n Lo := by
  obtain ⟨hd, rfl, ht⟩ := hd
  have h := (i32_le (inr_d hy) (inr_d hx)).mpr (of_decide_eq_true h)
  exact x_go (fun _ _ _ _ _ _ _ _ _ _ _ _ hx _ w => lv_icmp_ge hx.1 hx.2.1 hd ht (fun _ => w) (fun q => absurd h q)) kk
theorem x_gtN {x y off : Int} {tgt : Nat} (hd : Db μ.2.1 pc (.if_icmp .gt off) 3 pc' off tgt) (hx : inrB x = true) (hy : inrB y = true) (h : decide (y < x) = false) (kk : EC κ μ R q0 pc' ls st L k n Lo) : EC κ μ R q0 pc ls (vi y :: vi x :: st) L k n Lo := by
  obtain ⟨hd, rfl, ht⟩ := hd
  have h := fun q => of_decide_eq_false h ((i32_lt (inr_d hy) (inr_d hx)).mp q)
  exact x_go (fun _ _ _ _ _ _ _ _ _ _ _ _ hx _ w => lv_icmp_gt hx.1 hx.2.1 hd ht (fun q => absurd q h) (fun _ => w)) kk
theorem x_gtY {x y off : Int} {tgt : Nat} (hd : Db μ.2.1 pc (.if_icmp .gt off) 3 pc' off tgt) (hx : inrB x = true) (hy : inrB y = true) (h : decide (y < x) = true) (kk : EC κ μ R q0 tgt ls st L k n Lo) : EC κ μ R q0 pc ls (vi y :: vi x :: st) L k n Lo := by
  obtain ⟨hd, rfl, ht⟩ := hd
  have h := (i32_lt (inr_d hy) (inr_d hx)).mpr (of_decide_eq_true h)
  exact x_go (fun _ _ _ _ _ _ _ _ _ _ _ _ hx _ w => lv_icmp_gt hx.1 hx.2.1 hd ht (fun _ => w) (fun q => absurd h q)) kk
theorem x_dup {v : Value} (hd : Dc μ.2.1 pc (.dup) 1 pc') (hv : v.category = 1) (kk : EC κ μ R q0 pc' ls (v :: v :: st) L k n Lo) : EC κ μ R q0 pc ls (v :: st) L k n Lo := by
  obtain ⟨hd, rfl⟩ := hd
  exact x_go (fun _ _ _ _ _ _ _ _ _ _ _ _ hx _ w => lv_dup hx.1 hx.2.1 hd hv w) kk
theorem x_obj {idx q : Nat} (hd : Dc μ.2.1 pc (.invokespecial idx) 3 pc') (hl : Cond.methodLink μ.1.cls idx Lib.objectInit ∈ GT) (hw : Cond.instanceMethod Lib.objectInit ∈ GT ∧ Cond.code Lib.objectInit ⟨#[0xb1]⟩ 1 none ∈ GT) (hR : 1 ≤ R.frames ∧ (st.map fun v => v.category).sum + 12 ≤ R.locals) (kk : EC κ μ R q0 pc' ls st L k n Lo) : EC κ μ R q0 pc ls (.ref q :: st) L k n Lo := by
  obtain ⟨hd, rfl⟩ := hd
  exact x_go (fun p e s m args below meth c H locs lsA Q hx h w => W.objInit hx.1 hx.2.1 hx.2.2.2.1 (hx.2.2.2.2.1 _ hl) (hx.2.2.2.2.1 _ hw.1) (hx.2.2.2.2.1 _ hw.2) rfl (by rw [hx.2.2.1]; exact h.1) rfl hd hR.1 (by show 2 * 0 + _ + 12 ≤ _; omega) w) kk
theorem x_get {idx c j i : Nat} {fs : List Value} {v : Value} (hd : Dc μ.2.1 pc (.getfield idx) 3 pc') (hf : FI μ.1.cls idx c j) (hi : L[i]? = some (.inr (c, fs))) (hv : fs[j]? = some v) (kk : EC κ μ R q0 pc' ls (v :: st) L k n Lo) : EC κ μ R q0 pc ls (.ref (q0 + i) :: st) L k n Lo := by
  obtain ⟨hd, rfl⟩ := hd
  obtain ⟨C, T, N, h1, h2, h3, h4, h5⟩ := hf
  intro p e s m args below meth c' H locs lsA hx hP hsz hS h0 hl
  exact va_get (C := C) (T := T) (N := N) (v := v) hx.1 hx.2.1 hx.2.2.2.2.1 h4 hx.2.2.2.1 hx.2.2.2.2.2.1.1 hP i (wz_at hi) h1 j h2 (hx.2.2.2.2.1 _ h5) (fun _ q => q) hv hd (kk p e s m args below meth c' H locs lsA hx hP hsz hS h0 hl)
/-- a row that changes the cells -/
theorem x_goM {pc2 : Nat} {st' : List Value} {L' : List va_E} (hlen : L'.length = L.length) (h : ∀ (p : Program) (e : Env) (s : State) (m : MethodId) (args : Array Value) (below : List Frame) (meth : Method) (c : Code) (H : Heap) (locs : List Loc) (lsA : Array Slot) (Q : State → Prop), Cc κ μ p s m args meth c → va_P κ.2.1 vwCl (wz q0 L) H → va_S (fun x : Nat => q0 ≤ x) s.heap H locs →
    (∀ (H1 : Heap) (locs1 : List Loc), va_P κ.2.1 vwCl (wz q0 L') H1 → H1.size = H.size → va_S (fun x : Nat => q0 ≤ x) s.heap H1 locs1 → W p κ.1 e R s m args below meth c H1 locs1 k n Q (F0 m pc2 lsA st')) → W p κ.1 e R s m args below meth c H locs k n Q (F0 m pc lsA st)) (kk : EC κ μ R q0 pc2 ls st' L' k n Lo) : EC κ μ R q0 pc ls st L k n Lo :=
  fun p e s m args below meth c H locs lsA hx hP hsz hS h0 hl => h p e s m args below meth c H locs lsA _ hx hP hS (fun H1 locs1 hP1 hz hS1 => kk p e s m args below meth c H1 locs1 lsA hx hP1 (by rw [hz, hsz, hlen]) hS1 h0 hl)
def FF (own : String) (idx c k : Nat) (ty : FieldType) : Prop := ∃ (C : String) (T : u_T) (N : Nat) (ty0 : Nat → FieldType), vwCl[c]? = some (C, T, N) ∧ k < N ∧ (∀ w ∈ u_ws C T N, w ∈ GT) ∧ Cond.fieldLink own idx (T k).1 (T k).2.1 (T k).2.2.1 ∈ GT ∧ (T k).2.2.2 = true ∧ (T k).1 = own ∧ ty0 k = ty ∧
  (∀ k, k < N → parseFieldDescriptor (T k).2.2.1 = some (ty0 k)) ∧ (∀ a, a < N → ∀ b, b < N → a ≠ b → (T a).2.1 ≠ (T b).2.1)
theorem x_putF {idx c j i : Nat} {fs : List Value} {v : Value} {ty : FieldType} (hd : Dc μ.2.1 pc (.putfield idx) 3 pc') (hf : FF μ.1.cls idx c j ty) (hi : L[i]? = some (.inr (c, fs))) (hn : narrow ty v = v) (hft : fits ty v = true) (hj : j < fs.length) {L' : List va_E} (hL : L.set i (.inr (c, fs.set j v)) = L') (kk : EC κ μ R q0 pc' ls st L' k n Lo) : EC κ μ R q0 pc ls (v :: .ref (q0 + i) :: st) L k n Lo := by
  obtain ⟨hd, rfl⟩ := hd
  subst hL
  obtain ⟨C, T, N, ty0, h1, h2, h4, h5, h6, h6b, h7, h8, h9⟩ := hf
  refine x_goM (by simp) (fun p e s m args below meth c' H locs lsA Q hx hP hS kk => ?_) kk
  have hts := hx.2.2.2.2.1
  have hK := hx.2.2.2.2.2.1.1
  have hap := va_apart (own := μ.1.cls) hts h4 ty0 h8 h9 hK h1
  obtain ⟨r, g1, cell, q1, q2, q3, q4⟩ := hP i _ (wz_at hi)
  have hr : r = (C, T, N) := Option.some.inj (g1.symm.trans h1)
  subst hr
  obtain ⟨hS', hfc, kC, hkC, hkind⟩ := hK.1 c _ h1
  obtain ⟨cf, kf, fi, f, hi', hsl⟩ := hS' j h2
  have hlay := hts _ (h4 _ (u_in_lay h2))
  unfold u_lay at hlay
  rw [if_pos h6] at hlay
  have hst := (u_facts hfc hkC (u_lays hts h4 h2) hi').1
  have hcf : m.cls = cf := by
    obtain ⟨_, _, c2, _, _, _, -, -, hf', -, -, -, hown2, -⟩ := Cond.laysFinal_spec hlay
    have e1 : c2 = cf := by have := hi'.symm.trans hf'; simp at this; exact this.1.symm
    rw [h6b] at hown2
    rw [← e1]; exact Option.some.inj (hx.2.2.2.1.symm.trans hown2)
  have h6' := u_fits (ty := ty) hfc hkC hkind (Or.inr hlay) hi' (by rw [h8 j h2, h7]) hn hft
  refine W.putFinK hx.1 hx.2.1 hx.2.2.2.1 (hts _ h5) hi' hst hcf hx.2.2.2.2.2.2.2.2 (by rw [q2]; exact h6') q1 q3 (by rw [hsl]; exact k2_hasslot (q4 j h2)) rfl rfl hd fun H' e1 e2 e3 => ?_
  rw [hsl] at e1 ⊢
  refine kk H' _ ?_ e2 (hS.put e2 e3 (Nat.le_add_right _ _))
  rw [← wz_set]
  exact hP.set (wz_D q0 L) (wz_at hi) ⟨_, h1, t_OB.to (V := updV (vp_V fs) j v) ⟨_, e1, q2, q3, t_set q4 hap h2 v⟩ (fun j' _ => vp_updV_set hj v j')⟩ e3
theorem x_put {idx c j i : Nat} {fs : List Value} {v : Value} {ty : FieldType} (hd : Dc μ.2.1 pc (.putfield idx) 3 pc') (hf : FP μ.1.cls idx c j ty) (hi : L[i]? = some (.inr (c, fs))) (hn : narrow ty v = v) (hft : fits ty v = true) (hj : j < fs.length) {L' : List va_E} (hL : L.set i (.inr (c, fs.set j v)) = L') (kk : EC κ μ R q0 pc' ls st L' k n Lo) : EC κ μ R q0 pc ls (v :: .ref (q0 + i) :: st) L k n Lo := by
  obtain ⟨hd, rfl⟩ := hd
  subst hL
  obtain ⟨C, T, N, ty0, h1, h2, h3, h4, h5, h6, h7, h8, h9⟩ := hf
  refine x_goM (by simp) (fun p e s m args below meth c' H locs lsA Q hx hP hS kk => ?_) kk
  have hts := hx.2.2.2.2.1
  have hK := hx.2.2.2.2.2.1.1
  have hap := va_apart (own := μ.1.cls) hts h4 ty0 h8 h9 hK h1
  obtain ⟨r, g1, cell, q1, q2, q3, q4⟩ := hP i _ (wz_at hi)
  have hr : r = (C, T, N) := Option.some.inj (g1.symm.trans h1)
  subst hr
  obtain ⟨hS', hfc, kC, hkC, hkind⟩ := hK.1 c _ h1
  obtain ⟨cf, kf, fi, f, hi', hsl⟩ := hS' j h2
  have hlay := hts _ (h4 _ (u_in_lay h2))
  unfold u_lay at hlay
  rw [if_neg (by rw [h6]; decide)] at hlay
  have hst := (u_facts hfc hkC (u_lays hts h4 h2) hi').1
  have h6' := u_store hfc hkC hkind hlay hi' (by rw [h8 j h2, h7] : parseFieldDescriptor (T j).2.2.1 = some ty) hn hft
  refine W.putK hx.1 hx.2.1 (f := f) ⟨hx.2.2.2.1, hts _ h5, ⟨_, _, _, hi'⟩, hst⟩ (by rw [q2]; exact h6') q1 q3 (by rw [hsl]; exact k2_hasslot (q4 j h2)) rfl rfl hd fun H' e1 e2 e3 => ?_
  rw [hsl] at e1 ⊢
  refine kk H' _ ?_ e2 (hS.put e2 e3 (Nat.le_add_right _ _))
  rw [← wz_set]
  exact hP.set (wz_D q0 L) (wz_at hi) ⟨_, h1, t_OB.to (V := updV (vp_V fs) j v) ⟨_, e1, q2, q3, t_set q4 hap h2 v⟩ (fun j' _ => vp_updV_set hj v j')⟩ e3
theorem x_iast {i N : Nat} {x j : Int} {f : Nat → Int32} (hd : Dc μ.2.1 pc (.iastore) 1 pc') (hi : L[i]? = some (.inl (κ.2.2.1.1, N, .inl f))) (hj : 0 ≤ j ∧ j < (N : Int)) (hN : N ≤ 100000) {L' : List va_E} (hL : L.set i (.inl (κ.2.2.1.1, N, .inl (upd f j.toNat (Int32.ofInt x)))) = L') (kk : EC κ μ R q0 pc' ls st L' k n Lo) : EC κ μ R q0 pc ls (vi x :: vi j :: .ref (q0 + i) :: st) L k n Lo := by
  obtain ⟨hd, rfl⟩ := hd
  subst hL
  obtain ⟨-, hin, hcl⟩ := i32_inb hj hN
  refine x_goM (by simp) (fun p e s m args below meth c' H locs lsA Q hx hP hS kk => ?_) kk
  refine W.iast hx.1 hx.2.1 (hP i _ (wz_at hi)) ((hx.2.2.2.2.2.1.1.2 0 _ rfl).1 N (fun j => .int (f j))) (fun q => by cases q) (by show ¬ (Int32.ofInt j < 0 ∨ (arrV _ _ _).slots.size ≤ _); rw [arrV_size]; exact hin) rfl rfl hd fun H1 e z oq => ?_
  refine kk H1 _ ?_ z (hS.put z oq (Nat.le_add_right _ _))
  rw [← wz_set]
  refine hP.set (wz_D q0 L) (wz_at hi) ?_ oq
  show H1[q0 + i]? = some (vp_cell _ _)
  rw [e, vp_cell_i, vp_cell_i, arrV_store]
  congr 2
  funext q
  rw [hcl]
  by_cases hq : q = j.toNat
  · subst hq
    simp [updV, upd]
  · simp [updV, upd, hq]
theorem x_aast {i N ci iv : Nat} {x : Int} {vs : List Value} {f : Nat → Option Nat} (hd : Dc μ.2.1 pc (.aastore) 1 pc') (hi : L[i]? = some (.inl (κ.2.2.1.2.1, N, .inr (.inr (.inr (.inr f)))))) (hv : L[iv]? = some (.inr (4, vs))) (hj : 0 ≤ x ∧ x < (N : Int)) (hN : N ≤ 100000) {L' : List va_E} (hL : L.set i (.inl (κ.2.2.1.2.1, N, .inr (.inr (.inr (.inr (va_up f x.toNat (some (q0 + iv)))))))) = L') (kk : EC κ μ R q0 pc' ls st L' k n Lo) : EC κ μ R q0 pc ls (.ref (q0 + iv) :: vi x :: .ref (q0 + i) :: st) L k n Lo := by
  obtain ⟨hd, rfl⟩ := hd
  subst hL
  obtain ⟨-, hin, hcl⟩ := i32_inb hj hN
  refine x_goM (by simp) (fun p e s m args below meth c' H locs lsA Q hx hP hS kk => ?_) kk
  have hK := hx.2.2.2.2.2.1.1
  have hlt : (Int32.ofInt x).toNatClampNeg < N := Nat.not_le.mp fun q => hin (Or.inr q)
  have h0 : ¬ Int32.ofInt x < 0 := fun q => hin (Or.inl q)
  obtain ⟨r', hr', cellV, g1, g2, g3, -⟩ := hP iv _ (wz_at hv)
  have hcls := (hK.1 4 (RX4, TX4, 17) rfl).2
  obtain ⟨kA, comp, k1, k2, k3, -⟩ := (hK.2 1 _ rfl).2
  have hcomp : comp = κ.2.1.1 4 := Option.some.inj (k3.symm.trans hcls.1)
  subst hcomp
  obtain ⟨kC, hkC, -⟩ := hcls.2
  refine W.aast hx.1 hx.2.1 (hP i _ (wz_at hi)) (fun q h => by cases h) (fun h => by cases h) k1 k2 rfl hkC ⟨h0, by show _ < (arrV _ _ _).slots.size; rw [arrV_size]; exact hlt⟩ g1 (fun q h => by rw [g3] at h; cases h) (by rw [g2]; exact hkC) (by rw [g2]; exact va_assign hcls) rfl rfl hd fun H1 e z oq => ?_
  refine kk H1 _ ?_ z (hS.put z oq (Nat.le_add_right _ _))
  rw [← wz_set]
  refine hP.set (wz_D q0 L) (wz_at hi) ?_ oq
  show H1[q0 + i]? = some (vp_cell _ _)
  rw [e, vp_cell_q, vp_cell_q, arrV_store]
  congr 2
  funext q
  rw [hcl]
  by_cases hq : q = x.toNat
  · subst hq
    simp [updV, va_up, va_rf]
  · simp [updV, va_up, hq]
/-- a new cell -/
theorem x_alloc {pc2 : Nat} {st' : List Value} {e0 : va_E} {dn : Nat} (h : ∀ (p : Program) (e : Env) (s : State) (m : MethodId) (args : Array Value) (below : List Frame) (meth : Method) (c : Code) (H : Heap) (locs : List Loc) (lsA : Array Slot) (Q : State → Prop), Cc κ μ p s m args meth c → H.size = q0 + L.length →
    (∀ (H1 : Heap), va_at κ.2.1 vwCl (q0 + L.length, e0) H1 → H1.size = q0 + L.length + 1 → (∀ x, x < q0 + L.length → H1[x]? = H[x]?) → W p κ.1 e R s m args below meth c H1 locs (k + 1) (n + dn) Q (F0 m pc2 lsA st')) → W p κ.1 e R s m args below meth c H locs k n Q (F0 m pc lsA st)) (kk : EC κ μ R q0 pc2 ls st' (L ++ [e0]) (k + 1) (n + dn) Lo) : EC κ μ R q0 pc ls st L k n Lo := by
  intro p e s m args below meth c H locs lsA hx hP hsz hS h0 hl
  refine h p e s m args below meth c H locs lsA _ hx hsz (fun H1 hat hz ho => kk p e s m args below meth c H1 locs lsA hx ?_ (by rw [hz, List.length_append]; rfl) ⟨Nat.le_trans hS.1 (by omega), fun x h1 h2 => (ho x (by have := hS.1; omega)).trans (hS.2.1 x h1 h2), hS.2.2⟩ h0 hl)
  rw [wz_app]
  refine (hP.kept (fun j x hj => ho x.1 ?_)).app (fun j x hj => ?_)
  · have h1 := wz_mem hj
    have h2 := (List.getElem?_eq_some_iff.mp h1.2).1
    omega
  · have hz1 : j < 1 := (List.getElem?_eq_some_iff.mp hj).1
    rw [show j = 0 by omega] at hj
    cases hj
    exact hat
theorem x_new {idx ci dn i : Nat} {C : String} {fs : List Value} (hd : Dc μ.2.1 pc (.new idx) 3 pc') (hcl : Cond.classLink μ.1.cls idx C ∈ GT) (hw : Cond.instantiable C dn ∈ GT ∧ Cond.initialized C ∈ GT) (hq : ∃ (T : u_T) (ty : Nat → FieldType), vwCl[ci]? = some (C, T, dn) ∧ (∀ w ∈ u_ws C T dn, w ∈ GT) ∧ (∀ k, k < dn → parseFieldDescriptor (T k).2.2.1 = some (ty k)) ∧ ∀ j, j < dn → defaultValue (ty j) = vp_V fs j) (hk : Nat.ble (k + 1) R.cells = true) (hn : Nat.ble (n + dn) R.slots = true) (hlen : L.length = i) (kk : EC κ μ R q0 pc' ls (.ref (q0 + i) :: st) (L ++ [.inr (ci, fs)]) (k + 1) (n + dn) Lo) : EC κ μ R q0 pc ls st L k n Lo := by
  obtain ⟨hd, rfl⟩ := hd
  subst hlen
  obtain ⟨T, ty, t1, t2, t3, t4⟩ := hq
  refine x_alloc (fun p e s m args below meth c' H locs lsA Q hx hsz kk => ?_) kk
  have hts := hx.2.2.2.2.1
  have hKn := hx.2.2.2.2.2.1.1.1 ci _ t1
  refine W.newcK hx.1 hx.2.1 hx.2.2.2.1 (hts _ hcl) (hts _ hw.1) (hts _ hw.2) rfl hd (Nat.le_of_ble_eq_true hk) (Nat.le_of_ble_eq_true hn) hKn.2.1 hsz fun H1 kC hkC e1 z1 o1 => ?_
  exact kk H1 ⟨_, t1, (u_born ty hts t2 hKn hkC e1 t3).to t4⟩ z1 o1
theorem x_newa {N i : Nat} {x : Int} (hd : Dc μ.2.1 pc (.newarray .int) 2 pc') (hw : Cond.arrayClass .int ∈ GT) (hx0 : x = (N : Int)) (hN : Nat.ble N 100000 = true) (hk : Nat.ble (k + 1) R.cells = true) (hn : Nat.ble (n + N) R.slots = true) (hlen : L.length = i) {L' : List va_E} (hL' : L ++ [.inl (κ.2.2.1.1, N, .inl (fun _ => 0))] = L') (kk : EC κ μ R q0 pc' ls (.ref (q0 + i) :: st) L' (k + 1) (n + N) Lo) : EC κ μ R q0 pc ls (vi x :: st) L k n Lo := by
  obtain ⟨hd, rfl⟩ := hd
  subst hlen
  subst hL'
  subst hx0
  have hN' := Nat.le_of_ble_eq_true hN
  have hin : InR (N : Int) := inr_n hN'
  refine x_alloc (fun p e s m args below meth c' H locs lsA Q hx hsz kk => ?_) kk
  have hts := hx.2.2.2.2.1
  refine va_newaK (atype := .int) (N := N) hx.1 hx.2.1 (hts (Cond.arrayClass .int) hw) rfl hd rfl (fun q => by rw [i32_lt0 hin] at q; omega) (by show (Int32.ofInt N).toInt.toNat = N; rw [i32_toInt hin]; rfl) (by show N * 4 ≤ _; omega) (Nat.le_of_ble_eq_true hk) (Nat.le_of_ble_eq_true hn) hsz fun H1 cA e1 z1 o1 hAr hNm => ?_
  have hcA : cA = κ.2.2.1.1 := Option.some.inj (hNm.symm.trans (hx.2.2.2.2.2.1.1.2 0 _ rfl).2)
  subst hcA
  exact kk H1 e1 z1 o1
theorem x_anew {idx N i : Nat} {x : Int} (hd : Dc μ.2.1 pc (.anewarray idx) 3 pc') (hcl : Cond.classLink μ.1.cls idx "FogArrows$Night" ∈ GT) (hx0 : x = (N : Int)) (hN : Nat.ble N 100000 = true) (hk : Nat.ble (k + 1) R.cells = true) (hn : Nat.ble (n + N) R.slots = true) (hlen : L.length = i) {L' : List va_E} (hL' : L ++ [.inl (κ.2.2.1.2.1, N, .inr (.inr (.inr (.inr (fun _ => none)))))] = L') (kk : EC κ μ R q0 pc' ls (.ref (q0 + i) :: st) L' (k + 1) (n + N) Lo) : EC κ μ R q0 pc ls (vi x :: st) L k n Lo := by
  obtain ⟨hd, rfl⟩ := hd
  subst hlen
  subst hL'
  subst hx0
  have hN' := Nat.le_of_ble_eq_true hN
  have hin : InR (N : Int) := inr_n hN'
  have hNc : (Int32.ofInt (N : Int)).toNatClampNeg = N := by show (Int32.ofInt N).toInt.toNat = N; rw [i32_toInt hin]; rfl
  refine x_alloc (fun p e s m args below meth c' H locs lsA Q hx hsz kk => ?_) kk
  have hts := hx.2.2.2.2.1
  refine W.anew hx.1 hx.2.1 hx.2.2.2.1 (hts _ hcl) (va_AO.use hx.2.2.2.2.2.1.2.2) rfl hd rfl (fun q => by rw [i32_lt0 hin] at q; omega) (by rw [hNc]; omega) (Nat.le_of_ble_eq_true hk) (by rw [hNc]; exact Nat.le_of_ble_eq_true hn) fun cA kA comp f1 f2 f3 f4 => ?_
  have hcA : cA = κ.2.2.1.2.1 := by
    obtain ⟨_, _, _, _, _, h4⟩ := (hx.2.2.2.2.2.1.1.2 1 _ rfl).2
    exact Option.some.inj (f1.symm.trans h4)
  subst hcA
  rw [hNc, hsz]
  generalize hH1 : H.push ({ cls := κ.2.2.1.2.1, slots := Array.replicate N .null, vm := .none } : Cell) = H1
  refine kk H1 ?_ (by rw [← hH1, Array.size_push, hsz]) (fun y hy => by rw [← hH1, Array.getElem?_push, if_neg (by omega)])
  show H1[q0 + L.length]? = some (vp_cell _ _)
  rw [← hH1, ← hsz, Array.getElem?_push_size, vp_cell_q]
  exact congrArg some (arrV_new _ _ _)
theorem x_ret (hd : Dc μ.2.1 pc (.return_) 1 pc') (hr : μ.2.2.2 = none) (hk : Nat.ble k R.cells = true) (hn : Nat.ble n R.slots = true) (hL : L = Lo) : EC κ μ R q0 pc ls [] L k n Lo := by
  subst hL
  intro p e s m args below meth c H locs lsA hx hP hsz hS h0 hl
  refine W.widen (Nat.le_of_ble_eq_true hk) (Nat.le_of_ble_eq_true hn) ?_
  exact W.vret hx.1 hx.2.1 hx.2.2.2.2.2.2.1 (fun t ht hW => ⟨⟨rfl, by rw [ht]; exact hP, by rw [ht]; exact hsz⟩, hS.F ht⟩) hS.2.2 hd.1 hx.2.2.2.2.2.2.2.1
theorem CtC.of {e0 : va_E} (hy : plainName μ.1.cls = true) (hr : μ.2.2.2 = none) (hi : μ.1.name = "<init>") (hn : 1 ≤ μ.2.2.1) (h : EC κ μ R q0 0 [some (.ref q0)] [] [e0] 0 0 Lo) : CtC κ μ R q0 e0 Lo := by
  refine Met.ofW (cc := μ.2.1) (maxL := μ.2.2.1) (ret := μ.2.2.2) (ws' := GT) hy rfl ?_
  intro p e s m args below meth c s₁ B hml hv
  obtain ⟨rfl, hsz, hP, hK⟩ := hv
  have hts := atoms_spec (ws := .code μ.1 μ.2.1 μ.2.2.1 μ.2.2.2 :: GT) B.pre
  have hx : Cc κ μ p s m #[.ref q0] meth c := ⟨B.exec, B.bytes, hml, findClass_of_methodNamed B.named, fun w hw => hts w (List.mem_cons_of_mem _ hw), hK, B.returns.trans hr, B.notSynchronized, (name_of_methodNamed B.named B.method).1.trans hi⟩
  rw [lg_entry_eq]
  exact h p e s m #[.ref q0] below meth c s.heap [] _ hx hP hsz va_S.rf hsz (LH.entry [.ref q0] hn (fun v hv => by rw [List.mem_singleton.mp hv]; rfl))
/-- a constructor called on the newest cell -/
theorem x_callW {P : List va_E} {e0 : va_E} {Lc : List va_E} {i : Nat} (hrun : ∀ (p : Program) (e : Env) (s : State) (m : MethodId) (args : Array Value) (below : List Frame) (meth : Method) (c : Code) (H : Heap) (locs : List Loc) (lsA : Array Slot), Cc κ μ p s m args meth c → va_P κ.2.1 vwCl (wz q0 (P ++ [e0])) H → H.size = q0 + (P ++ [e0]).length → lsA.size = μ.2.2.1 →
    va_Run p κ.1 e R s m args below meth c H locs k n R'.cells R'.slots (F0 m pc lsA (.ref (q0 + i) :: st)) st (QC κ (q0 + i) Lc #[.ref (q0 + i)]) (fun x : Nat => q0 + i ≤ x)) (hp : pc' = pc + 3) (hlen : P.length = i) (kk : EC κ μ R q0 pc' ls st (P ++ Lc) (k + R'.cells) (n + R'.slots) Lo) : EC κ μ R q0 pc ls (.ref (q0 + i) :: st) (P ++ [e0]) k n Lo := by
  subst hp
  subst hlen
  intro p e s m args below meth c H locs lsA hx hP hsz hS h0 hl T hT X
  obtain ⟨v, st₀, t, T', L', g0, X', hL, e1, e2, ⟨⟨hv, hP1, hz1⟩, hz, hk⟩, stp⟩ := hrun p e s m args below meth c H locs lsA hx hP hsz hl.1 T hT X
  cases hv
  rw [g0] at hz hk
  have hS1 : va_S (fun x : Nat => q0 ≤ x) s.heap T'.heap (locs ++ L') := by
    refine ⟨Nat.le_trans hS.1 (by rw [e1]; exact hz), fun q h1 h2 => ?_, fun q hq => ?_⟩
    · rw [e1, hk q (Nat.lt_of_lt_of_le h1 hS.1) (fun z => h2 (by show q0 ≤ q; have : q0 + P.length ≤ q := z; omega))]
      exact hS.2.1 q h1 h2
    · rcases List.mem_append.mp hq with h | h
      · exact hS.2.2 q h
      · have : q0 + P.length ≤ q.base := hL q h
        show q0 ≤ q.base
        omega
  have hPn : va_P κ.2.1 vwCl (wz q0 (P ++ Lc)) T'.heap := by
    rw [wz_app]
    refine va_P.app (fun j x hj => ?_) (by rw [e1]; exact hP1)
    have h1 := wz_mem hj
    have h2 := (List.getElem?_eq_some_iff.mp h1.2).1
    have h3 : (wz q0 (P ++ [e0]))[j]? = some x := by
      rw [wz_app, List.getElem?_append_left (by
        have := (List.getElem?_eq_some_iff.mp hj).1
        exact this)]
      exact hj
    refine (hP j x h3).kept ?_
    rw [e1]
    refine hk x.1 (by rw [hsz, List.length_append]; omega) (fun z => ?_)
    have : q0 + P.length ≤ x.1 := z
    omega
  obtain ⟨t2, a1, b1⟩ := kk p e s m args below meth c T'.heap (locs ++ L') lsA hx hPn (by rw [e1, hz1, List.length_append]; omega) hS1 h0 hl T' rfl X'
  exact ⟨t2, stp t2 a1, b1⟩
theorem World_blindC {q : Nat} {e0 : va_E} : FrameBlind (va_Pc [.ref q] (fun U => U.heap.size = q + 1 ∧ va_P κ.2.1 vwCl (wz q [e0]) U.heap ∧ KC κ U)) := by
  intro a U g mk h
  obtain ⟨h1, h2, h3, h4, h5, h6⟩ := h
  exact ⟨h1, h2, h3, va_K.moved (u := U) (U := U.calling g mk a) (Vm.Alike.refl U.vm) h4, Tabs.same (s := U) (U := U.calling g mk a) (rfl : U.vm = U.vm) h5, va_AO.moved (u := U) (U := U.calling g mk a) (Vm.Alike.refl U.vm) h6⟩
theorem preC {p : Program} {s U : State} {m : MethodId} {args : Array Value} {meth : Method} {c : Code} {H : Heap} {P : List va_E} {e0 : va_E} (hx : Cc κ μ p s m args meth c) (hP : va_P κ.2.1 vwCl (wz q0 (P ++ [e0])) H) (hsz : H.size = q0 + (P ++ [e0]).length) (hU : U.heap = H) (hW : s.WarmedH U.vm) : U.heap.size = q0 + P.length + 1 ∧ va_P κ.2.1 vwCl (wz (q0 + P.length) [e0]) U.heap ∧ KC κ U := by
  refine ⟨by rw [hU, hsz, List.length_append]; rfl, ?_, hx.2.2.2.2.2.1.warm hW⟩
  rw [hU]
  rw [wz_app] at hP
  intro j x hj
  refine hP ((wz q0 P).length + j) x ?_
  rw [List.getElem?_append_right (Nat.le_add_right _ _), Nat.add_sub_cancel_left]
  exact hj
theorem x_call {idx i : Nat} {P : List va_E} {e0 : va_E} {Lc : List va_E} (hd : Dc μ.2.1 pc (.invokespecial idx) 3 pc') (hc : CallWd μ' 0) (hm : Cond.methodLink μ.1.cls idx μ'.1 ∈ GT) (him : Cond.instanceMethod μ'.1 ∈ GT) (hi : μ'.1.name = "<init>") (hr : μ'.2.2.2 = none) (hM : CtC κ μ' R' (q0 + i) e0 Lc) (hR : Nat.ble (R'.frames + 1) R.frames = true ∧ Nat.ble (8 + (μ'.2.2.1 + 11) + R'.locals) R.locals = true) (hs : (st.map fun v => v.category).sum ≤ 8) (hk : Nat.ble (k + R'.cells) R.cells = true ∧ Nat.ble (n + R'.slots) R.slots = true) (hlen : P.length = i) (kk : EC κ μ R q0 pc' ls st (P ++ Lc) (k + R'.cells) (n + R'.slots) Lo) : EC κ μ R q0 pc ls (.ref (q0 + i) :: st) (P ++ [e0]) k n Lo := by
  obtain ⟨hd, hp⟩ := hd
  obtain ⟨c1, c2, c3, c4, c5⟩ := hc
  subst hlen
  refine x_callW (R' := R') (Lc := Lc) (fun p e s m args below meth c H locs lsA hx hP hsz hl => ?_) hp rfl kk
  have ht := hx.2.2.2.2.1
  rw [hr] at c2
  unfold CtC at hM
  rw [hr] at hM
  exact va_runI (As := []) (n := 0) (nL := μ.2.2.1) ⟨hx.1, hx.2.1, hx.2.2.1, hx.2.2.2.1, ht⟩ hM
    ⟨callB_of 0 ht (gt_in c2) rfl rfl rfl (ht _ c1) (ht _ hm) ⟨c3, c4, c5⟩ ⟨Nat.le_of_ble_eq_true hR.1, Nat.le_of_ble_eq_true hR.2⟩, hi, ht _ him⟩
    ⟨World_blindC, fun U hU hW => ⟨rfl, preC hx hP hsz hU hW⟩⟩ rfl rfl hl rfl (lv_room hs) hd ⟨Nat.le_of_ble_eq_true hk.1, Nat.le_of_ble_eq_true hk.2⟩
theorem x_callN {idx i : Nat} {P : List va_E} {e0 : va_E} {Lc : List va_E} {host : String} (hd : Dc μ.2.1 pc (.invokespecial idx) 3 pc') (hc : CallWd μ' 0) (hm : Cond.methodLinkNest μ.1.cls idx μ'.1 host ∈ NT) (him : Cond.instanceMethod μ'.1 ∈ GT) (hi : μ'.1.name = "<init>") (hr : μ'.2.2.2 = none) (hM : CtC κ μ' R' (q0 + i) e0 Lc) (hR : Nat.ble (R'.frames + 1) R.frames = true ∧ Nat.ble (8 + (μ'.2.2.1 + 11) + R'.locals) R.locals = true) (hs : (st.map fun v => v.category).sum ≤ 8) (hk : Nat.ble (k + R'.cells) R.cells = true ∧ Nat.ble (n + R'.slots) R.slots = true) (hlen : P.length = i) (kk : EC κ μ R q0 pc' ls st (P ++ Lc) (k + R'.cells) (n + R'.slots) Lo) : EC κ μ R q0 pc ls (.ref (q0 + i) :: st) (P ++ [e0]) k n Lo := by
  obtain ⟨hd, hp⟩ := hd
  obtain ⟨c1, c2, c3, c4, c5⟩ := hc
  subst hlen
  refine x_callW (R' := R') (Lc := Lc) (fun p e s m args below meth c H locs lsA hx hP hsz hl => ?_) hp rfl kk
  have ht := hx.2.2.2.2.1
  rw [hr] at c2
  unfold CtC at hM
  rw [hr] at hM
  exact va_runIN (As := []) (n := 0) (nL := μ.2.2.1) ⟨hx.1, hx.2.1, hx.2.2.1, hx.2.2.2.1, ht⟩ hM
    ⟨va_cnB 0 ht (gt_in c2) rfl rfl rfl (hx.2.2.2.2.2.1.2.1 _ hm) (ht _ c1) ⟨c3, c4, c5⟩ ⟨Nat.le_of_ble_eq_true hR.1, Nat.le_of_ble_eq_true hR.2⟩, hi, ht _ him⟩
    ⟨World_blindC, fun U hU hW => ⟨rfl, preC hx hP hsz hU hW⟩⟩ rfl rfl hl rfl (lv_room hs) hd ⟨Nat.le_of_ble_eq_true hk.1, Nat.le_of_ble_eq_true hk.2⟩
/-- an array's cells beyond its length are nobody's -/
theorem x_same {i N : Nat} {f g : Nat → Int32} (hi : L[i]? = some (.inl (κ.2.2.1.1, N, .inl f))) (hfg : ∀ j, j < N → f j = g j) {L' : List va_E} (hL : L.set i (.inl (κ.2.2.1.1, N, .inl g)) = L') (kk : EC κ μ R q0 pc ls st L' k n Lo) : EC κ μ R q0 pc ls st L k n Lo := by
  subst hL
  intro p e s m args below meth c H locs lsA hx hP hsz hS h0 hl
  refine kk p e s m args below meth c H locs lsA hx ?_ (by rw [hsz, List.length_set]) hS h0 hl
  have e1 : vp_cell κ.2.2.1.1 (N, .inl f) = vp_cell κ.2.2.1.1 (N, .inl g) := by
    have e2 : (fun j : Fin N => Value.int (f j.val)) = fun j : Fin N => Value.int (g j.val) := funext fun j => by rw [hfg j.val j.isLt]
    rw [vp_cell_i, vp_cell_i]
    unfold arrV
    exact congrArg (fun z => ({ cls := κ.2.2.1.1, slots := Array.ofFn z, vm := .none } : Cell)) e2
  rw [← wz_set]
  intro j x hj
  by_cases hji : j = i
  · subst hji
    have hlt : j < (wz q0 L).length := by
      have := (List.getElem?_eq_some_iff.mp (wz_at (q := q0) hi)).1
      exact this
    rw [List.getElem?_set_self hlt] at hj
    cases hj
    have h1 := hP j _ (wz_at hi)
    show H[q0 + j]? = some (vp_cell _ _)
    rw [← e1]
    exact h1
  · rw [List.getElem?_set_ne (Ne.symm hji)] at hj
    exact hP j x hj
theorem x_sameq {i N : Nat} {f g : Nat → Option Nat} (hi : L[i]? = some (.inl (κ.2.2.1.2.1, N, .inr (.inr (.inr (.inr f)))))) (hfg : ∀ j, j < N → f j = g j) {L' : List va_E} (hL : L.set i (.inl (κ.2.2.1.2.1, N, .inr (.inr (.inr (.inr g))))) = L') (kk : EC κ μ R q0 pc ls st L' k n Lo) : EC κ μ R q0 pc ls st L k n Lo := by
  subst hL
  intro p e s m args below meth c H locs lsA hx hP hsz hS h0 hl
  refine kk p e s m args below meth c H locs lsA hx ?_ (by rw [hsz, List.length_set]) hS h0 hl
  have e1 : vp_cell κ.2.2.1.2.1 (N, .inr (.inr (.inr (.inr f)))) = vp_cell κ.2.2.1.2.1 (N, .inr (.inr (.inr (.inr g)))) := by
    have e2 : (fun j : Fin N => va_rf (f j.val)) = fun j : Fin N => va_rf (g j.val) := funext fun j => by rw [hfg j.val j.isLt]
    rw [vp_cell_q, vp_cell_q]
    unfold arrV
    exact congrArg (fun z => ({ cls := κ.2.2.1.2.1, slots := Array.ofFn z, vm := .none } : Cell)) e2
  rw [← wz_set]
  intro j x hj
  by_cases hji : j = i
  · subst hji
    have hlt : j < (wz q0 L).length := by
      have := (List.getElem?_eq_some_iff.mp (wz_at (q := q0) hi)).1
      exact this
    rw [List.getElem?_set_self hlt] at hj
    cases hj
    have h1 := hP j _ (wz_at hi)
    show H[q0 + j]? = some (vp_cell _ _)
    rw [← e1]
    exact h1
  · rw [List.getElem?_set_ne (Ne.symm hji)] at hj
    exact hP j x hj
theorem x_ls {ls' : List (Option Value)} (h : sub ls' ls) (kk : EC κ μ R q0 pc ls' st L k n Lo) : EC κ μ R q0 pc ls st L k n Lo := fun p e s m args below meth c H locs lsA hx hP hsz hS h0 hl => kk p e s m args below meth c H locs lsA hx hP hsz hS h0 (hl.sub h)
end

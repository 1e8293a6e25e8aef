/-! ===== constructors: the cells of what is made stand one behind another from the object on ===== -/
def wz : Nat → List va_E → va_W
  | _, [] => []
  | q, e :: L => (q, e) :: wz (q + 1) L
theorem wz_get : ∀ (L : List va_E) (q i : Nat), (wz q L)[i]? = (L[i]?).map (fun e => (q + i, e))
  | [], q, i => by simp [wz]
  | e :: L, q, 0 => by simp [wz]
  | e :: L, q, i + 1 => by
    have h := wz_get L (q + 1) i
    simp only [wz, List.getElem?_cons_succ, h]
    congr 1
    funext x
    congr 1
    omega
theorem wz_set : ∀ (L : List va_E) (q i : Nat) (e : va_E), (wz q L).set i (q + i, e) = wz q (L.set i e)
  | [], q, i, e => by simp [wz]
  | x :: L, q, 0, e => by simp [wz]
  | x :: L, q, i + 1, e => by
    have h := wz_set L (q + 1) i e
    simp only [wz, List.set_cons_succ]
    rw [← h, show q + (i + 1) = q + 1 + i by omega]
theorem wz_app : ∀ (L M : List va_E) (q : Nat), wz q (L ++ M) = wz q L ++ wz (q + L.length) M
  | [], M, q => by simp [wz]
  | x :: L, M, q => by
    have h := wz_app L M (q + 1)
    simp only [wz, List.cons_append, h, List.length_cons]
    rw [show q + 1 + L.length = q + (L.length + 1) by omega]
theorem wz_at {L : List va_E} {q i : Nat} {e : va_E} (h : L[i]? = some e) : (wz q L)[i]? = some (q + i, e) := by rw [wz_get, h]; rfl
theorem wz_mem {L : List va_E} {q k : Nat} {x : Nat × va_E} (h : (wz q L)[k]? = some x) : x.1 = q + k ∧ L[k]? = some x.2 := by
  rw [wz_get] at h
  cases hk : L[k]? with
  | none => rw [hk] at h; cases h
  | some e => rw [hk] at h; cases h; exact ⟨rfl, rfl⟩
theorem wz_D (q : Nat) (L : List va_E) : va_D (fun x : Nat => q ≤ x) (wz q L) := by
  refine ⟨fun i j a b ha hb hab => ?_, fun k x hk => ?_⟩
  · have h1 := (wz_mem ha).1
    have h2 := (wz_mem hb).1
    omega
  · have h1 := (wz_mem hk).1
    show q ≤ x.1
    omega
def KC (κ : Kp) (U : State) : Prop := va_K κ.2.1 vwCl [(κ.2.2.1.1, .int), (κ.2.2.1.2.1, .object "FogArrows$Night")] U ∧ Tabs U
theorem KC.warm {κ : Kp} {s t : State} (hW : s.WarmedH t.vm) (h : KC κ s) : KC κ t := ⟨va_K.moved hW.alike h.1, h.2.warm hW⟩
def Cc (κ : Kp) (μ : Mth) (p : Program) (s : State) (m : MethodId) (args : Array Value) (meth : Method) (c : Code) : Prop :=
  p.tables.exec = Jvm.exec ∧ c.code = μ.2.1 ∧ c.maxLocals = μ.2.2.1 ∧ s.vm.findClass μ.1.cls = some m.cls ∧ (∀ w ∈ GT, w.before args s = true) ∧ KC κ s ∧ meth.sig.returnType = none ∧ meth.locks = false ∧ meth.name = "<init>"
def QC (κ : Kp) (q0 : Nat) (Lo : List va_E) : Array Value → State → Outcome → State → Prop := fun _ st oc t => (oc = .returned none ∧ va_P κ.2.1 vwCl (wz q0 Lo) t.heap ∧ t.heap.size = q0 + Lo.length) ∧ va_F (fun x : Nat => q0 ≤ x) st t
def EC (κ : Kp) (μ : Mth) (R : Room) (q0 pc : Nat) (ls : List (Option Value)) (st : List Value) (L : List va_E) (k n : Nat) (Lo : List va_E) : Prop :=
  ∀ (p : Program) (e : Env) (s : State) (m : MethodId) (args : Array Value) (below : List Frame) (meth : Method) (c : Code) (H : Heap) (locs : List Loc) (lsA : Array Slot), Cc κ μ p s m args meth c → va_P κ.2.1 vwCl (wz q0 L) H → H.size = q0 + L.length → va_S (fun x : Nat => q0 ≤ x) s.heap H locs → s.heap.size = q0 + 1 → LH lsA μ.2.2.1 ls →
    W p κ.1 e R s m args below meth c H locs k n (MQ below (QC κ q0 Lo) args s R.cells R.slots (fun x : Nat => q0 ≤ x)) (F0 m pc lsA st)
def CtC (κ : Kp) (μ : Mth) (R : Room) (q0 : Nat) (e0 : va_E) (Lo : List va_E) : Prop :=
  Met κ.1 μ.1 (.code μ.1 μ.2.1 μ.2.2.1 μ.2.2.2 :: GT) R (va_Pc [.ref q0] (fun U => U.heap.size = q0 + 1 ∧ va_P κ.2.1 vwCl (wz q0 [e0]) U.heap ∧ KC κ U)) (QC κ q0 Lo) R.cells R.slots (fun x : Nat => q0 ≤ x)
section
variable {κ : Kp} {μ μ' : Mth} {R R' : Room} {q0 pc pc' : Nat} {ls : List (Option Value)} {st : List Value} {L Lo : List va_E} {k n : Nat}
theorem x_go {pc2 : Nat} {st' : List Value} (h : ∀ (p : Program) (e : Env) (s : State) (m : MethodId) (args : Array Value) (below : List Frame) (meth : Method) (c : Code) (H : Heap) (locs : List Loc) (lsA : Array Slot) (Q : State → Prop), Cc κ μ p s m args meth c → LH lsA μ.2.2.1 ls →
    W p κ.1 e R s m args below meth c H locs k n Q (F0 m pc2 lsA st') → W p κ.1 e R s m args below meth c H locs k n Q (F0 m pc lsA st)) (kk : EC κ μ R q0 pc2 ls st' L k n Lo) : EC κ μ R q0 pc ls st L k n Lo :=
  fun p e s m args below meth c H locs lsA hx hP hsz hS h0 hl => h p e s m args below meth c H locs lsA _ hx hl (kk p e s m args below meth c H locs lsA hx hP hsz hS h0 hl)
theorem x_goL {pc2 : Nat} {ls' : List (Option Value)} {st' : List Value} (h : ∀ (p : Program) (e : Env) (s : State) (m : MethodId) (args : Array Value) (below : List Frame) (meth : Method) (c : Code) (H : Heap) (locs : List Loc) (lsA : Array Slot) (Q : State → Prop), Cc κ μ p s m args meth c → LH lsA μ.2.2.1 ls →
    (∀ lsB : Array Slot, LH lsB μ.2.2.1 ls' → W p κ.1 e R s m args below meth c H locs k n Q (F0 m pc2 lsB st')) → W p κ.1 e R s m args below meth c H locs k n Q (F0 m pc lsA st)) (kk : EC κ μ R q0 pc2 ls' st' L k n Lo) : EC κ μ R q0 pc ls st L k n Lo :=
  fun p e s m args below meth c H locs lsA hx hP hsz hS h0 hl => h p e s m args below meth c H locs lsA _ hx hl (fun lsB hB => kk p e s m args below meth c H locs lsB hx hP hsz hS h0 hB)
theorem x_iconst {i : Int} (hd : Dc μ.2.1 pc (.iconst i) 1 pc') (kk : EC κ μ R q0 pc' ls (vi i :: st) L k n Lo) : EC κ μ R q0 pc ls st L k n Lo := by
  obtain ⟨hd, rfl⟩ := hd
  exact x_go (fun _ _ _ _ _ _ _ _ _ _ _ _ hx _ w => lv_iconst hx.1 hx.2.1 hd rfl w) kk
theorem x_bipush {i : Int} (hd : Dc μ.2.1 pc (.bipush i) 2 pc') (hv : (Int8.ofInt i).toInt32 = Int32.ofInt i) (kk : EC κ μ R q0 pc' ls (vi i :: st) L k n Lo) : EC κ μ R q0 pc ls st L k n Lo := by
  obtain ⟨hd, rfl⟩ := hd
  exact x_go (fun _ _ _ _ _ _ _ _ _ _ _ _ hx _ w => lv_bipush hx.1 hx.2.1 hd hv w) kk
theorem x_sipush {i : Int} (hd : Dc μ.2.1 pc (.sipush i) 3 pc') (hv : (Int16.ofInt i).toInt32 = Int32.ofInt i) (kk : EC κ μ R q0 pc' ls (vi i :: st) L k n Lo) : EC κ μ R q0 pc ls st L k n Lo := by
  obtain ⟨hd, rfl⟩ := hd
  exact x_go (fun _ _ _ _ _ _ _ _ _ _ _ _ hx _ w => lv_sipush hx.1 hx.2.1 hd hv w) kk
theorem x_iload_n {i : Fin 4} {x : Int} (hd : Dc μ.2.1 pc (.iload_n i) 1 pc') (hl : lg ls i = some (vi x)) (kk : EC κ μ R q0 pc' ls (vi x :: st) L k n Lo) : EC κ μ R q0 pc ls st L k n Lo := by
  obtain ⟨hd, rfl⟩ := hd
  exact x_go (fun _ _ _ _ _ _ _ _ _ _ _ _ hx h w => lv_iload_n hx.1 hx.2.1 hd rfl (h.2.2 _ _ hl).1 w) kk
theorem x_aload_n {i : Fin 4} {q : Nat} (hd : Dc μ.2.1 pc (.aload_n i) 1 pc') (hl : lg ls i = some (.ref q)) (kk : EC κ μ R q0 pc' ls (.ref q :: st) L k n Lo) : EC κ μ R q0 pc ls st L k n Lo := by
  obtain ⟨hd, rfl⟩ := hd
  exact x_go (fun _ _ _ _ _ _ _ _ _ _ _ _ hx h w => lv_aload_n hx.1 hx.2.1 hd rfl (h.2.2 _ _ hl).1 w) kk
theorem x_istore_n {i : Fin 4} {x : Int} (hd : Dc μ.2.1 pc (.istore_n i) 1 pc') (hi : Nat.blt i μ.2.2.1 = true) (kk : EC κ μ R q0 pc' (ls.set i (some (vi x))) st L k n Lo) : EC κ μ R q0 pc ls (vi x :: st) L k n Lo := by
  obtain ⟨hd, rfl⟩ := hd
  exact x_goL (fun _ _ _ _ _ _ _ _ _ _ _ _ hx h w => lv_istore_n hx.1 hx.2.1 hd rfl h.has (Nat.blt_eq.mp hi) rfl (fun lsB hB => w lsB (h.set rfl hB))) kk
theorem x_iinc {i : Nat} {j x y : Int} (hd : Dc μ.2.1 pc (.iinc i j) 3 pc') (hl : lg ls i = some (vi x)) (hy : x + j = y) (hi : Nat.blt i μ.2.2.1 = true) (kk : EC κ μ R q0 pc' (ls.set i (some (vi y))) st L k n Lo) : EC κ μ R q0 pc ls st L k n Lo := by
  obtain ⟨hd, rfl⟩ := hd
  subst hy
  refine x_goL (fun _ _ _ _ _ _ _ _ _ _ _ _ hx h w => ?_) kk
  have hm : (i, vi x) ∈ lpairs ls := lpairs_mem.mpr hl
  obtain ⟨j', hj⟩ := List.getElem?_of_mem hm
  refine lv_iinc hx.1 hx.2.1 hd h.has (k := j') hj rfl (Nat.blt_eq.mp hi) rfl (fun lsB hB => w lsB (h.set rfl ?_))
  rw [vi, Int32.ofInt_add]
  exact hB
theorem x_iadd {x y z : Int} (hd : Dc μ.2.1 pc (.iadd) 1 pc') (hz : x + y = z) (kk : EC κ μ R q0 pc' ls (vi z :: st) L k n Lo) : EC κ μ R q0 pc ls (vi y :: vi x :: st) L k n Lo := by
  obtain ⟨hd, rfl⟩ := hd
  subst hz
  exact x_go (fun _ _ _ _ _ _ _ _ _ _ _ _ hx _ w => lv_iadd hx.1 hx.2.1 hd (by rw [vi, Int32.ofInt_add] at w; exact w)) kk
theorem x_goto {off : Int} {tgt : Nat} (hd : Db μ.2.1 pc (.goto off) 3 pc' off tgt) (kk : EC κ μ R q0 tgt ls st L k n Lo) : EC κ μ R q0 pc ls st L k n Lo := by
  obtain ⟨hd, rfl, ht⟩ := hd
  exact x_go (fun _ _ _ _ _ _ _ _ _ _ _ _ hx _ w => lv_goto hx.1 hx.2.1 hd ht w) kk
theorem x_geN {x y off : Int} {tgt : Nat} (hd : Db μ.2.1 pc (.if_icmp .ge off) 3 pc' off tgt) (h : ¬ Int32.ofInt y ≤ Int32.ofInt x) (kk : EC κ μ R q0 pc' ls st L k n Lo) : EC κ μ R q0 pc ls (vi y :: vi x :: st) L k n Lo := by
  obtain ⟨hd, rfl, ht⟩ := hd
  exact x_go (fun _ _ _ _ _ _ _ _ _ _ _ _ hx _ w => lv_icmp_ge hx.1 hx.2.1 hd ht (fun q => absurd q h) (fun _ => w)) kk
theorem x_geY {x y off : Int} {tgt : Nat} (hd : Db μ.2.1 pc (.if_icmp .ge off) 3 pc' off tgt) (h : Int32.ofInt y ≤ Int32.ofInt x) (kk : EC κ μ R q0 tgt ls st L k n Lo) : EC κ μ R q0 pc ls (vi y :: vi x :: st) L k n Lo := by
  obtain ⟨hd, rfl, ht⟩ := hd
  exact x_go (fun _ _ _ _ _ _ _ _ _ _ _ _ hx _ w => lv_icmp_ge hx.1 hx.2.1 hd ht (fun _ => w) (fun q => absurd h q)) kk
theorem x_gtN {x y off : Int} {tgt : Nat} (hd : Db μ.2.1 pc (.if_icmp .gt off) 3 pc' off tgt) (h : ¬ Int32.ofInt y < Int32.ofInt x) (kk : EC κ μ R q0 pc' ls st L k n Lo) : EC κ μ R q0 pc ls (vi y :: vi x :: st) L k n Lo := by
  obtain ⟨hd, rfl, ht⟩ := hd
  exact x_go (fun _ _ _ _ _ _ _ _ _ _ _ _ hx _ w => lv_icmp_gt hx.1 hx.2.1 hd ht (fun q => absurd q h) (fun _ => w)) kk
theorem x_gtY {x y off : Int} {tgt : Nat} (hd : Db μ.2.1 pc (.if_icmp .gt off) 3 pc' off tgt) (h : Int32.ofInt y < Int32.ofInt x) (kk : EC κ μ R q0 tgt ls st L k n Lo) : EC κ μ R q0 pc ls (vi y :: vi x :: st) L k n Lo := by
  obtain ⟨hd, rfl, ht⟩ := hd
  exact x_go (fun _ _ _ _ _ _ _ _ _ _ _ _ hx _ w => lv_icmp_gt hx.1 hx.2.1 hd ht (fun _ => w) (fun q => absurd h q)) kk
theorem x_dup {v : Value} (hd : Dc μ.2.1 pc (.dup) 1 pc') (hv : v.category = 1) (kk : EC κ μ R q0 pc' ls (v :: v :: st) L k n Lo) : EC κ μ R q0 pc ls (v :: st) L k n Lo := by
  obtain ⟨hd, rfl⟩ := hd
  exact x_go (fun _ _ _ _ _ _ _ _ _ _ _ _ hx _ w => lv_dup hx.1 hx.2.1 hd hv w) kk
theorem x_obj {idx q : Nat} (hd : Dc μ.2.1 pc (.invokespecial idx) 3 pc') (hl : Cond.methodLink μ.1.cls idx Lib.objectInit ∈ GT) (hw : Cond.instanceMethod Lib.objectInit ∈ GT ∧ Cond.code Lib.objectInit ⟨#[0xb1]⟩ 1 none ∈ GT) (hR : 1 ≤ R.frames ∧ (st.map fun v => v.category).sum + 12 ≤ R.locals) (kk : EC κ μ R q0 pc' ls st L k n Lo) : EC κ μ R q0 pc ls (.ref q :: st) L k n Lo := by
  obtain ⟨hd, rfl⟩ := hd
  exact x_go (fun p e s m args below meth c H locs lsA Q hx h w => W.objInit hx.1 hx.2.1 hx.2.2.2.1 (hx.2.2.2.2.1 _ hl) (hx.2.2.2.2.1 _ hw.1) (hx.2.2.2.2.1 _ hw.2) rfl (by rw [hx.2.2.1]; exact h.1) rfl hd hR.1 (by show 2 * 0 + _ + 12 ≤ _; omega) w) kk
theorem x_get {idx c j i : Nat} {fs : List Value} {v : Value} (hd : Dc μ.2.1 pc (.getfield idx) 3 pc') (hf : FI μ.1.cls idx c j) (hi : L[i]? = some (.inr (c, fs))) (hv : fs[j]? = some v) (kk : EC κ μ R q0 pc' ls (v :: st) L k n Lo) : EC κ μ R q0 pc ls (.ref (q0 + i) :: st) L k n Lo := by
  obtain ⟨hd, rfl⟩ := hd
  obtain ⟨C, T, N, h1, h2, h3, h4, h5⟩ := hf
  intro p e s m args below meth c' H locs lsA hx hP hsz hS h0 hl
  exact va_get (C := C) (T := T) (N := N) (v := v) hx.1 hx.2.1 hx.2.2.2.2.1 h4 hx.2.2.2.1 hx.2.2.2.2.2.1.1 hP i (wz_at hi) h1 j h2 (hx.2.2.2.2.1 _ h5) (fun _ q => q) hv hd (kk p e s m args below meth c' H locs lsA hx hP hsz hS h0 hl)
/-- a row that changes the cells -/
theorem x_goM {pc2 : Nat} {st' : List Value} {L' : List va_E} (hlen : L'.length = L.length) (h : ∀ (p : Program) (e : Env) (s : State) (m : MethodId) (args : Array Value) (below : List Frame) (meth : Method) (c : Code) (H : Heap) (locs : List Loc) (lsA : Array Slot) (Q : State → Prop), Cc κ μ p s m args meth c → va_P κ.2.1 vwCl (wz q0 L) H → va_S (fun x : Nat => q0 ≤ x) s.heap H locs →
    (∀ (H1 : Heap) (locs1 : List Loc), va_P κ.2.1 vwCl (wz q0 L') H1 → H1.size = H.size → va_S (fun x : Nat => q0 ≤ x) s.heap H1 locs1 → W p κ.1 e R s m args below meth c H1 locs1 k n Q (F0 m pc2 lsA st')) → W p κ.1 e R s m args below meth c H locs k n Q (F0 m pc lsA st)) (kk : EC κ μ R q0 pc2 ls st' L' k n Lo) : EC κ μ R q0 pc ls st L k n Lo :=
  fun p e s m args below meth c H locs lsA hx hP hsz hS h0 hl => h p e s m args below meth c H locs lsA _ hx hP hS (fun H1 locs1 hP1 hz hS1 => kk p e s m args below meth c H1 locs1 lsA hx hP1 (by rw [hz, hsz, hlen]) hS1 h0 hl)
theorem va_sizeP {D : va_G} {H H1 : Heap} {A : Nat → Prop} {H0 : Heap} : True := trivial
def FF (own : String) (idx c k : Nat) (ty : FieldType) : Prop := ∃ (C : String) (T : u_T) (N : Nat) (ty0 : Nat → FieldType), vwCl[c]? = some (C, T, N) ∧ k < N ∧ (∀ w ∈ u_ws C T N, w ∈ GT) ∧ Cond.fieldLink own idx (T k).1 (T k).2.1 (T k).2.2.1 ∈ GT ∧ (T k).2.2.2 = true ∧ (T k).1 = own ∧ ty0 k = ty ∧
  (∀ k, k < N → parseFieldDescriptor (T k).2.2.1 = some (ty0 k)) ∧ (∀ a, a < N → ∀ b, b < N → a ≠ b → (T a).2.1 ≠ (T b).2.1)
theorem wsize {D : va_G} {p : Program} {l : Launch} {e : Env} {s : State} {m : MethodId} {args : Array Value} {below : List Frame} {meth : Method} {c : Code} {H : Heap} {locs : List Loc} {k n : Nat} {Q : State → Prop} {g : JFrame} (h : ∀ T : State, T.heap = H → Stand p l e R s m args below meth c T locs k n → W p l e R s m args below meth c H locs k n Q g) : W p l e R s m args below meth c H locs k n Q g := fun T hT X => h T hT X T hT X
theorem x_putF {idx c j i : Nat} {fs : List Value} {v : Value} {ty : FieldType} (hd : Dc μ.2.1 pc (.putfield idx) 3 pc') (hf : FF μ.1.cls idx c j ty) (hi : L[i]? = some (.inr (c, fs))) (hn : narrow ty v = v) (hft : fits ty v = true) (hj : j < fs.length) {L' : List va_E} (hL : L.set i (.inr (c, fs.set j v)) = L') (kk : EC κ μ R q0 pc' ls st L' k n Lo) : EC κ μ R q0 pc ls (v :: .ref (q0 + i) :: st) L k n Lo := by
  obtain ⟨hd, rfl⟩ := hd
  subst hL
  obtain ⟨C, T, N, ty0, h1, h2, h4, h5, h6, h6b, h7, h8, h9⟩ := hf
  refine x_goM (by simp) (fun p e s m args below meth c' H locs lsA Q hx hP hS kk => ?_) kk
  have hts := hx.2.2.2.2.1
  have hK := hx.2.2.2.2.2.1.1
  have hap := va_apart (own := μ.1.cls) hts h4 ty0 h8 h9 hK h1
  obtain ⟨r, g1, cell, q1, q2, q3, q4⟩ := hP i _ (wz_at hi)
  have hr : r = (C, T, N) := Option.some.inj (g1.symm.trans h1)
  subst hr
  obtain ⟨hS', hfc, kC, hkC, hkind⟩ := hK.1 c _ h1
  obtain ⟨cf, kf, fi, f, hi', hsl⟩ := hS' j h2
  have hlay := hts _ (h4 _ (u_in_lay h2))
  unfold u_lay at hlay
  rw [if_pos h6] at hlay
  have hst := (u_facts hfc hkC (u_lays hts h4 h2) hi').1
  have hcf : m.cls = cf := by
    obtain ⟨_, _, c2, _, _, _, -, -, hf', -, -, -, hown2, -⟩ := Cond.laysFinal_spec hlay
    have e1 : c2 = cf := by have := hi'.symm.trans hf'; simp at this; exact this.1.symm
    rw [h6b] at hown2
    rw [← e1]; exact Option.some.inj (hx.2.2.2.1.symm.trans hown2)
  have h6' := u_fits (ty := ty) hfc hkC hkind (Or.inr hlay) hi' (by rw [h8 j h2, h7]) hn hft
  refine W.putFinK hx.1 hx.2.1 hx.2.2.2.1 (hts _ h5) hi' hst hcf hx.2.2.2.2.2.2.2.2 (by rw [q2]; exact h6') q1 q3 (by rw [hsl]; exact k2_hasslot (q4 j h2)) rfl rfl hd fun H' e1 e2 e3 => ?_
  rw [hsl] at e1 ⊢
  refine kk H' _ ?_ e2 (hS.put e2 e3 (Nat.le_add_right _ _))
  rw [← wz_set]
  exact hP.set (wz_D q0 L) (wz_at hi) ⟨_, h1, t_OB.to (V := updV (vp_V fs) j v) ⟨_, e1, q2, q3, t_set q4 hap h2 v⟩ (fun j' _ => vp_updV_set hj v j')⟩ e3
theorem x_put {idx c j i : Nat} {fs : List Value} {v : Value} {ty : FieldType} (hd : Dc μ.2.1 pc (.putfield idx) 3 pc') (hf : FP μ.1.cls idx c j ty) (hi : L[i]? = some (.inr (c, fs))) (hn : narrow ty v = v) (hft : fits ty v = true) (hj : j < fs.length) {L' : List va_E} (hL : L.set i (.inr (c, fs.set j v)) = L') (kk : EC κ μ R q0 pc' ls st L' k n Lo) : EC κ μ R q0 pc ls (v :: .ref (q0 + i) :: st) L k n Lo := by
  obtain ⟨hd, rfl⟩ := hd
  subst hL
  obtain ⟨C, T, N, ty0, h1, h2, h3, h4, h5, h6, h7, h8, h9⟩ := hf
  refine x_goM (by simp) (fun p e s m args below meth c' H locs lsA Q hx hP hS kk => ?_) kk
  have hts := hx.2.2.2.2.1
  have hK := hx.2.2.2.2.2.1.1
  have hap := va_apart (own := μ.1.cls) hts h4 ty0 h8 h9 hK h1
  obtain ⟨r, g1, cell, q1, q2, q3, q4⟩ := hP i _ (wz_at hi)
  have hr : r = (C, T, N) := Option.some.inj (g1.symm.trans h1)
  subst hr
  obtain ⟨hS', hfc, kC, hkC, hkind⟩ := hK.1 c _ h1
  obtain ⟨cf, kf, fi, f, hi', hsl⟩ := hS' j h2
  have hlay := hts _ (h4 _ (u_in_lay h2))
  unfold u_lay at hlay
  rw [if_neg (by rw [h6]; decide)] at hlay
  have hst := (u_facts hfc hkC (u_lays hts h4 h2) hi').1
  have h6' := u_store hfc hkC hkind hlay hi' (by rw [h8 j h2, h7] : parseFieldDescriptor (T j).2.2.1 = some ty) hn hft
  refine W.putK hx.1 hx.2.1 (f := f) ⟨hx.2.2.2.1, hts _ h5, ⟨_, _, _, hi'⟩, hst⟩ (by rw [q2]; exact h6') q1 q3 (by rw [hsl]; exact k2_hasslot (q4 j h2)) rfl rfl hd fun H' e1 e2 e3 => ?_
  rw [hsl] at e1 ⊢
  refine kk H' _ ?_ e2 (hS.put e2 e3 (Nat.le_add_right _ _))
  rw [← wz_set]
  exact hP.set (wz_D q0 L) (wz_at hi) ⟨_, h1, t_OB.to (V := updV (vp_V fs) j v) ⟨_, e1, q2, q3, t_set q4 hap h2 v⟩ (fun j' _ => vp_updV_set hj v j')⟩ e3
theorem x_iast {i N : Nat} {x j : Int} {f : Nat → Int32} (hd : Dc μ.2.1 pc (.iastore) 1 pc') (hi : L[i]? = some (.inl (κ.2.2.1.1, N, .inl f))) (hj : 0 ≤ j ∧ j < (N : Int)) (hN : N ≤ 100000) {L' : List va_E} (hL : L.set i (.inl (κ.2.2.1.1, N, .inl (upd f j.toNat (Int32.ofInt x)))) = L') (kk : EC κ μ R q0 pc' ls st L' k n Lo) : EC κ μ R q0 pc ls (vi x :: vi j :: .ref (q0 + i) :: st) L k n Lo := by
  obtain ⟨hd, rfl⟩ := hd
  subst hL
  obtain ⟨-, hin, hcl⟩ := i32_inb hj hN
  refine x_goM (by simp) (fun p e s m args below meth c' H locs lsA Q hx hP hS kk => ?_) kk
  refine W.iast hx.1 hx.2.1 (hP i _ (wz_at hi)) ((hx.2.2.2.2.2.1.1.2 0 _ rfl).1 N (fun j => .int (f j))) (fun q => by cases q) (by show ¬ (Int32.ofInt j < 0 ∨ (arrV _ _ _).slots.size ≤ _); rw [arrV_size]; exact hin) rfl rfl hd fun H1 e z oq => ?_
  refine kk H1 _ ?_ z (hS.put z oq (Nat.le_add_right _ _))
  rw [← wz_set]
  refine hP.set (wz_D q0 L) (wz_at hi) ?_ oq
  show H1[q0 + i]? = some (vp_cell _ _)
  rw [e, vp_cell_i, vp_cell_i, arrV_store]
  congr 2
  funext q
  rw [hcl]
  by_cases hq : q = j.toNat
  · subst hq
    simp [updV, upd]
  · simp [updV, upd, hq]
end

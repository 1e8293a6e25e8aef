/-! ===== L1: an abstract machine over one memory of whole numbers; each of its rows stands on the kit's ===== -/
abbrev Mem : Type := Nat → Int → Int
abbrev Res : Type := Option (Int × Mem)
abbrev Mth : Type := MethodName × ByteArray × Nat × Option FieldType
abbrev Kp : Type := Launch × va_G × (ClassId × ClassId × (Nat → Nat) × (Nat → Nat) × Option Nat) × Nat × List (Nat × Nat)
def wr (x : Int) : Int := Int.bmod x 4294967296
def InR (x : Int) : Prop := -2147483648 ≤ x ∧ x ≤ 2147483647
def inrB (x : Int) : Bool := decide (-2147483648 ≤ x) && decide (x ≤ 2147483647)
def WF (σ : Mem) : Prop := ∀ a i, InR (σ a i)
def vi (x : Int) : Value := .int (Int32.ofInt x)
def mup (σ : Mem) (a : Nat) (i v : Int) : Mem := fun a' i' => if a' = a ∧ i' = i then v else σ a' i'
def iand (x y : Int) : Int := (Int32.ofInt x &&& Int32.ofInt y).toInt
def ior (x y : Int) : Int := (Int32.ofInt x ||| Int32.ofInt y).toInt
def ixor (x y : Int) : Int := (Int32.ofInt x ^^^ Int32.ofInt y).toInt
def ishl (x y : Int) : Int := (Int32.ofInt x <<< (Int32.ofInt y &&& 31)).toInt
def ishr (x y : Int) : Int := (Int32.ofInt x >>> (Int32.ofInt y &&& 31)).toInt
def iushr (x y : Int) : Int := (((Int32.ofInt x).toUInt32 >>> ((Int32.ofInt y).toUInt32 &&& Int32.toUInt32 31)).toInt32).toInt
def ii2c (x : Int) : Int := (((Int32.ofInt x).toUInt32 % 65536).toInt32).toInt
def mmx (x y : Int) : Int := if x < y then y else x
def mmn (x y : Int) : Int := if y < x then y else x
def mab (x : Int) : Int := if 0 ≤ x then wr x else wr (0 - x)
/-- guards, names, calls -/
def gd {α : Type} (c : Prop) [Decidable c] (o : Option α) : Option α := if c then o else none
def lt (v : Int) (k : Int → Res) : Res := k v
def lm (σ : Mem) (k : Mem → Res) : Res := k σ
def jn {α : Type} (v : α) (k : α → Res) : Res := k v
def bd (o : Res) (k : Int → Mem → Res) : Res := match o with
  | none => none
  | some q => k q.1 q.2
theorem inr_d {x : Int} (h : inrB x = true) : InR x := by
  simp only [inrB, Bool.and_eq_true, decide_eq_true_eq] at h
  exact h
theorem inr_i32 (z : Int32) : InR z.toInt := by
  have h1 := z.le_toInt
  have h2 := z.toInt_lt
  unfold InR
  omega
theorem i32_toInt {x : Int} (h : InR x) : (Int32.ofInt x).toInt = x := by
  unfold InR at h
  exact Int32.toInt_ofInt_of_le (by omega) (by omega)
theorem ofInt_wr (x : Int) : Int32.ofInt (wr x) = Int32.ofInt x := by
  apply Int32.toInt_inj.mp
  rw [Int32.toInt_ofInt, Int32.toInt_ofInt]
  show Int.bmod (Int.bmod x 4294967296) 4294967296 = Int.bmod x 4294967296
  exact Int.bmod_bmod
theorem inr_wr (x : Int) : InR (wr x) := by
  have h : wr x = (Int32.ofInt x).toInt := (Int32.toInt_ofInt (n := x)).symm
  rw [h]
  exact inr_i32 _
theorem inr_mab (x : Int) : InR (mab x) := by
  unfold mab
  split
  · exact inr_wr _
  · exact inr_wr _
theorem inr_mmx {x y : Int} (hx : InR x) (hy : InR y) : InR (mmx x y) := by
  unfold mmx
  split
  · exact hy
  · exact hx
theorem inr_mmn {x y : Int} (hx : InR x) (hy : InR y) : InR (mmn x y) := by
  unfold mmn
  split
  · exact hy
  · exact hx
theorem wr_id {x : Int} (h : InR x) : wr x = x := by
  have h2 : wr x = (Int32.ofInt x).toInt := (Int32.toInt_ofInt (n := x)).symm
  rw [h2, i32_toInt h]
theorem vi_toInt (z : Int32) : vi z.toInt = .int z := by rw [vi, Int32.ofInt_toInt]
theorem vi_wr (x : Int) : vi (wr x) = vi x := by rw [vi, ofInt_wr]; rfl
theorem i32_eq {x y : Int} (hx : InR x) (hy : InR y) : Int32.ofInt x = Int32.ofInt y ↔ x = y := by
  rw [← Int32.toInt_inj, i32_toInt hx, i32_toInt hy]
theorem i32_lt {x y : Int} (hx : InR x) (hy : InR y) : Int32.ofInt x < Int32.ofInt y ↔ x < y := by
  rw [Int32.lt_iff_toInt_lt, i32_toInt hx, i32_toInt hy]
theorem i32_le {x y : Int} (hx : InR x) (hy : InR y) : Int32.ofInt x ≤ Int32.ofInt y ↔ x ≤ y := by
  rw [Int32.le_iff_toInt_le, i32_toInt hx, i32_toInt hy]
theorem inr_0 : InR 0 := inr_d rfl
theorem i32_eq0 {x : Int} (hx : InR x) : Int32.ofInt x = 0 ↔ x = 0 := i32_eq hx inr_0
theorem i32_lt0 {x : Int} (hx : InR x) : Int32.ofInt x < 0 ↔ x < 0 := i32_lt hx inr_0
theorem i32_0lt {x : Int} (hx : InR x) : 0 < Int32.ofInt x ↔ 0 < x := i32_lt inr_0 hx
theorem i32_le0 {x : Int} (hx : InR x) : Int32.ofInt x ≤ 0 ↔ x ≤ 0 := i32_le hx inr_0
theorem i32_0le {x : Int} (hx : InR x) : 0 ≤ Int32.ofInt x ↔ 0 ≤ x := i32_le inr_0 hx
theorem inr_tmod {x y : Int} (hx : InR x) (_ : InR y) : InR (x.tmod y) := by
  unfold InR at hx ⊢
  by_cases h0 : 0 ≤ x
  · have h1 := Int.tmod_nonneg y h0
    have h2 : x.tmod y ≤ x := by
      have := Int.natAbs_tmod x y
      have h4 : (x.tmod y).natAbs ≤ x.natAbs := by rw [this]; exact Nat.mod_le _ _
      omega
    omega
  · have h1 := Int.tmod_nonneg (a := -x) y (by omega)
    rw [Int.neg_tmod] at h1
    have := Int.natAbs_tmod x y
    have h4 : (x.tmod y).natAbs ≤ x.natAbs := by rw [this]; exact Nat.mod_le _ _
    omega
theorem i32_inb {i : Int} {n : Nat} (h : 0 ≤ i ∧ i < (n : Int)) (hn : n ≤ 100000) : InR i ∧ vp_in (Int32.ofInt i) n ∧ (Int32.ofInt i).toNatClampNeg = i.toNat := by
  have hi : InR i := by unfold InR; omega
  refine ⟨hi, ?_, ?_⟩
  · rw [vp_in_iff, i32_toInt hi]
    exact h
  · show (Int32.ofInt i).toInt.toNat = i.toNat
    rw [i32_toInt hi]
theorem wf_mup {σ : Mem} (h : WF σ) (a : Nat) (i : Int) {v : Int} (hv : InR v) : WF (mup σ a i v) := by
  intro a' i'
  unfold mup
  split
  · exact hv
  · exact h a' i'
/-! the layout -/
def fkt : List (List Nat) := [[2, 3, 4, 5, 0], [2, 3, 0], [2, 3, 4, 5, 0, 0, 6, 7], [2, 3, 0], [2, 3, 4, 5, 6, 7, 8, 9, 0, 0, 0, 0, 0, 0, 0, 0, 0], [2, 0, 0], [2, 3, 4, 5, 0], [2, 9, 12, 17, 0, 0, 0, 21, 22, 23, 24, 0, 0, 0, 25, 0, 0, 0], [2, 1, 1], [2, 3, 4, 0], [2, 11, 12, 19, 22, 27, 31, 36], [2, 40, 78, 134, 237, 0], [2, 3, 4, 5, 0, 0, 6, 7, 8, 9, 10, 11, 0, 0, 0, 0, 0, 0, 0, 0, 0, 0, 0, 0, 0, 0, 0, 12, 13, 14]]
def fk (c k : Nat) : Nat := (fkt.getD c []).getD k 0
def nf (c : Nat) : Nat := (fkt.getD c []).length
def kd (κ : Kp) (a : Nat) : Nat × Nat := κ.2.2.2.2.getD a (99, 0)
def vr (κ : Kp) (a : Nat) : Value := .ref (κ.2.2.2.1 + a)
def fval (b : Nat) (σ : Mem) (a c k : Nat) : Value := if fk c k = 0 then vi (σ a k) else if fk c k = 1 then .ref (b + (σ a k).toNat) else .ref (b + (a + (fk c k - 1)))
def entk (κ : Kp) (σ : Mem) (a : Nat) (q : Nat × Nat) : va_E := match q.1 with
  | 0 => .inr (q.2, (List.range (nf q.2)).map (fval κ.2.2.2.1 σ a q.2))
  | 1 => .inl (κ.2.2.1.1, q.2, .inl (fun j => Int32.ofInt (σ a j)))
  | k + 2 => .inl (κ.2.2.1.2.1, q.2, .inr (.inr (.inr (.inr (fun j => some (κ.2.2.2.1 + (a + k + 9 * j)))))))
def ent (κ : Kp) (σ : Mem) (a : Nat) : va_E := entk κ σ a (kd κ a)
def wl (κ : Kp) (σ : Mem) : va_W := (List.range κ.2.2.2.2.length).map (fun a => (κ.2.2.2.1 + a, ent κ σ a))
def reg (κ : Kp) : Nat → Prop := fun q => κ.2.2.2.1 ≤ q ∧ q < κ.2.2.2.1 + κ.2.2.2.2.length
theorem kd_lt {κ : Kp} {a : Nat} {q : Nat × Nat} (h : kd κ a = q) (hq : q.1 ≠ 99) : a < κ.2.2.2.2.length := by
  by_cases hl : a < κ.2.2.2.2.length
  · exact hl
  · exfalso
    have h1 : kd κ a = (99, 0) := by
      unfold kd
      rw [List.getD_eq_getElem?_getD, List.getElem?_eq_none (by omega)]
      rfl
    rw [h1] at h
    exact hq (by rw [← h])
theorem wl_at {κ : Kp} {σ : Mem} {a : Nat} {q : Nat × Nat} (h : kd κ a = q) (hq : q.1 ≠ 99) : (wl κ σ)[a]? = some (κ.2.2.2.1 + a, entk κ σ a q) := by
  have hl := kd_lt h hq
  simp [wl, hl, ent, h]
theorem wl_get {κ : Kp} {σ : Mem} {a : Nat} {q : Nat × va_E} (h : (wl κ σ)[a]? = some q) : a < κ.2.2.2.2.length ∧ q = (κ.2.2.2.1 + a, ent κ σ a) := by
  unfold wl at h
  rw [List.getElem?_map] at h
  by_cases hl : a < κ.2.2.2.2.length
  · rw [List.getElem?_range hl] at h
    exact ⟨hl, (Option.some.inj h).symm⟩
  · rw [List.getElem?_eq_none (by simpa using hl)] at h
    cases h
theorem wl_D (κ : Kp) (σ : Mem) : va_D (reg κ) (wl κ σ) := by
  refine ⟨fun i j p q hi hj hpq => ?_, fun k q hk => ?_⟩
  · obtain ⟨-, rfl⟩ := wl_get hi
    obtain ⟨-, rfl⟩ := wl_get hj
    dsimp only at hpq
    omega
  · obtain ⟨hl, rfl⟩ := wl_get hk
    exact ⟨Nat.le_add_right _ _, by dsimp only; omega⟩
theorem ent_other {κ : Kp} {σ : Mem} {a a' : Nat} {i v : Int} (h : a' ≠ a) : ent κ (mup σ a i v) a' = ent κ σ a' := by
  have e : ∀ j, mup σ a i v a' j = σ a' j := fun j => by simp [mup, h]
  unfold ent entk
  split
  · congr 2
    apply List.map_congr_left
    intro k _
    simp [fval, e]
  · simp [e]
  · rfl
theorem wl_setA {κ : Kp} {σ : Mem} {a n : Nat} {i v : Int} (h : kd κ a = (1, n)) (hi : 0 ≤ i) : (wl κ σ).set a (κ.2.2.2.1 + a, .inl (κ.2.2.1.1, n, .inl (upd (fun j => Int32.ofInt (σ a j)) i.toNat (Int32.ofInt v)))) = wl κ (mup σ a i v) := by
  have hl := kd_lt h (by simp)
  apply List.ext_getElem?
  intro k
  by_cases hk : k = a
  · subst hk
    rw [List.getElem?_set_self (by simpa [wl] using hl), wl_at h (by simp)]
    simp only [entk]
    congr 6
    funext j
    simp only [upd, mup]
    by_cases hj : j = i.toNat
    · subst hj
      have : ((i.toNat : Nat) : Int) = i := Int.toNat_of_nonneg hi
      simp [this]
    · have : ¬ ((j : Int) = i) := by omega
      simp [hj, this]
  · rw [List.getElem?_set_ne (Ne.symm hk)]
    by_cases hkl : k < κ.2.2.2.2.length
    · simp [wl, hkl, ent_other hk]
    · simp [wl, hkl]
theorem wl_setF {κ : Kp} {σ : Mem} {a c k : Nat} {v : Int} {x : Value} (h : kd κ a = (0, c)) (hk : k < nf c) (hf : (fk c k = 0 ∧ x = vi v) ∨ (fk c k = 1 ∧ x = .ref (κ.2.2.2.1 + v.toNat))) : (wl κ σ).set a (κ.2.2.2.1 + a, .inr (c, ((List.range (nf c)).map (fval κ.2.2.2.1 σ a c)).set k x)) = wl κ (mup σ a k v) := by
  have hl := kd_lt h (by simp)
  apply List.ext_getElem?
  intro j
  by_cases hj : j = a
  · subst hj
    rw [List.getElem?_set_self (by simpa [wl] using hl), wl_at h (by simp)]
    simp only [entk]
    congr 4
    apply List.ext_getElem?
    intro i
    by_cases hi : i = k
    · subst hi
      rw [List.getElem?_set_self (by simpa using hk)]
      rw [List.getElem?_map, List.getElem?_range hk]
      rcases hf with ⟨h0, rfl⟩ | ⟨h0, rfl⟩
      · simp [fval, h0, mup]
      · simp [fval, h0, mup]
    · rw [List.getElem?_set_ne (Ne.symm hi)]
      have e : mup σ j k v j i = σ j i := by
        have : ¬ ((i : Int) = k) := by omega
        simp [mup, this]
      rw [List.getElem?_map, List.getElem?_map]
      by_cases hin : i < nf c
      · rw [List.getElem?_range hin]
        simp [fval, e]
      · rw [List.getElem?_eq_none (by simpa using hin)]
        rfl
  · rw [List.getElem?_set_ne (Ne.symm hj)]
    by_cases hkl : j < κ.2.2.2.2.length
    · simp [wl, hkl, ent_other hj]
    · simp [wl, hkl]
def mcp (σ : Mem) (x : Nat) (sp : Int) (y : Nat) (dp n : Int) : Mem := fun a i => if a = y ∧ dp ≤ i ∧ i < dp + n then σ x (sp + (i - dp)) else σ a i
theorem wf_mcp {σ : Mem} (h : WF σ) (x : Nat) (sp : Int) (y : Nat) (dp n : Int) : WF (mcp σ x sp y dp n) := by
  intro a i
  unfold mcp
  split
  · exact h _ _
  · exact h _ _
theorem wl_cpy {κ : Kp} {σ : Mem} {x y n1 : Nat} {sp dp n : Int} (h : kd κ y = (1, n1)) (h1 : 0 ≤ sp) (h2 : 0 ≤ dp) (h3 : 0 ≤ n) : (wl κ σ).set y (κ.2.2.2.1 + y, .inl (κ.2.2.1.1, n1, .inl (va_cpy (fun j => Int32.ofInt (σ x j)) (fun j => Int32.ofInt (σ y j)) sp.toNat dp.toNat n.toNat))) = wl κ (mcp σ x sp y dp n) := by
  have hl := kd_lt h (by simp)
  apply List.ext_getElem?
  intro k
  by_cases hk : k = y
  · subst hk
    rw [List.getElem?_set_self (by simpa [wl] using hl), wl_at h (by simp)]
    simp only [entk]
    congr 6
    funext j
    simp only [va_cpy, mcp]
    by_cases hj : dp.toNat ≤ j ∧ j < dp.toNat + n.toNat
    · have hj2 : dp ≤ (j : Int) ∧ (j : Int) < dp + n := by omega
      have e : ((sp.toNat + (j - dp.toNat) : Nat) : Int) = sp + ((j : Int) - dp) := by omega
      rw [if_pos hj, if_pos ⟨trivial, hj2⟩, e]
    · have hj2 : ¬ (dp ≤ (j : Int) ∧ (j : Int) < dp + n) := by omega
      rw [if_neg hj, if_neg (fun q => hj2 q.2)]
  · rw [List.getElem?_set_ne (Ne.symm hk)]
    have e : ent κ (mcp σ x sp y dp n) k = ent κ σ k := by
      have e1 : ∀ j, mcp σ x sp y dp n k j = σ k j := fun j => by simp [mcp, hk]
      unfold ent entk
      split
      · congr 2
        apply List.map_congr_left
        intro k' _
        simp [fval, e1]
      · simp [e1]
      · rfl
    by_cases hkl : k < κ.2.2.2.2.length
    · simp [wl, hkl, e]
    · simp [wl, hkl]
/-! the tables' words -/
def GT : List Cond := lw_tbl.filter goodWord
def isNest : Cond → Bool
  | .methodLinkNest _ _ _ _ => true
  | _ => false
def NT : List Cond := lw_tbl.filter isNest
theorem gt_t {w : Cond} (k : Nat) (h : tables_1[k]? = some w) (hg : goodWord w = true) : w ∈ GT := List.mem_filter.mpr ⟨List.mem_append_right _ (List.mem_of_getElem? h), hg⟩
theorem gt_p {w : Cond} (k : Nat) (h : (k2_sels lw_privs)[k]? = some w) (hg : goodWord w = true) : w ∈ GT := List.mem_filter.mpr ⟨List.mem_append_left _ (List.mem_of_getElem? h), hg⟩
theorem nt_t {w : Cond} (k : Nat) (h : tables_1[k]? = some w) (hg : isNest w = true) : w ∈ NT := List.mem_filter.mpr ⟨List.mem_append_right _ (List.mem_of_getElem? h), hg⟩
theorem gt_good {w : Cond} (h : w ∈ GT) : goodWord w = true := (List.mem_filter.mp h).2
def Tabs (U : State) : Prop := ∀ w ∈ NT, va_Nw w U
theorem Tabs.warm {s U : State} (hW : s.WarmedH U.vm) (h : Tabs s) : Tabs U := by
  intro w hw
  have h1 := h w hw
  have h2 := (List.mem_filter.mp hw).2
  unfold isNest at h2
  split at h2
  · exact va_Nw.warmM hW h1
  · cases h2
theorem Tabs.same {s U : State} (hv : s.vm = U.vm) (h : Tabs s) : Tabs U := by
  intro w hw
  have h1 := h w hw
  have h2 := (List.mem_filter.mp hw).2
  unfold isNest at h2
  split at h2
  · exact va_Nw.same rfl hv h1
  · cases h2
/-! String constants, by number -/
def strB : List (List Int32) := [[59, 43, 45, 42, 47, 40, 41, 60, 61, 62], [102, 111, 103, 32, 100, 114, 117, 109, 115, 32, 97, 108, 97, 114, 109, 32, 97, 114, 99, 104, 101, 114, 115, 32, 115, 116, 114, 97, 119, 32, 107, 105, 110, 100, 32, 114, 101, 97, 99, 104, 32, 104, 111, 117, 114, 32, 115, 116, 117, 99, 107, 32, 108, 101, 97, 110, 32, 115, 104, 111, 116, 32, 115, 116, 105, 99, 107, 32, 108, 105, 115, 116, 32, 102, 97, 100, 101, 32, 119, 104, 101, 110, 32, 111, 114, 32, 97, 110, 100, 32, 110, 111, 116, 32, 100, 114, 105, 102, 116, 32, 101, 98, 98, 32, 97, 116, 32, 116, 117, 114, 110, 32, 104, 111, 109, 101, 32, 109, 111, 118, 101, 32, 116, 111, 32, 118, 105, 108, 108, 97, 103, 101, 32, 116, 97, 108, 107, 115, 32], [102, 111, 103], [100, 114, 117, 109, 115], [97, 108, 97, 114, 109], [97, 114, 99, 104, 101, 114, 115], [115, 116, 114, 97, 119], [107, 105, 110, 100], [114, 101, 97, 99, 104], [104, 111, 117, 114], [115, 116, 117, 99, 107], [108, 101, 97, 110], [119, 104, 101, 110], [111, 114], [97, 110, 100], [110, 111, 116], [115, 104, 111, 116], [115, 116, 105, 99, 107], [108, 105, 115, 116], [102, 97, 100, 101], [97, 116], [116, 117, 114, 110], [104, 111, 109, 101], [109, 111, 118, 101], [116, 111], [118, 105, 108, 108, 97, 103, 101], [116, 97, 108, 107, 115], [100, 114, 105, 102, 116], [101, 98, 98]]
def strL : List Nat := strB.map List.length
def strR : List (String × Nat × String × Nat) := [("FogArrows$Reader", 131, ";+-*/()<=>", 0), ("FogArrows$Reader", 143, "fog drums alarm archers straw kind reach hour stuck lean shot stick list fade when or and not drift ebb at turn home move to village talks ", 1), ("FogArrowsModel", 104, "fog", 2), ("FogArrowsModel", 110, "drums", 3), ("FogArrowsModel", 112, "alarm", 4), ("FogArrowsModel", 114, "archers", 5), ("FogArrowsModel", 116, "straw", 6), ("FogArrowsModel", 118, "kind", 7), ("FogArrowsModel", 120, "reach", 8), ("FogArrowsModel", 122, "hour", 9), ("FogArrowsModel", 124, "stuck", 10), ("FogArrowsModel", 126, "lean", 11), ("FogArrowsModel", 128, "when", 12), ("FogArrowsModel", 130, "or", 13), ("FogArrowsModel", 132, "and", 14), ("FogArrowsModel", 134, "not", 15), ("FogArrowsModel", 136, "shot", 16), ("FogArrowsModel", 138, "stick", 17), ("FogArrowsModel", 140, "list", 18), ("FogArrowsModel", 142, "fade", 19), ("FogArrowsModel", 147, "at", 20), ("FogArrowsModel", 148, "turn", 21), ("FogArrowsModel", 150, "home", 22), ("FogArrowsModel", 152, "move", 23), ("FogArrowsModel", 154, "to", 24), ("FogArrowsModel", 156, "village", 25), ("FogArrowsModel", 158, "talks", 26), ("FogArrowsModel", 166, "drift", 27), ("FogArrowsModel", 168, "ebb", 28)]
def nStr : Nat := 29
def vs (κ : Kp) (i : Nat) : Value := .ref (κ.2.2.1.2.2.1 i)
def vb (κ : Kp) (i : Nat) : Value := .ref (κ.2.2.1.2.2.2.1 i)
def vf (κ : Kp) : Value := va_rf κ.2.2.1.2.2.2.2
def slen (i : Nat) : Int := strL.getD i 0
def sbyt (i : Nat) (k : Int) : Int := ((strB.getD i []).getD k.toNat 0).toInt
def ii2b (x : Int) : Int := ((Int32.ofInt x).toInt8.toInt32).toInt
def Sx (κ : Kp) (U : State) : Prop := vk_S nStr strL strB κ.2.2.1.2.2.1 κ.2.2.1.2.2.2.1 (reg κ) U U.heap ∧ (∀ q ∈ strR, vk_R q.1 q.2.1 q.2.2.1 (κ.2.2.1.2.2.1 q.2.2.2) U) ∧
  va_Z "java/lang/String" "COMPACT_STRINGS" "Z" (.int 1) (reg κ) U U.heap ∧ va_Z "jdk/internal/util/Preconditions" "SIOOBE_FORMATTER" "Ljava/util/function/BiFunction;" (va_rf κ.2.2.1.2.2.2.2) (reg κ) U U.heap
theorem Sx.next {κ : Kp} {s t : State} (hW : s.WarmedH t.vm) (hq : ∀ a : Nat, a < s.heap.size → ¬ reg κ a → t.heap[a]? = s.heap[a]?) (h : Sx κ s) : Sx κ t :=
  ⟨(h.1.moved hW.alike).kept hq, fun q h1 => (h.2.1 q h1).warm hW, (h.2.2.1.moved hW.alike).kept hq, (h.2.2.2.moved hW.alike).kept hq⟩
def Kn (κ : Kp) (U : State) : Prop := va_K κ.2.1 vwCl [(κ.2.2.1.1, .int), (κ.2.2.1.2.1, .object "FogArrows$Night")] U ∧ Tabs U ∧ Sx κ U
theorem Kn.next {κ : Kp} {s t : State} (hW : s.WarmedH t.vm) (hq : ∀ a : Nat, a < s.heap.size → ¬ reg κ a → t.heap[a]? = s.heap[a]?) (h : Kn κ s) : Kn κ t := ⟨va_K.moved hW.alike h.1, h.2.1.warm hW, h.2.2.next hW hq⟩
def World (κ : Kp) (σ : Mem) (U : State) : Prop := WF σ ∧ va_P κ.2.1 vwCl (wl κ σ) U.heap ∧ Kn κ U
/-! locals by place -/
def lg : List (Option Value) → Nat → Option Value
  | [], _ => none
  | v :: _, 0 => v
  | _ :: l, i + 1 => lg l i
theorem lg_get : ∀ (l : List (Option Value)) (i : Nat), lg l i = (l[i]?).join
  | [], i => by simp [lg]
  | v :: l, 0 => by simp [lg]
  | v :: l, i + 1 => by simp [lg, lg_get l i]
def LH (lsA : Array Slot) (n : Nat) (ls : List (Option Value)) : Prop := lsA.size = n ∧ lv_wf lsA ∧ ∀ i v, lg ls i = some v → lsA[i]? = some (.val v) ∧ v.category = 1
def lpairs (ls : List (Option Value)) : List (Nat × Value) := (List.range ls.length).filterMap (fun i => (lg ls i).map (fun v => (i, v)))
theorem lpairs_mem {ls : List (Option Value)} {q : Nat × Value} : q ∈ lpairs ls ↔ lg ls q.1 = some q.2 := by
  unfold lpairs
  rw [List.mem_filterMap]
  constructor
  · rintro ⟨i, -, h⟩
    rw [Option.map_eq_some_iff] at h
    obtain ⟨v, h1, rfl⟩ := h
    exact h1
  · intro h
    refine ⟨q.1, ?_, by rw [h]; rfl⟩
    rw [List.mem_range]
    by_cases hl : q.1 < ls.length
    · exact hl
    · rw [lg_get, List.getElem?_eq_none (by omega)] at h
      cases h
theorem LH.has {lsA : Array Slot} {n : Nat} {ls : List (Option Value)} (h : LH lsA n ls) : lv_has lsA n (lpairs ls) := ⟨h.1, h.2.1, fun q hq => (h.2.2 q.1 q.2 (lpairs_mem.mp hq)).1⟩
theorem LH.set {lsA lsB : Array Slot} {n : Nat} {ls : List (Option Value)} {i : Nat} {v : Value} (h : LH lsA n ls) (hv : v.category = 1) (hl : lv_has lsB n ((i, v) :: (lpairs ls).filter (fun q => !(q.1 == i) && !(q.1 + 1 == i && q.2.category == 2)))) : LH lsB n (ls.set i (some v)) := by
  refine ⟨hl.1, hl.2.1, fun j w hw => ?_⟩
  rw [lg_get] at hw
  by_cases hj : j = i
  · subst hj
    by_cases hlen : j < ls.length
    · rw [List.getElem?_set_self hlen] at hw
      cases hw
      exact ⟨hl.2.2 _ List.mem_cons_self, hv⟩
    · rw [List.getElem?_eq_none (by simpa using hlen)] at hw
      cases hw
  · rw [List.getElem?_set_ne (Ne.symm hj), ← lg_get] at hw
    have h1 := h.2.2 j w hw
    refine ⟨hl.2.2 (j, w) (List.mem_cons_of_mem _ (List.mem_filter.mpr ⟨lpairs_mem.mpr hw, ?_⟩)), h1.2⟩
    simp [hj, h1.2]
theorem LH.entry (vs : List Value) {n : Nat} (hn : vs.length ≤ n) (hc : ∀ v ∈ vs, v.category = 1) : LH ((lg_sl vs ++ List.replicate (n - (lg_sl vs).length) Slot.unset).toArray) n (vs.map some) := by
  have hsl : lg_sl vs = vs.map (fun v => Slot.val v) := by
    clear hn
    induction vs with
    | nil => rfl
    | cons v vs ih =>
      have h1 : v.category = 1 := hc v List.mem_cons_self
      have h2 := ih (fun w hw => hc w (List.mem_cons_of_mem _ hw))
      simp [lg_sl] at h2 ⊢
      simp [h1, h2]
  have h := lv_entry vs (n := n) (by rw [hsl]; simpa using hn)
  refine ⟨h.1, h.2.1, fun i v hv => ?_⟩
  rw [lg_get] at hv
  have hi : i < vs.length := by
    by_cases hl : i < vs.length
    · exact hl
    · rw [List.getElem?_eq_none (by simpa using hl)] at hv
      cases hv
  rw [List.getElem?_map, List.getElem?_eq_getElem hi] at hv
  simp at hv
  subst hv
  refine ⟨?_, hc _ (List.getElem_mem hi)⟩
  rw [hsl, List.getElem?_toArray, List.getElem?_append_left (by simpa using hi)]
  simp [hi]
def sub : List (Option Value) → List (Option Value) → Prop
  | [], _ => True
  | none :: a, b => sub a b.tail
  | some v :: a, b => lg b 0 = some v ∧ sub a b.tail
theorem sub_lg : ∀ (a b : List (Option Value)), sub a b → ∀ i v, lg a i = some v → lg b i = some v
  | [], b, _, i, v, h => by simp [lg] at h
  | none :: a, b, h0, 0, v, h => by simp [lg] at h
  | none :: a, b, h0, i + 1, v, h => by
    have h1 := sub_lg a b.tail h0 i v h
    cases b with
    | nil => simp [lg] at h1
    | cons x b => exact h1
  | some w :: a, b, h0, 0, v, h => by
    have h1 : w = v := by simpa [lg] using h
    rw [← h1]
    exact h0.1
  | some w :: a, b, h0, i + 1, v, h => by
    have h1 := sub_lg a b.tail h0.2 i v h
    cases b with
    | nil => simp [lg] at h1
    | cons x b => exact h1
theorem LH.sub {lsA : Array Slot} {n : Nat} {a b : List (Option Value)} (h : LH lsA n b) (hs : sub a b) : LH lsA n a := ⟨h.1, h.2.1, fun i v hv => h.2.2 i v (sub_lg a b hs i v hv)⟩
/-! the judgement: from this frame the method comes to its end with the answer r and the memory σ' -/
def rv (κ : Kp) (t : Option FieldType) (r : Int) : Option Value := match t with
  | none => none
  | some (.object _) => some (.ref (κ.2.2.2.1 + r.toNat))
  | some _ => some (vi r)
def InT (t : Option FieldType) (r : Int) : Prop := match t with
  | some .boolean => r = 0 ∨ r = 1
  | some .char => 0 ≤ r ∧ r < 65536
  | _ => InR r
def QE (κ : Kp) (μ : Mth) (r : Int) (σ' : Mem) : Array Value → State → Outcome → State → Prop := fun _ st oc t => (oc = .returned (rv κ μ.2.2.2 r) ∧ InT μ.2.2.2 r ∧ World κ σ' t) ∧ va_F (reg κ) st t
def Cx (κ : Kp) (μ : Mth) (p : Program) (s : State) (m : MethodId) (args : Array Value) (meth : Method) (c : Code) : Prop :=
  p.tables.exec = Jvm.exec ∧ c.code = μ.2.1 ∧ c.maxLocals = μ.2.2.1 ∧ s.vm.findClass μ.1.cls = some m.cls ∧ (∀ w ∈ GT, w.before args s = true) ∧ Kn κ s ∧ meth.sig.returnType = μ.2.2.2 ∧ meth.locks = false
def E (κ : Kp) (μ : Mth) (R : Room) (pc : Nat) (ls : List (Option Value)) (st : List Value) (σ : Mem) (r : Int) (σ' : Mem) : Prop :=
  ∀ (p : Program) (e : Env) (s : State) (m : MethodId) (args : Array Value) (below : List Frame) (meth : Method) (c : Code) (H : Heap) (locs : List Loc) (lsA : Array Slot), Cx κ μ p s m args meth c → va_P κ.2.1 vwCl (wl κ σ) H → va_S (reg κ) s.heap H locs → LH lsA μ.2.2.1 ls →
    W p κ.1 e R s m args below meth c H locs 0 0 (MQ below (QE κ μ r σ') args s 0 0 (reg κ)) (F0 m pc lsA st)
def EO (κ : Kp) (μ : Mth) (R : Room) (pc : Nat) (ls : List (Option Value)) (st : List Value) (σ : Mem) (o : Res) : Prop := ∀ (r : Int) (σ' : Mem), o = some (r, σ') → E κ μ R pc ls st σ r σ'
def Ct (κ : Kp) (μ : Mth) (R : Room) (As : List Value) (σ : Mem) (r : Int) (σ' : Mem) : Prop :=
  Met κ.1 μ.1 (.code μ.1 μ.2.1 μ.2.2.1 μ.2.2.2 :: GT) R (va_Pc As (World κ σ)) (QE κ μ r σ') 0 0 (reg κ)
def Dc (cc : ByteArray) (pc : Nat) (i : Instr) (len pc' : Nat) : Prop := decode cc pc = .ok (i, len) ∧ pc' = pc + len
def Db (cc : ByteArray) (pc : Nat) (i : Instr) (len pc' : Nat) (off : Int) (tgt : Nat) : Prop := decode cc pc = .ok (i, len) ∧ pc' = pc + len ∧ (pc : Int) + off = (tgt : Int)
def dcB (cc : ByteArray) (pc : Nat) (i : Instr) (len : Nat) : Bool := decide (decode cc pc = .ok (i, len))
theorem dc_of {cc : ByteArray} {pc len pc' : Nat} {i : Instr} (h : dcB cc pc i len = true) (hp : pc' = pc + len) : Dc cc pc i len pc' := ⟨of_decide_eq_true h, hp⟩
theorem db_of {cc : ByteArray} {pc len pc' tgt : Nat} {i : Instr} {off : Int} (h : dcB cc pc i len = true) (hp : pc' = pc + len) (ht : (pc : Int) + off = (tgt : Int)) : Db cc pc i len pc' off tgt := ⟨of_decide_eq_true h, hp, ht⟩

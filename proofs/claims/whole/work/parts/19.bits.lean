/-! ===== L3: sets of bits ===== -/
/-- bit v of a set -/
def bt (x v : Int) : Int := iand (ishr x v) 1
/-- bits set -/
def pc (x : Int) : Int := bt x 0 + bt x 1 + bt x 2 + bt x 3 + bt x 4 + bt x 5 + bt x 6 + bt x 7 + bt x 8 + bt x 9 + bt x 10 + bt x 11
def bcv (x : Int) : Int :=
  let v1 := wr ((iand (wr (x - (iand (iushr x 1) 1431655765))) 858993459) + (iand (iushr (wr (x - (iand (iushr x 1) 1431655765))) 2) 858993459))
  let v2 := wr ((iand (wr (v1 + (iushr v1 4))) 252645135) + (iushr (iand (wr (v1 + (iushr v1 4))) 252645135) 8))
  iand (wr (v2 + (iushr v2 16))) 63
theorem bc_e (x : Int) (s : Mem) : f_J6_bitCount_0f7a4 x s = some (bcv x, s) := rfl
theorem bcv_all : (List.range 4096).all (fun x => decide (bcv (x : Int) = pc (x : Int))) = true := by decide +kernel
theorem bcv_e {x : Int} (h : 0 ≤ x ∧ x < 4096) : bcv x = pc x := by
  have h1 := List.all_eq_true.mp bcv_all x.toNat (List.mem_range.mpr (by omega))
  have h2 := of_decide_eq_true h1
  have e : ((x.toNat : Nat) : Int) = x := Int.toNat_of_nonneg h.1
  rw [e] at h2
  exact h2
theorem setb_all : (List.range 12).all (fun b => (List.range (2 ^ b)).all (fun x => decide (ior (x : Int) (ishl 1 (b : Int)) = ((x + 2 ^ b : Nat) : Int) ∧ pc ((x + 2 ^ b : Nat) : Int) = pc (x : Int) + 1))) = true := by decide +kernel
theorem setb_e {b : Nat} {x : Nat} (hb : b < 12) (hx : x < 2 ^ b) : ior (x : Int) (ishl 1 (b : Int)) = ((x + 2 ^ b : Nat) : Int) ∧ pc ((x + 2 ^ b : Nat) : Int) = pc (x : Int) + 1 := by
  have h1 := List.all_eq_true.mp setb_all b (List.mem_range.mpr hb)
  have h2 := List.all_eq_true.mp h1 x (List.mem_range.mpr hx)
  exact of_decide_eq_true h2

/-! ===== what the constructors made, as the abstract memory ===== -/
def gen (κ : Kp) (σ : Mem) : List (Nat × Nat) → Nat → List va_E
  | [], _ => []
  | q :: ks, a => entk κ σ a q :: gen κ σ ks (a + 1)
theorem gen_app (κ : Kp) (σ : Mem) : ∀ (k1 k2 : List (Nat × Nat)) (a : Nat), gen κ σ (k1 ++ k2) a = gen κ σ k1 a ++ gen κ σ k2 (a + k1.length)
  | [], k2, a => rfl
  | q :: k1, k2, a => by
    have ih := gen_app κ σ k1 k2 (a + 1)
    show entk κ σ a q :: gen κ σ (k1 ++ k2) (a + 1) = entk κ σ a q :: (gen κ σ k1 (a + 1) ++ gen κ σ k2 (a + (k1.length + 1)))
    rw [ih, show a + 1 + k1.length = a + (k1.length + 1) by omega]
theorem gen_get (κ : Kp) (σ : Mem) : ∀ (ks : List (Nat × Nat)) (a i : Nat), (gen κ σ ks a)[i]? = (ks[i]?).map (fun q => entk κ σ (a + i) q)
  | [], a, i => by simp [gen]
  | q :: ks, a, 0 => by simp [gen]
  | q :: ks, a, i + 1 => by
    have ih := gen_get κ σ ks (a + 1) i
    simp only [gen, List.getElem?_cons_succ, ih]
    rw [show a + 1 + i = a + (i + 1) by omega]
theorem wz_wl (κ : Kp) (σ : Mem) : wz κ.2.2.2.1 (gen κ σ κ.2.2.2.2 0) = wl κ σ := by
  apply List.ext_getElem?
  intro i
  rw [wz_get, gen_get]
  unfold wl
  rw [List.getElem?_map]
  by_cases hl : i < κ.2.2.2.2.length
  · rw [List.getElem?_range hl, List.getElem?_eq_getElem hl]
    have e : kd κ i = κ.2.2.2.2[i] := by
      unfold kd
      rw [List.getD_eq_getElem?_getD, List.getElem?_eq_getElem hl]
      rfl
    show some (κ.2.2.2.1 + i, entk κ σ (0 + i) κ.2.2.2.2[i]) = some (κ.2.2.2.1 + i, entk κ σ i (kd κ i))
    rw [e, Nat.zero_add]
  · rw [List.getElem?_eq_none (by omega), List.getElem?_eq_none (by simpa using hl)]
    rfl
def Zr (σ : Mem) (a : Nat) : Prop := ∀ i : Int, σ a i = 0
section
variable {κ : Kp} {σ : Mem} {a : Nat}
theorem fv_r {b c k n : Nat} (h : fk c k = n + 2) : fval b σ a c k = .ref (b + a + (n + 1)) := by
  unfold fval
  rw [if_neg (by omega), if_neg (by omega), h, Nat.add_assoc]
  rfl
theorem fv_i {b c k : Nat} {v : Int} (h : fk c k = 0) (hv : σ a (k : Int) = v) : fval b σ a c k = vi v := by
  unfold fval
  rw [if_pos h, hv]
theorem fv_0 {b c k : Nat} (h : fk c k = 0) (hv : σ a (k : Int) = 0) : fval b σ a c k = .int 0 := (fv_i h hv).trans rfl
theorem fv_y {b c k n : Nat} (h : fk c k = 1) (hv : σ a (k : Int) = ((a + n : Nat) : Int)) : fval b σ a c k = .ref (b + a + n) := by
  unfold fval
  rw [if_neg (by omega), if_pos h, hv, Int.toNat_natCast, Nat.add_assoc]
theorem e_arr {n : Nat} (h : Zr σ a) : entk κ σ a (1, n) = .inl (κ.2.2.1.1, n, .inl (fun _ => 0)) := by
  unfold entk
  dsimp only
  congr 4
  funext j
  rw [h]
  rfl
theorem e_arf {n : Nat} {f : Int → Int} (h : ∀ i : Int, σ a i = f i) : entk κ σ a (1, n) = .inl (κ.2.2.1.1, n, .inl (fun j => Int32.ofInt (f j))) := by
  unfold entk
  dsimp only
  congr 4
  funext j
  rw [h]
theorem eo_0 (h0 : Zr σ a) : entk κ σ a (0, 0) = .inr (0, [.ref (κ.2.2.2.1 + a + 1), .ref (κ.2.2.2.1 + a + 2), .ref (κ.2.2.2.1 + a + 3), .ref (κ.2.2.2.1 + a + 4), .int 0]) := by
  show Sum.inr (0, [fval κ.2.2.2.1 σ a 0 0, fval κ.2.2.2.1 σ a 0 1, fval κ.2.2.2.1 σ a 0 2, fval κ.2.2.2.1 σ a 0 3, fval κ.2.2.2.1 σ a 0 4]) = _
  rw [fv_r (c := 0) (k := 0) (n := 0) rfl, fv_r (c := 0) (k := 1) (n := 1) rfl, fv_r (c := 0) (k := 2) (n := 2) rfl, fv_r (c := 0) (k := 3) (n := 3) rfl, fv_0 (c := 0) (k := 4) rfl (h0 4)]
theorem eo_1 (h0 : Zr σ a) : entk κ σ a (0, 1) = .inr (1, [.ref (κ.2.2.2.1 + a + 1), .ref (κ.2.2.2.1 + a + 2), .int 0]) := by
  show Sum.inr (1, [fval κ.2.2.2.1 σ a 1 0, fval κ.2.2.2.1 σ a 1 1, fval κ.2.2.2.1 σ a 1 2]) = _
  rw [fv_r (c := 1) (k := 0) (n := 0) rfl, fv_r (c := 1) (k := 1) (n := 1) rfl, fv_0 (c := 1) (k := 2) rfl (h0 2)]
theorem eo_2 (h0 : Zr σ a) : entk κ σ a (0, 2) = .inr (2, [.ref (κ.2.2.2.1 + a + 1), .ref (κ.2.2.2.1 + a + 2), .ref (κ.2.2.2.1 + a + 3), .ref (κ.2.2.2.1 + a + 4), .int 0, .int 0, .ref (κ.2.2.2.1 + a + 5), .ref (κ.2.2.2.1 + a + 6)]) := by
  show Sum.inr (2, [fval κ.2.2.2.1 σ a 2 0, fval κ.2.2.2.1 σ a 2 1, fval κ.2.2.2.1 σ a 2 2, fval κ.2.2.2.1 σ a 2 3, fval κ.2.2.2.1 σ a 2 4, fval κ.2.2.2.1 σ a 2 5, fval κ.2.2.2.1 σ a 2 6, fval κ.2.2.2.1 σ a 2 7]) = _
  rw [fv_r (c := 2) (k := 0) (n := 0) rfl, fv_r (c := 2) (k := 1) (n := 1) rfl, fv_r (c := 2) (k := 2) (n := 2) rfl, fv_r (c := 2) (k := 3) (n := 3) rfl, fv_0 (c := 2) (k := 4) rfl (h0 4), fv_0 (c := 2) (k := 5) rfl (h0 5), fv_r (c := 2) (k := 6) (n := 4) rfl, fv_r (c := 2) (k := 7) (n := 5) rfl]
theorem eo_3 (h0 : Zr σ a) : entk κ σ a (0, 3) = .inr (3, [.ref (κ.2.2.2.1 + a + 1), .ref (κ.2.2.2.1 + a + 2), .int 0]) := by
  show Sum.inr (3, [fval κ.2.2.2.1 σ a 3 0, fval κ.2.2.2.1 σ a 3 1, fval κ.2.2.2.1 σ a 3 2]) = _
  rw [fv_r (c := 3) (k := 0) (n := 0) rfl, fv_r (c := 3) (k := 1) (n := 1) rfl, fv_0 (c := 3) (k := 2) rfl (h0 2)]
theorem eo_6 (h0 : Zr σ a) : entk κ σ a (0, 6) = .inr (6, [.ref (κ.2.2.2.1 + a + 1), .ref (κ.2.2.2.1 + a + 2), .ref (κ.2.2.2.1 + a + 3), .ref (κ.2.2.2.1 + a + 4), .int 0]) := by
  show Sum.inr (6, [fval κ.2.2.2.1 σ a 6 0, fval κ.2.2.2.1 σ a 6 1, fval κ.2.2.2.1 σ a 6 2, fval κ.2.2.2.1 σ a 6 3, fval κ.2.2.2.1 σ a 6 4]) = _
  rw [fv_r (c := 6) (k := 0) (n := 0) rfl, fv_r (c := 6) (k := 1) (n := 1) rfl, fv_r (c := 6) (k := 2) (n := 2) rfl, fv_r (c := 6) (k := 3) (n := 3) rfl, fv_0 (c := 6) (k := 4) rfl (h0 4)]
theorem eo_9 (h0 : Zr σ a) : entk κ σ a (0, 9) = .inr (9, [.ref (κ.2.2.2.1 + a + 1), .ref (κ.2.2.2.1 + a + 2), .ref (κ.2.2.2.1 + a + 3), .int 0]) := by
  show Sum.inr (9, [fval κ.2.2.2.1 σ a 9 0, fval κ.2.2.2.1 σ a 9 1, fval κ.2.2.2.1 σ a 9 2, fval κ.2.2.2.1 σ a 9 3]) = _
  rw [fv_r (c := 9) (k := 0) (n := 0) rfl, fv_r (c := 9) (k := 1) (n := 1) rfl, fv_r (c := 9) (k := 2) (n := 2) rfl, fv_0 (c := 9) (k := 3) rfl (h0 3)]
theorem eo_5 (h0 : Zr σ a) : entk κ σ a (0, 5) = .inr (5, [.ref (κ.2.2.2.1 + a + 1), .int 0, .int 0]) := by
  show Sum.inr (5, [fval κ.2.2.2.1 σ a 5 0, fval κ.2.2.2.1 σ a 5 1, fval κ.2.2.2.1 σ a 5 2]) = _
  rw [fv_r (c := 5) (k := 0) (n := 0) rfl, fv_0 (c := 5) (k := 1) rfl (h0 1), fv_0 (c := 5) (k := 2) rfl (h0 2)]
theorem eo_10 (h0 : Zr σ a) : entk κ σ a (0, 10) = .inr (10, [.ref (κ.2.2.2.1 + a + 1), .ref (κ.2.2.2.1 + a + 10), .ref (κ.2.2.2.1 + a + 11), .ref (κ.2.2.2.1 + a + 18), .ref (κ.2.2.2.1 + a + 21), .ref (κ.2.2.2.1 + a + 26), .ref (κ.2.2.2.1 + a + 30), .ref (κ.2.2.2.1 + a + 35)]) := by
  show Sum.inr (10, [fval κ.2.2.2.1 σ a 10 0, fval κ.2.2.2.1 σ a 10 1, fval κ.2.2.2.1 σ a 10 2, fval κ.2.2.2.1 σ a 10 3, fval κ.2.2.2.1 σ a 10 4, fval κ.2.2.2.1 σ a 10 5, fval κ.2.2.2.1 σ a 10 6, fval κ.2.2.2.1 σ a 10 7]) = _
  rw [fv_r (c := 10) (k := 0) (n := 0) rfl, fv_r (c := 10) (k := 1) (n := 9) rfl, fv_r (c := 10) (k := 2) (n := 10) rfl, fv_r (c := 10) (k := 3) (n := 17) rfl, fv_r (c := 10) (k := 4) (n := 20) rfl, fv_r (c := 10) (k := 5) (n := 25) rfl, fv_r (c := 10) (k := 6) (n := 29) rfl, fv_r (c := 10) (k := 7) (n := 34) rfl]
theorem eo_4 (h0 : ∀ i : Int, i ≠ 11 → i ≠ 12 → σ a i = 0) (h11 : σ a 11 = 5) (h12 : σ a 12 = 3) : entk κ σ a (0, 4) = .inr (4, [.ref (κ.2.2.2.1 + a + 1), .ref (κ.2.2.2.1 + a + 2), .ref (κ.2.2.2.1 + a + 3), .ref (κ.2.2.2.1 + a + 4), .ref (κ.2.2.2.1 + a + 5), .ref (κ.2.2.2.1 + a + 6), .ref (κ.2.2.2.1 + a + 7), .ref (κ.2.2.2.1 + a + 8), .int 0, .int 0, .int 0, vi 5, vi 3, .int 0, .int 0, .int 0, .int 0]) := by
  show Sum.inr (4, [fval κ.2.2.2.1 σ a 4 0, fval κ.2.2.2.1 σ a 4 1, fval κ.2.2.2.1 σ a 4 2, fval κ.2.2.2.1 σ a 4 3, fval κ.2.2.2.1 σ a 4 4, fval κ.2.2.2.1 σ a 4 5, fval κ.2.2.2.1 σ a 4 6, fval κ.2.2.2.1 σ a 4 7, fval κ.2.2.2.1 σ a 4 8, fval κ.2.2.2.1 σ a 4 9, fval κ.2.2.2.1 σ a 4 10, fval κ.2.2.2.1 σ a 4 11, fval κ.2.2.2.1 σ a 4 12, fval κ.2.2.2.1 σ a 4 13, fval κ.2.2.2.1 σ a 4 14, fval κ.2.2.2.1 σ a 4 15, fval κ.2.2.2.1 σ a 4 16]) = _
  rw [fv_r (c := 4) (k := 0) (n := 0) rfl, fv_r (c := 4) (k := 1) (n := 1) rfl, fv_r (c := 4) (k := 2) (n := 2) rfl, fv_r (c := 4) (k := 3) (n := 3) rfl, fv_r (c := 4) (k := 4) (n := 4) rfl, fv_r (c := 4) (k := 5) (n := 5) rfl, fv_r (c := 4) (k := 6) (n := 6) rfl, fv_r (c := 4) (k := 7) (n := 7) rfl, fv_0 (c := 4) (k := 8) rfl (h0 8 (by decide) (by decide)), fv_0 (c := 4) (k := 9) rfl (h0 9 (by decide) (by decide)), fv_0 (c := 4) (k := 10) rfl (h0 10 (by decide) (by decide)), fv_i (c := 4) (k := 11) (v := 5) rfl h11, fv_i (c := 4) (k := 12) (v := 3) rfl h12, fv_0 (c := 4) (k := 13) rfl (h0 13 (by decide) (by decide)), fv_0 (c := 4) (k := 14) rfl (h0 14 (by decide) (by decide)), fv_0 (c := 4) (k := 15) rfl (h0 15 (by decide) (by decide)), fv_0 (c := 4) (k := 16) rfl (h0 16 (by decide) (by decide))]
theorem eo_7 (h0 : ∀ i : Int, i ≠ 6 → σ a i = 0) (h6 : σ a 6 = (-1)) : entk κ σ a (0, 7) = .inr (7, [.ref (κ.2.2.2.1 + a + 1), .ref (κ.2.2.2.1 + a + 8), .ref (κ.2.2.2.1 + a + 11), .ref (κ.2.2.2.1 + a + 16), .int 0, .int 0, vi (-1), .ref (κ.2.2.2.1 + a + 20), .ref (κ.2.2.2.1 + a + 21), .ref (κ.2.2.2.1 + a + 22), .ref (κ.2.2.2.1 + a + 23), .int 0, .int 0, .int 0, .ref (κ.2.2.2.1 + a + 24), .int 0, .int 0, .int 0]) := by
  show Sum.inr (7, [fval κ.2.2.2.1 σ a 7 0, fval κ.2.2.2.1 σ a 7 1, fval κ.2.2.2.1 σ a 7 2, fval κ.2.2.2.1 σ a 7 3, fval κ.2.2.2.1 σ a 7 4, fval κ.2.2.2.1 σ a 7 5, fval κ.2.2.2.1 σ a 7 6, fval κ.2.2.2.1 σ a 7 7, fval κ.2.2.2.1 σ a 7 8, fval κ.2.2.2.1 σ a 7 9, fval κ.2.2.2.1 σ a 7 10, fval κ.2.2.2.1 σ a 7 11, fval κ.2.2.2.1 σ a 7 12, fval κ.2.2.2.1 σ a 7 13, fval κ.2.2.2.1 σ a 7 14, fval κ.2.2.2.1 σ a 7 15, fval κ.2.2.2.1 σ a 7 16, fval κ.2.2.2.1 σ a 7 17]) = _
  rw [fv_r (c := 7) (k := 0) (n := 0) rfl, fv_r (c := 7) (k := 1) (n := 7) rfl, fv_r (c := 7) (k := 2) (n := 10) rfl, fv_r (c := 7) (k := 3) (n := 15) rfl, fv_0 (c := 7) (k := 4) rfl (h0 4 (by decide)), fv_0 (c := 7) (k := 5) rfl (h0 5 (by decide)), fv_i (c := 7) (k := 6) (v := (-1)) rfl h6, fv_r (c := 7) (k := 7) (n := 19) rfl, fv_r (c := 7) (k := 8) (n := 20) rfl, fv_r (c := 7) (k := 9) (n := 21) rfl, fv_r (c := 7) (k := 10) (n := 22) rfl, fv_0 (c := 7) (k := 11) rfl (h0 11 (by decide)), fv_0 (c := 7) (k := 12) rfl (h0 12 (by decide)), fv_0 (c := 7) (k := 13) rfl (h0 13 (by decide)), fv_r (c := 7) (k := 14) (n := 23) rfl, fv_0 (c := 7) (k := 15) rfl (h0 15 (by decide)), fv_0 (c := 7) (k := 16) rfl (h0 16 (by decide)), fv_0 (c := 7) (k := 17) rfl (h0 17 (by decide))]
theorem eo_11 (h0 : ∀ i : Int, i ≠ 5 → σ a i = 0) (h5 : σ a 5 = 0) : entk κ σ a (0, 11) = .inr (11, [.ref (κ.2.2.2.1 + a + 1), .ref (κ.2.2.2.1 + a + 39), .ref (κ.2.2.2.1 + a + 77), .ref (κ.2.2.2.1 + a + 133), .ref (κ.2.2.2.1 + a + 236), vi 0]) := by
  show Sum.inr (11, [fval κ.2.2.2.1 σ a 11 0, fval κ.2.2.2.1 σ a 11 1, fval κ.2.2.2.1 σ a 11 2, fval κ.2.2.2.1 σ a 11 3, fval κ.2.2.2.1 σ a 11 4, fval κ.2.2.2.1 σ a 11 5]) = _
  rw [fv_r (c := 11) (k := 0) (n := 0) rfl, fv_r (c := 11) (k := 1) (n := 38) rfl, fv_r (c := 11) (k := 2) (n := 76) rfl, fv_r (c := 11) (k := 3) (n := 132) rfl, fv_r (c := 11) (k := 4) (n := 235) rfl, fv_i (c := 11) (k := 5) (v := 0) rfl h5]
theorem eo_12 (h0 : ∀ i : Int, i ≠ 25 → σ a i = 0) (h25 : σ a 25 = (-1)) : entk κ σ a (0, 12) = .inr (12, [.ref (κ.2.2.2.1 + a + 1), .ref (κ.2.2.2.1 + a + 2), .ref (κ.2.2.2.1 + a + 3), .ref (κ.2.2.2.1 + a + 4), .int 0, .int 0, .ref (κ.2.2.2.1 + a + 5), .ref (κ.2.2.2.1 + a + 6), .ref (κ.2.2.2.1 + a + 7), .ref (κ.2.2.2.1 + a + 8), .ref (κ.2.2.2.1 + a + 9), .ref (κ.2.2.2.1 + a + 10), .int 0, .int 0, .int 0, .int 0, .int 0, .int 0, .int 0, .int 0, .int 0, .int 0, .int 0, .int 0, .int 0, vi (-1), .int 0, .ref (κ.2.2.2.1 + a + 11), .ref (κ.2.2.2.1 + a + 12), .ref (κ.2.2.2.1 + a + 13)]) := by
  show Sum.inr (12, [fval κ.2.2.2.1 σ a 12 0, fval κ.2.2.2.1 σ a 12 1, fval κ.2.2.2.1 σ a 12 2, fval κ.2.2.2.1 σ a 12 3, fval κ.2.2.2.1 σ a 12 4, fval κ.2.2.2.1 σ a 12 5, fval κ.2.2.2.1 σ a 12 6, fval κ.2.2.2.1 σ a 12 7, fval κ.2.2.2.1 σ a 12 8, fval κ.2.2.2.1 σ a 12 9, fval κ.2.2.2.1 σ a 12 10, fval κ.2.2.2.1 σ a 12 11, fval κ.2.2.2.1 σ a 12 12, fval κ.2.2.2.1 σ a 12 13, fval κ.2.2.2.1 σ a 12 14, fval κ.2.2.2.1 σ a 12 15, fval κ.2.2.2.1 σ a 12 16, fval κ.2.2.2.1 σ a 12 17, fval κ.2.2.2.1 σ a 12 18, fval κ.2.2.2.1 σ a 12 19, fval κ.2.2.2.1 σ a 12 20, fval κ.2.2.2.1 σ a 12 21, fval κ.2.2.2.1 σ a 12 22, fval κ.2.2.2.1 σ a 12 23, fval κ.2.2.2.1 σ a 12 24, fval κ.2.2.2.1 σ a 12 25, fval κ.2.2.2.1 σ a 12 26, fval κ.2.2.2.1 σ a 12 27, fval κ.2.2.2.1 σ a 12 28, fval κ.2.2.2.1 σ a 12 29]) = _
  rw [fv_r (c := 12) (k := 0) (n := 0) rfl, fv_r (c := 12) (k := 1) (n := 1) rfl, fv_r (c := 12) (k := 2) (n := 2) rfl, fv_r (c := 12) (k := 3) (n := 3) rfl, fv_0 (c := 12) (k := 4) rfl (h0 4 (by decide)), fv_0 (c := 12) (k := 5) rfl (h0 5 (by decide)), fv_r (c := 12) (k := 6) (n := 4) rfl, fv_r (c := 12) (k := 7) (n := 5) rfl, fv_r (c := 12) (k := 8) (n := 6) rfl, fv_r (c := 12) (k := 9) (n := 7) rfl, fv_r (c := 12) (k := 10) (n := 8) rfl, fv_r (c := 12) (k := 11) (n := 9) rfl, fv_0 (c := 12) (k := 12) rfl (h0 12 (by decide)), fv_0 (c := 12) (k := 13) rfl (h0 13 (by decide)), fv_0 (c := 12) (k := 14) rfl (h0 14 (by decide)), fv_0 (c := 12) (k := 15) rfl (h0 15 (by decide)), fv_0 (c := 12) (k := 16) rfl (h0 16 (by decide)), fv_0 (c := 12) (k := 17) rfl (h0 17 (by decide)), fv_0 (c := 12) (k := 18) rfl (h0 18 (by decide)), fv_0 (c := 12) (k := 19) rfl (h0 19 (by decide)), fv_0 (c := 12) (k := 20) rfl (h0 20 (by decide)), fv_0 (c := 12) (k := 21) rfl (h0 21 (by decide)), fv_0 (c := 12) (k := 22) rfl (h0 22 (by decide)), fv_0 (c := 12) (k := 23) rfl (h0 23 (by decide)), fv_0 (c := 12) (k := 24) rfl (h0 24 (by decide)), fv_i (c := 12) (k := 25) (v := (-1)) rfl h25, fv_0 (c := 12) (k := 26) rfl (h0 26 (by decide)), fv_r (c := 12) (k := 27) (n := 10) rfl, fv_r (c := 12) (k := 28) (n := 11) rfl, fv_r (c := 12) (k := 29) (n := 12) rfl]
theorem eo_8 (h1 : σ a 1 = ((a + 2 : Nat) : Int)) (h2 : σ a 2 = ((a + 3 : Nat) : Int)) : entk κ σ a (0, 8) = .inr (8, [.ref (κ.2.2.2.1 + a + 1), .ref (κ.2.2.2.1 + a + 2), .ref (κ.2.2.2.1 + a + 3)]) := by
  show Sum.inr (8, [fval κ.2.2.2.1 σ a 8 0, fval κ.2.2.2.1 σ a 8 1, fval κ.2.2.2.1 σ a 8 2]) = _
  rw [fv_r (c := 8) (k := 0) (n := 0) rfl, fv_y (c := 8) (k := 1) (n := 2) rfl h1, fv_y (c := 8) (k := 2) (n := 3) rfl h2]
theorem e_nts {k n d : Nat} (hd : d = k + 1) : entk κ σ (a + 1) (k + 2, n) = .inl (κ.2.2.1.2.1, n, .inr (.inr (.inr (.inr (fun j => some (κ.2.2.2.1 + a + (1 + k + 9 * j))))))) := by
  unfold entk
  dsimp only
  congr 7
  funext j
  congr 1
  omega
def ks_0 : List (Nat × Nat) := [(0, 0), (1, 8), (1, 8), (1, 1000), (1, 30)]
def ks_1 : List (Nat × Nat) := [(0, 1), (1, 16), (1, 16)]
def ks_2 : List (Nat × Nat) := [(0, 2), (1, 16), (1, 16), (1, 16), (1, 400), (1, 10), (1, 32)]
def ks_3 : List (Nat × Nat) := [(0, 3), (1, 4), (1, 6)]
def ks_4 : List (Nat × Nat) := [(0, 4), (1, 10), (1, 10), (1, 10), (1, 10), (1, 10), (1, 10), (1, 10), (1, 16)]
def ks_6 : List (Nat × Nat) := [(0, 6), (1, 16), (1, 16), (1, 16), (1, 16)]
def ks_9 : List (Nat × Nat) := [(0, 9), (1, 12), (1, 12), (1, 12)]
def ks_12 : List (Nat × Nat) := [(0, 12), (1, 1732), (1, 1732), (1, 342), (1, 57), (1, 64), (1, 820), (1, 64), (1, 400), (1, 420), (1, 11), (1, 10), (1, 10), (1, 30)]
theorem g_0 (h : ∀ k : Nat, k < 5 → Zr σ (a + k)) : Lo_0 κ (κ.2.2.2.1 + a) = gen κ σ ks_0 a := by
  show _ = [entk κ σ a (0, 0), entk κ σ (a + 1) (1, 8), entk κ σ (a + 2) (1, 8), entk κ σ (a + 3) (1, 1000), entk κ σ (a + 4) (1, 30)]
  rw [eo_0 (a := a) (h 0 (by decide)), e_arr (h 1 (by decide)), e_arr (h 2 (by decide)), e_arr (h 3 (by decide)), e_arr (h 4 (by decide))]
  rfl
theorem g_1 (h : ∀ k : Nat, k < 3 → Zr σ (a + k)) : Lo_1 κ (κ.2.2.2.1 + a) = gen κ σ ks_1 a := by
  show _ = [entk κ σ a (0, 1), entk κ σ (a + 1) (1, 16), entk κ σ (a + 2) (1, 16)]
  rw [eo_1 (a := a) (h 0 (by decide)), e_arr (h 1 (by decide)), e_arr (h 2 (by decide))]
  rfl
theorem g_2 (h : ∀ k : Nat, k < 7 → Zr σ (a + k)) : Lo_2 κ (κ.2.2.2.1 + a) = gen κ σ ks_2 a := by
  show _ = [entk κ σ a (0, 2), entk κ σ (a + 1) (1, 16), entk κ σ (a + 2) (1, 16), entk κ σ (a + 3) (1, 16), entk κ σ (a + 4) (1, 400), entk κ σ (a + 5) (1, 10), entk κ σ (a + 6) (1, 32)]
  rw [eo_2 (a := a) (h 0 (by decide)), e_arr (h 1 (by decide)), e_arr (h 2 (by decide)), e_arr (h 3 (by decide)), e_arr (h 4 (by decide)), e_arr (h 5 (by decide)), e_arr (h 6 (by decide))]
  rfl
theorem g_3 (h : ∀ k : Nat, k < 3 → Zr σ (a + k)) : Lo_3 κ (κ.2.2.2.1 + a) = gen κ σ ks_3 a := by
  show _ = [entk κ σ a (0, 3), entk κ σ (a + 1) (1, 4), entk κ σ (a + 2) (1, 6)]
  rw [eo_3 (a := a) (h 0 (by decide)), e_arr (h 1 (by decide)), e_arr (h 2 (by decide))]
  rfl
theorem g_6 (h : ∀ k : Nat, k < 5 → Zr σ (a + k)) : Lo_6 κ (κ.2.2.2.1 + a) = gen κ σ ks_6 a := by
  show _ = [entk κ σ a (0, 6), entk κ σ (a + 1) (1, 16), entk κ σ (a + 2) (1, 16), entk κ σ (a + 3) (1, 16), entk κ σ (a + 4) (1, 16)]
  rw [eo_6 (a := a) (h 0 (by decide)), e_arr (h 1 (by decide)), e_arr (h 2 (by decide)), e_arr (h 3 (by decide)), e_arr (h 4 (by decide))]
  rfl
theorem g_9 (h : ∀ k : Nat, k < 4 → Zr σ (a + k)) : Lo_9 κ (κ.2.2.2.1 + a) = gen κ σ ks_9 a := by
  show _ = [entk κ σ a (0, 9), entk κ σ (a + 1) (1, 12), entk κ σ (a + 2) (1, 12), entk κ σ (a + 3) (1, 12)]
  rw [eo_9 (a := a) (h 0 (by decide)), e_arr (h 1 (by decide)), e_arr (h 2 (by decide)), e_arr (h 3 (by decide))]
  rfl
def I4 (σ : Mem) (a : Nat) : Prop := (∀ i : Int, i ≠ 11 → i ≠ 12 → σ a i = 0) ∧ σ a 11 = 5 ∧ σ a 12 = 3 ∧ (∀ k : Nat, 1 ≤ k → k ≤ 7 → Zr σ (a + k)) ∧ ∀ i : Int, σ (a + 8) i = ini_arch i
theorem g_4 (h : I4 σ a) : Lo_4 κ (κ.2.2.2.1 + a) = gen κ σ ks_4 a := by
  obtain ⟨h0, h11, h12, hk, h8⟩ := h
  show _ = [entk κ σ a (0, 4), entk κ σ (a + 1) (1, 10), entk κ σ (a + 2) (1, 10), entk κ σ (a + 3) (1, 10), entk κ σ (a + 4) (1, 10), entk κ σ (a + 5) (1, 10), entk κ σ (a + 6) (1, 10), entk κ σ (a + 7) (1, 10), entk κ σ (a + 8) (1, 16)]
  rw [eo_4 h0 h11 h12, e_arr (hk 1 (by decide) (by decide)), e_arr (hk 2 (by decide) (by decide)), e_arr (hk 3 (by decide) (by decide)), e_arr (hk 4 (by decide) (by decide)), e_arr (hk 5 (by decide) (by decide)), e_arr (hk 6 (by decide) (by decide)), e_arr (hk 7 (by decide) (by decide)), e_arf h8]
  rfl
def ks_5 : List (Nat × Nat) := ((((((([(0, 5)] ++ [(3, 6)]) ++ ks_4) ++ ks_4) ++ ks_4) ++ ks_4) ++ ks_4) ++ ks_4)
theorem g_5 (h0 : Zr σ a) (hn : ∀ j : Nat, j < 6 → I4 σ (a + 2 + 9 * j)) : Lo_5 κ (κ.2.2.2.1 + a) = gen κ σ ks_5 a := by
  have e : gen κ σ ks_5 a = ((((((([entk κ σ a (0, 5)] ++ [entk κ σ (a + 1) (3, 6)]) ++ gen κ σ ks_4 (a + 2)) ++ gen κ σ ks_4 (a + 11)) ++ gen κ σ ks_4 (a + 20)) ++ gen κ σ ks_4 (a + 29)) ++ gen κ σ ks_4 (a + 38)) ++ gen κ σ ks_4 (a + 47)) := by
    unfold ks_5
    rw [gen_app, gen_app, gen_app, gen_app, gen_app, gen_app, gen_app]
    rfl
  rw [e, eo_5 h0, e_nts (k := 1) (n := 6) rfl, ← g_4 (a := a + 2) (hn 0 (by decide)), ← g_4 (a := a + 11) (hn 1 (by decide)), ← g_4 (a := a + 20) (hn 2 (by decide)), ← g_4 (a := a + 29) (hn 3 (by decide)), ← g_4 (a := a + 38) (hn 4 (by decide)), ← g_4 (a := a + 47) (hn 5 (by decide))]
  rfl
def ks_8 : List (Nat × Nat) := (((((((((((((([(0, 8)] ++ [(5, 11)]) ++ [(1, 10)]) ++ [(1, 10)]) ++ ks_4) ++ ks_4) ++ ks_4) ++ ks_4) ++ ks_4) ++ ks_4) ++ ks_4) ++ ks_4) ++ ks_4) ++ ks_4) ++ ks_4)
theorem g_8 (h1 : σ a 1 = ((a + 2 : Nat) : Int)) (h2 : σ a 2 = ((a + 3 : Nat) : Int)) (hz2 : Zr σ (a + 2)) (hz3 : Zr σ (a + 3)) (hn : ∀ j : Nat, j < 11 → I4 σ (a + 4 + 9 * j)) : Lo_8 κ (κ.2.2.2.1 + a) = gen κ σ ks_8 a := by
  have e : gen κ σ ks_8 a = (((((((((((((([entk κ σ a (0, 8)] ++ [entk κ σ (a + 1) (5, 11)]) ++ [entk κ σ (a + 2) (1, 10)]) ++ [entk κ σ (a + 3) (1, 10)]) ++ gen κ σ ks_4 (a + 4)) ++ gen κ σ ks_4 (a + 13)) ++ gen κ σ ks_4 (a + 22)) ++ gen κ σ ks_4 (a + 31)) ++ gen κ σ ks_4 (a + 40)) ++ gen κ σ ks_4 (a + 49)) ++ gen κ σ ks_4 (a + 58)) ++ gen κ σ ks_4 (a + 67)) ++ gen κ σ ks_4 (a + 76)) ++ gen κ σ ks_4 (a + 85)) ++ gen κ σ ks_4 (a + 94)) := by
    unfold ks_8
    rw [gen_app, gen_app, gen_app, gen_app, gen_app, gen_app, gen_app, gen_app, gen_app, gen_app, gen_app, gen_app, gen_app, gen_app]
    rfl
  rw [e, eo_8 h1 h2, e_nts (k := 3) (n := 11) rfl, e_arr hz2, e_arr hz3, ← g_4 (a := a + 4) (hn 0 (by decide)), ← g_4 (a := a + 13) (hn 1 (by decide)), ← g_4 (a := a + 22) (hn 2 (by decide)), ← g_4 (a := a + 31) (hn 3 (by decide)), ← g_4 (a := a + 40) (hn 4 (by decide)), ← g_4 (a := a + 49) (hn 5 (by decide)), ← g_4 (a := a + 58) (hn 6 (by decide)), ← g_4 (a := a + 67) (hn 7 (by decide)), ← g_4 (a := a + 76) (hn 8 (by decide)), ← g_4 (a := a + 85) (hn 9 (by decide)), ← g_4 (a := a + 94) (hn 10 (by decide))]
  rfl
def ks_7 : List (Nat × Nat) := ((((((((([(0, 7)] ++ ks_2) ++ ks_1) ++ ks_6) ++ ks_9) ++ [(1, 400)]) ++ [(1, 401)]) ++ [(1, 401)]) ++ [(1, 401)]) ++ [(1, 32)])
theorem g_7 (h0 : ∀ i : Int, i ≠ 6 → σ a i = 0) (h6 : σ a 6 = (-1)) (hz : ∀ k : Nat, 1 ≤ k → k < 25 → Zr σ (a + k)) : Lo_7 κ (κ.2.2.2.1 + a) = gen κ σ ks_7 a := by
  have e : gen κ σ ks_7 a = ((((((((([entk κ σ a (0, 7)] ++ gen κ σ ks_2 (a + 1)) ++ gen κ σ ks_1 (a + 8)) ++ gen κ σ ks_6 (a + 11)) ++ gen κ σ ks_9 (a + 16)) ++ [entk κ σ (a + 20) (1, 400)]) ++ [entk κ σ (a + 21) (1, 401)]) ++ [entk κ σ (a + 22) (1, 401)]) ++ [entk κ σ (a + 23) (1, 401)]) ++ [entk κ σ (a + 24) (1, 32)]) := by
    unfold ks_7
    rw [gen_app, gen_app, gen_app, gen_app, gen_app, gen_app, gen_app, gen_app, gen_app]
    rfl
  rw [e, eo_7 h0 h6, ← g_2 (a := a + 1) (fun k hk => by rw [Nat.add_assoc]; exact hz (1 + k) (by omega) (by omega)), ← g_1 (a := a + 8) (fun k hk => by rw [Nat.add_assoc]; exact hz (8 + k) (by omega) (by omega)), ← g_6 (a := a + 11) (fun k hk => by rw [Nat.add_assoc]; exact hz (11 + k) (by omega) (by omega)), ← g_9 (a := a + 16) (fun k hk => by rw [Nat.add_assoc]; exact hz (16 + k) (by omega) (by omega)), e_arr (hz 20 (by decide) (by decide)), e_arr (hz 21 (by decide) (by decide)), e_arr (hz 22 (by decide) (by decide)), e_arr (hz 23 (by decide) (by decide)), e_arr (hz 24 (by decide) (by decide))]
  rfl
def ks_10 : List (Nat × Nat) := (((((((([(0, 10)] ++ ks_4) ++ [(1, 600)]) ++ ks_2) ++ ks_1) ++ ks_6) ++ ks_9) ++ ks_0) ++ ks_3)
theorem g_10 (h0 : Zr σ a) (hn : I4 σ (a + 1)) (hz : ∀ k : Nat, 10 ≤ k → k < 38 → Zr σ (a + k)) : Lo_10 κ (κ.2.2.2.1 + a) = gen κ σ ks_10 a := by
  have e : gen κ σ ks_10 a = (((((((([entk κ σ a (0, 10)] ++ gen κ σ ks_4 (a + 1)) ++ [entk κ σ (a + 10) (1, 600)]) ++ gen κ σ ks_2 (a + 11)) ++ gen κ σ ks_1 (a + 18)) ++ gen κ σ ks_6 (a + 21)) ++ gen κ σ ks_9 (a + 26)) ++ gen κ σ ks_0 (a + 30)) ++ gen κ σ ks_3 (a + 35)) := by
    unfold ks_10
    rw [gen_app, gen_app, gen_app, gen_app, gen_app, gen_app, gen_app, gen_app]
    rfl
  rw [e, eo_10 h0, ← g_4 hn, e_arr (hz 10 (by decide) (by decide)), ← g_2 (a := a + 11) (fun k hk => by rw [Nat.add_assoc]; exact hz (11 + k) (by omega) (by omega)), ← g_1 (a := a + 18) (fun k hk => by rw [Nat.add_assoc]; exact hz (18 + k) (by omega) (by omega)), ← g_6 (a := a + 21) (fun k hk => by rw [Nat.add_assoc]; exact hz (21 + k) (by omega) (by omega)), ← g_9 (a := a + 26) (fun k hk => by rw [Nat.add_assoc]; exact hz (26 + k) (by omega) (by omega)), ← g_0 (a := a + 30) (fun k hk => by rw [Nat.add_assoc]; exact hz (30 + k) (by omega) (by omega)), ← g_3 (a := a + 35) (fun k hk => by rw [Nat.add_assoc]; exact hz (35 + k) (by omega) (by omega))]
  rfl
def ks_11 : List (Nat × Nat) := ((((([(0, 11)] ++ ks_10) ++ ks_10) ++ ks_5) ++ ks_8) ++ ks_7)
theorem g_11 (h0 : ∀ i : Int, i ≠ 5 → σ a i = 0) (h5 : σ a 5 = 0) (q1 : gen κ σ ks_10 (a + 1) = Lo_10 κ (κ.2.2.2.1 + (a + 1))) (q39 : gen κ σ ks_10 (a + 39) = Lo_10 κ (κ.2.2.2.1 + (a + 39))) (q77 : gen κ σ ks_5 (a + 77) = Lo_5 κ (κ.2.2.2.1 + (a + 77))) (q133 : gen κ σ ks_8 (a + 133) = Lo_8 κ (κ.2.2.2.1 + (a + 133))) (q236 : gen κ σ ks_7 (a + 236) = Lo_7 κ (κ.2.2.2.1 + (a + 236))) : Lo_11 κ (κ.2.2.2.1 + a) = gen κ σ ks_11 a := by
  have e : gen κ σ ks_11 a = ((((([entk κ σ a (0, 11)] ++ gen κ σ ks_10 (a + 1)) ++ gen κ σ ks_10 (a + 39)) ++ gen κ σ ks_5 (a + 77)) ++ gen κ σ ks_8 (a + 133)) ++ gen κ σ ks_7 (a + 236)) := by
    unfold ks_11
    rw [gen_app, gen_app, gen_app, gen_app, gen_app]
    rfl
  rw [e, eo_11 h0 h5, q1, q39, q77, q133, q236]
  unfold Lo_11
  simp only [Nat.add_assoc]
theorem g_12 (h0 : ∀ i : Int, i ≠ 25 → σ a i = 0) (h25 : σ a 25 = (-1)) (h1 : ∀ i : Int, σ (a + 1) i = ini_w i) (hz : ∀ k : Nat, 2 ≤ k → k < 14 → Zr σ (a + k)) : Lo_12 κ (κ.2.2.2.1 + a) = gen κ σ ks_12 a := by
  show _ = [entk κ σ a (0, 12), entk κ σ (a + 1) (1, 1732), entk κ σ (a + 2) (1, 1732), entk κ σ (a + 3) (1, 342), entk κ σ (a + 4) (1, 57), entk κ σ (a + 5) (1, 64), entk κ σ (a + 6) (1, 820), entk κ σ (a + 7) (1, 64), entk κ σ (a + 8) (1, 400), entk κ σ (a + 9) (1, 420), entk κ σ (a + 10) (1, 11), entk κ σ (a + 11) (1, 10), entk κ σ (a + 12) (1, 10), entk κ σ (a + 13) (1, 30)]
  rw [eo_12 h0 h25, e_arf h1, e_arr (hz 2 (by decide) (by decide)), e_arr (hz 3 (by decide) (by decide)), e_arr (hz 4 (by decide) (by decide)), e_arr (hz 5 (by decide) (by decide)), e_arr (hz 6 (by decide) (by decide)), e_arr (hz 7 (by decide) (by decide)), e_arr (hz 8 (by decide) (by decide)), e_arr (hz 9 (by decide) (by decide)), e_arr (hz 10 (by decide) (by decide)), e_arr (hz 11 (by decide) (by decide)), e_arr (hz 12 (by decide) (by decide)), e_arr (hz 13 (by decide) (by decide))]
  rfl
end

/-! ===== both systems at the start ===== -/
def nts : List Nat := [2, 40, 79, 88, 97, 106, 115, 124, 137, 146, 155, 164, 173, 182, 191, 200, 209, 218, 227]
def kO (a : Nat) : Nat := if nts.contains a then 1 else if (nts.map (fun q => q + 8)).contains a then 2 else if a = 236 then 3 else if a = 133 then 4 else 0
def s00 : Mem := fun a i => if kO a = 1 then (if i = 11 then 5 else if i = 12 then 3 else 0) else if kO a = 2 then ini_arch i else if kO a = 3 then (if i = 6 then -1 else 0) else if kO a = 4 then (if i = 1 then 135 else if i = 2 then 136 else 0) else 0
def t00 : Mem := fun a i => if a = 0 then (if i = 25 then -1 else 0) else if a = 1 then ini_w i else 0
theorem s00_0 {a : Nat} (h : kO a = 0) : Zr s00 a := by
  intro i
  unfold s00
  rw [if_neg (by omega), if_neg (by omega), if_neg (by omega), if_neg (by omega)]
theorem s00_1 {a : Nat} (h : kO a = 1) (i : Int) : s00 a i = if i = 11 then 5 else if i = 12 then 3 else 0 := if_pos h
theorem s00_2 {a : Nat} (h : kO a = 2) (i : Int) : s00 a i = ini_arch i := by
  unfold s00
  rw [if_neg (by omega), if_pos h]
theorem s00_3 (i : Int) : s00 236 i = if i = 6 then -1 else 0 := by
  have h : kO 236 = 3 := by decide +kernel
  unfold s00
  rw [if_neg (by omega), if_neg (by omega), if_pos h]
theorem s00_4 (i : Int) : s00 133 i = if i = 1 then 135 else if i = 2 then 136 else 0 := by
  have h : kO 133 = 4 := by decide +kernel
  unfold s00
  rw [if_neg (by omega), if_neg (by omega), if_neg (by omega), if_pos h]
theorem nts_all : nts.all (fun a => decide (kO a = 1 ∧ kO (a + 8) = 2 ∧ ∀ k : Nat, k < 8 → 1 ≤ k → kO (a + k) = 0)) = true := by decide +kernel
theorem i4_of {a : Nat} (h : a ∈ nts) : I4 s00 a := by
  obtain ⟨h1, h2, h3⟩ := of_decide_eq_true (List.all_eq_true.mp nts_all a h)
  refine ⟨fun i a1 a2 => ?_, ?_, ?_, fun k k1 k2 => s00_0 (h3 k (by omega) k1), s00_2 h2⟩
  · rw [s00_1 h1, if_neg a1, if_neg a2]
  · rw [s00_1 h1, if_pos rfl]
  · rw [s00_1 h1, if_neg (by decide), if_pos rfl]
theorem lay_ks : layX = ks_11 := by decide +kernel
theorem wl_cls {κ : Kp} (h : κ.2.2.2.2 = layX) : wz κ.2.2.2.1 (Lo_11 κ κ.2.2.2.1) = wl κ s00 := by
  have q1 := g_10 (κ := κ) (σ := s00) (a := 0 + 1) (s00_0 (by decide +kernel)) (i4_of (by decide +kernel)) (fun k k1 k2 => s00_0 ((by decide +kernel : ∀ k : Nat, k < 38 → 10 ≤ k → kO (0 + 1 + k) = 0) k k2 k1))
  have q39 := g_10 (κ := κ) (σ := s00) (a := 0 + 39) (s00_0 (by decide +kernel)) (i4_of (by decide +kernel)) (fun k k1 k2 => s00_0 ((by decide +kernel : ∀ k : Nat, k < 38 → 10 ≤ k → kO (0 + 39 + k) = 0) k k2 k1))
  have q77 := g_5 (κ := κ) (σ := s00) (a := 0 + 77) (s00_0 (by decide +kernel)) (fun j hj => i4_of ((by decide +kernel : ∀ j : Nat, j < 6 → 0 + 77 + 2 + 9 * j ∈ nts) j hj))
  have q133 := g_8 (κ := κ) (σ := s00) (a := 0 + 133) (by rw [show (0 + 133 : Nat) = 133 from rfl, s00_4]; rfl) (by rw [show (0 + 133 : Nat) = 133 from rfl, s00_4]; rfl) (s00_0 (by decide +kernel)) (s00_0 (by decide +kernel)) (fun j hj => i4_of ((by decide +kernel : ∀ j : Nat, j < 11 → 0 + 133 + 4 + 9 * j ∈ nts) j hj))
  have q236 := g_7 (κ := κ) (σ := s00) (a := 0 + 236) (fun i hi => by rw [show (0 + 236 : Nat) = 236 from rfl, s00_3, if_neg hi]) (by rw [show (0 + 236 : Nat) = 236 from rfl, s00_3]; rfl) (fun k k1 k2 => s00_0 ((by decide +kernel : ∀ k : Nat, k < 25 → 1 ≤ k → kO (0 + 236 + k) = 0) k k2 k1))
  have q := g_11 (κ := κ) (σ := s00) (a := 0) (fun i _ => s00_0 (by decide +kernel) i) (s00_0 (by decide +kernel) 5) q1.symm q39.symm q77.symm q133.symm q236.symm
  rw [Nat.add_zero] at q
  rw [q, ← lay_ks, ← h]
  exact wz_wl κ s00
theorem wl_mod {κ : Kp} (h : κ.2.2.2.2 = ks_12) : wz κ.2.2.2.1 (Lo_12 κ κ.2.2.2.1) = wl κ t00 := by
  have q := g_12 (κ := κ) (σ := t00) (a := 0) (fun i hi => by
    unfold t00
    rw [if_pos rfl, if_neg hi]) rfl (fun i => by
    unfold t00
    rw [if_neg (by decide), if_pos rfl]) (fun k k1 k2 i => by
    unfold t00
    rw [if_neg (by omega), if_neg (by omega)])
  rw [Nat.add_zero] at q
  rw [q, ← h]
  exact wz_wl κ t00
theorem iw_10 {j : Int} (h : 85 ≤ j ∧ j < 101) : ini_w j = 10 := if_pos h
theorem iw_0 {j : Int} (h : ¬ (85 ≤ j ∧ j < 101)) (h1 : j ≠ 1) (h2 : j ≠ 2) : ini_w j = 0 := by
  unfold ini_w
  rw [if_neg h, if_neg h1, if_neg h2]
theorem ia_10 {j : Int} (h : 0 ≤ j ∧ j < 16) : ini_arch j = 10 := if_pos h
theorem iw_in (j : Int) : 0 ≤ ini_w j ∧ ini_w j ≤ 10 := by
  unfold ini_w
  split
  · decide
  · split
    · decide
    · split
      · decide
      · decide
theorem ia_in (j : Int) : 0 ≤ ini_arch j ∧ ini_arch j ≤ 10 := by
  unfold ini_arch
  split
  · decide
  · decide
theorem s00_wf : WF s00 := by
  intro a i
  have := ia_in i
  unfold s00 InR
  split
  · split
    · decide
    · split
      · decide
      · decide
  · split
    · omega
    · split
      · split
        · decide
        · decide
      · split
        · split
          · decide
          · split
            · decide
            · decide
        · decide
theorem t00_wf : WF t00 := by
  intro a i
  have := iw_in i
  unfold t00 InR
  split
  · split
    · decide
    · decide
  · split
    · omega
    · decide
theorem at4_of {κ : Kp} {a : Nat} (h : κ.2.2.2.2 = layX) (q : isN a) : At4 κ a := ⟨kd_x h q.1, kd_x h q.2.1, kd_x h q.2.2.1, kd_x h q.2.2.2.1, kd_x h q.2.2.2.2.1, kd_x h q.2.2.2.2.2.1, kd_x h q.2.2.2.2.2.2.1, kd_x h q.2.2.2.2.2.2.2.1, kd_x h q.2.2.2.2.2.2.2.2⟩
theorem at10_x {κ : Kp} {a : Nat} (h : κ.2.2.2.2 = layX) (ha : a = 1 ∨ a = 39) : At10 κ a := by
  rcases ha with rfl | rfl
  · exact ⟨kd_x h (by decide +kernel), at4_of h (by decide +kernel), kd_x h (by decide +kernel), ⟨kd_x h (by decide +kernel), kd_x h (by decide +kernel), kd_x h (by decide +kernel), kd_x h (by decide +kernel), kd_x h (by decide +kernel), kd_x h (by decide +kernel), kd_x h (by decide +kernel)⟩, ⟨kd_x h (by decide +kernel), kd_x h (by decide +kernel), kd_x h (by decide +kernel)⟩, ⟨kd_x h (by decide +kernel), kd_x h (by decide +kernel), kd_x h (by decide +kernel), kd_x h (by decide +kernel), kd_x h (by decide +kernel)⟩, ⟨kd_x h (by decide +kernel), kd_x h (by decide +kernel), kd_x h (by decide +kernel), kd_x h (by decide +kernel)⟩, ⟨kd_x h (by decide +kernel), kd_x h (by decide +kernel), kd_x h (by decide +kernel), kd_x h (by decide +kernel), kd_x h (by decide +kernel)⟩, kd_x h (by decide +kernel), kd_x h (by decide +kernel), kd_x h (by decide +kernel)⟩
  · exact ⟨kd_x h (by decide +kernel), at4_of h (by decide +kernel), kd_x h (by decide +kernel), ⟨kd_x h (by decide +kernel), kd_x h (by decide +kernel), kd_x h (by decide +kernel), kd_x h (by decide +kernel), kd_x h (by decide +kernel), kd_x h (by decide +kernel), kd_x h (by decide +kernel)⟩, ⟨kd_x h (by decide +kernel), kd_x h (by decide +kernel), kd_x h (by decide +kernel)⟩, ⟨kd_x h (by decide +kernel), kd_x h (by decide +kernel), kd_x h (by decide +kernel), kd_x h (by decide +kernel), kd_x h (by decide +kernel)⟩, ⟨kd_x h (by decide +kernel), kd_x h (by decide +kernel), kd_x h (by decide +kernel), kd_x h (by decide +kernel)⟩, ⟨kd_x h (by decide +kernel), kd_x h (by decide +kernel), kd_x h (by decide +kernel), kd_x h (by decide +kernel), kd_x h (by decide +kernel)⟩, kd_x h (by decide +kernel), kd_x h (by decide +kernel), kd_x h (by decide +kernel)⟩
theorem at11_x {κ : Kp} (h : κ.2.2.2.2 = layX) : At11 κ 0 := by
  refine ⟨kd_x h (by decide +kernel), at10_x h (Or.inl rfl), at10_x h (Or.inr rfl), ⟨kd_x h (by decide +kernel), kd_x h (by decide +kernel), fun i hi => at4_of h ((by decide +kernel : ∀ i : Nat, i < 6 → isN (0 + 77 + 1 + 1 + 9 * i)) i hi)⟩, ⟨kd_x h (by decide +kernel), kd_x h (by decide +kernel), fun i hi => at4_of h ((by decide +kernel : ∀ i : Nat, i < 11 → isN (0 + 133 + 1 + 3 + 9 * i)) i hi), h⟩, kd_x h (by decide +kernel), ⟨kd_x h (by decide +kernel), kd_x h (by decide +kernel), kd_x h (by decide +kernel), kd_x h (by decide +kernel), kd_x h (by decide +kernel), kd_x h (by decide +kernel), kd_x h (by decide +kernel)⟩, ⟨kd_x h (by decide +kernel), kd_x h (by decide +kernel), kd_x h (by decide +kernel)⟩, ⟨kd_x h (by decide +kernel), kd_x h (by decide +kernel), kd_x h (by decide +kernel), kd_x h (by decide +kernel), kd_x h (by decide +kernel)⟩, ⟨kd_x h (by decide +kernel), kd_x h (by decide +kernel), kd_x h (by decide +kernel), kd_x h (by decide +kernel)⟩, kd_x h (by decide +kernel), kd_x h (by decide +kernel), kd_x h (by decide +kernel), kd_x h (by decide +kernel), kd_x h (by decide +kernel)⟩
theorem at12_x {κ : Kp} (h : κ.2.2.2.2 = ks_12) : At12 κ 0 := by
  unfold At12 kd
  rw [h]
  exact ⟨rfl, rfl, rfl, rfl, rfl, rfl, rfl, rfl, rfl, rfl, rfl, rfl, rfl, rfl⟩
theorem iv_00 : IV s00 t00 := by
  have ew : t00 1 = ini_w := by
    funext i
    unfold t00
    rw [if_neg (by decide), if_pos rfl]
  have z : ∀ {a : Nat} (i : Int), kO a = 0 → s00 a i = 0 := fun i h => s00_0 h i
  have w0 : ∀ j : Int, (3 ≤ j ∧ j < 85) ∨ 101 ≤ j → ini_w j = 0 := fun j h => iw_0 (by omega) (by omega) (by omega)
  refine ⟨⟨[], ?_, ?_⟩, ⟨?_, ?_⟩, ?_, ⟨?_, ?_, ?_, ?_, ?_⟩, ?_⟩
  · rw [ew]
    refine ⟨⟨⟨?_, ?_, ?_, ?_, ?_, ?_, ?_, ?_, ?_⟩, fun b h1 h2 => ?_, fun r h1 h2 => ?_⟩, fun i h1 h2 => ?_, ⟨?_, trivial⟩, ⟨?_, fun i h1 h2 => ?_⟩, ⟨?_, fun i h1 h2 => ?_⟩, ⟨?_, fun v h1 h2 => ?_⟩, ⟨?_, fun i h1 h2 => ?_⟩, ⟨?_, fun i h1 h2 => ?_, fun i h1 h2 => ?_⟩⟩
    · decide +kernel
    · decide +kernel
    · decide +kernel
    · decide +kernel
    · decide +kernel
    · decide +kernel
    · decide +kernel
    · decide +kernel
    · decide +kernel
    · rw [z (a := 1 + 1 + 1) b (by decide +kernel), z (a := 1 + 1 + 2) b (by decide +kernel), z (a := 1 + 1 + 3) b (by decide +kernel), z (a := 1 + 1 + 4) b (by decide +kernel), z (a := 1 + 1 + 5) b (by decide +kernel), z (a := 1 + 1 + 6) b (by decide +kernel), z (a := 1 + 1 + 7) b (by decide +kernel), w0 (65 + b) (by omega), w0 (75 + b) (by omega), w0 (7 + b) (by omega), w0 (17 + b) (by omega), w0 (27 + b) (by omega), w0 (37 + b) (by omega), w0 (47 + b) (by omega)]
      exact ⟨rfl, rfl, rfl, rfl, rfl, rfl, rfl⟩
    · rw [s00_2 (a := 1 + 1 + 8) (by decide +kernel), ia_10 (by omega), iw_10 (by omega)]
    · rw [z (a := 1 + 10) i (by decide +kernel), w0 (248 + i) (by omega)]
    · decide +kernel
    · decide +kernel
    · exact absurd h2 (by rw [w0 60 (by omega)]; omega)
    · decide +kernel
    · exact absurd h2 (by rw [w0 61 (by omega)]; omega)
    · decide +kernel
    · rw [z (a := 1 + 26 + 1) v (by decide +kernel), z (a := 1 + 26 + 2) v (by decide +kernel), w0 (198 + v) (by omega), w0 (210 + v) (by omega)]
      exact ⟨rfl, rfl⟩
    · decide +kernel
    · exact absurd h2 (by rw [w0 63 (by omega)]; omega)
    · decide +kernel
    · rw [z (a := 1 + 35 + 1) i (by decide +kernel), w0 (238 + i) (by omega)]
    · rw [z (a := 1 + 35 + 2) i (by decide +kernel), w0 (242 + i) (by omega)]
  · rw [ew]
    refine ⟨⟨⟨?_, ?_, ?_, ?_, ?_, ?_, ?_, ?_, ?_⟩, fun b h1 h2 => ?_, fun r h1 h2 => ?_⟩, ?_, ⟨?_, trivial⟩, ⟨by decide, by decide, by decide, fun l hl => by cases hl⟩, ⟨?_, fun i h1 h2 => ?_⟩, ⟨?_, fun i h1 h2 => ?_⟩, ⟨?_, ?_, fun v h1 h2 => ?_⟩, ⟨?_, fun i h1 h2 => ?_⟩, ⟨?_, fun i h1 h2 => ?_, fun i h1 h2 => ?_⟩⟩
    · decide +kernel
    · rw [w0 5 (by omega)]
      exact inr_0
    · decide +kernel
    · decide +kernel
    · decide +kernel
    · decide +kernel
    · decide +kernel
    · rw [w0 4 (by omega)]
      exact inr_0
    · decide +kernel
    · rw [w0 (65 + b) (by omega), w0 (75 + b) (by omega), w0 (7 + b) (by omega), w0 (17 + b) (by omega), w0 (27 + b) (by omega), w0 (37 + b) (by omega), w0 (47 + b) (by omega)]
      decide
    · rw [iw_10 (by omega)]
      decide
    · decide +kernel
    · decide +kernel
    · decide +kernel
    · exact absurd h2 (by rw [w0 60 (by omega)]; omega)
    · decide +kernel
    · exact absurd h2 (by rw [w0 61 (by omega)]; omega)
    · decide +kernel
    · decide +kernel
    · rw [w0 (198 + v) (by omega), w0 (210 + v) (by omega), w0 197 (by omega)]
      exact ⟨by decide, ⟨fun q => absurd q (bt_0 ⟨h1, h2⟩), fun q => absurd q (by decide)⟩, by decide, by decide⟩
    · decide +kernel
    · exact absurd h2 (by rw [w0 63 (by omega)]; omega)
    · decide +kernel
    · rw [w0 (238 + i) (by omega)]
      decide
    · exact absurd h2 (by rw [w0 64 (by omega)]; omega)
  · decide +kernel
  · intro h
    exact absurd rfl h
  · exact PastC.none (by decide +kernel) (by decide +kernel)
  · decide +kernel
  · decide +kernel
  · intro i h1 h2
    have e : t00 0 16 = 0 := rfl
    rw [e] at h2
    omega
  · decide +kernel
  · decide +kernel
  · exact Or.inl ⟨by decide +kernel, by decide +kernel⟩

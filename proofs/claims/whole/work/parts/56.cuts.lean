/-! ===== L3: villages: cuts ===== -/
def gCc (w : Int → Int) (a b : Nat) (oth x best : Int) : Int := if iand x (ixor oth (-1)) = 0 ∧ bt ((HR w x.toNat a : Nat) : Int) b = 0 ∧ pc x < best then pc x else best
def gCm (w : Int → Int) (a b : Nat) (x best : Int) : Int := if iand x (ior (ishl 1 a) (ishl 1 b)) = 0 ∧ bt ((HR w x.toNat a : Nat) : Int) b = 0 ∧ pc x < best then pc x else best
theorem min_f {g : Int → Int → Int} {P : Int → Prop} {N : Nat} {b0 : Int} (g1 : ∀ x best : Int, P x → pc x < best → g x best = pc x) (g2 : ∀ x best : Int, ¬ (P x ∧ pc x < best) → g x best = best) : (fo g N 0 b0 = b0 ∨ ∃ x : Nat, x < N ∧ P x ∧ pc x = fo g N 0 b0) ∧ fo g N 0 b0 ≤ b0 ∧ ∀ x : Nat, x < N → P x → fo g N 0 b0 ≤ pc x := by
  have h := fo_in (g := g) (N := (N : Int)) (fun i r => (r = b0 ∨ ∃ x : Nat, (x : Int) < i ∧ P x ∧ pc x = r) ∧ r ≤ b0 ∧ ∀ x : Nat, (x : Int) < i → P x → r ≤ pc x) (fun r i h1 h2 hp => ?_) N b0 0 (by decide) (by omega) ⟨Or.inl rfl, Int.le_refl _, fun x hx => by omega⟩
  · obtain ⟨a1, a2, a3⟩ := h
    refine ⟨a1.imp id (fun ⟨x, x1, x2⟩ => ⟨x, by omega, x2⟩), a2, fun x hx => a3 x (by omega)⟩
  · obtain ⟨a1, a2, a3⟩ := hp
    have ei : ((i.toNat : Nat) : Int) = i := by omega
    rcases Classical.em (P i ∧ pc i < r) with q | q
    · rw [g1 i r q.1 q.2]
      refine ⟨Or.inr ⟨i.toNat, by omega, by rw [ei]; exact q.1, by rw [ei]⟩, by omega, fun x hx hP => ?_⟩
      by_cases e : (x : Int) = i
      · rw [e]
        exact Int.le_refl _
      · have := a3 x (by omega) hP
        omega
    · rw [g2 i r q]
      refine ⟨a1.imp id (fun ⟨x, x1, x2⟩ => ⟨x, by omega, x2⟩), a2, fun x hx hP => ?_⟩
      by_cases e : (x : Int) = i
      · rw [e] at hP ⊢
        by_cases c : pc i < r
        · exact absurd ⟨hP, c⟩ q
        · omega
      · exact a3 x (by omega) hP
theorem gb_e {x k : Nat} (hx : x < 2147483648) : (Int32.ofInt (x : Int)).toBitVec.getLsbD k = x.testBit k := by
  rw [← BitVec.testBit_toNat, nv_ofn hx]
theorem n_sub {x o : Nat} (hx : x < 4096) (ho : o < 4096) : iand (x : Int) (ixor (o : Int) (-1)) = 0 ↔ Sub x o := by
  obtain ⟨y, y1, y2, y3⟩ := n_andn (x := x) (s := o) (by omega)
  rw [y1]
  constructor
  · intro h k hk
    have e : y = 0 := by omega
    by_cases k32 : k < 32
    · have h3 := y3 k k32
      rw [e, Nat.zero_testBit, gb_e (by omega), hk, Bool.true_and] at h3
      cases ho : o.testBit k with
      | true => rfl
      | false =>
        rw [ho] at h3
        cases h3
    · rw [bit_hi hx (by omega)] at hk
      cases hk
  · intro h
    have e : y = 0 := by
      apply Nat.eq_of_testBit_eq
      intro k
      rw [Nat.zero_testBit]
      by_cases k32 : k < 32
      · rw [y3 k k32, gb_e (by omega)]
        cases hk : x.testBit k with
        | true => rw [h k hk]; rfl
        | false => rfl
      · exact bit_hi (by omega) (by omega)
    rw [e]
    rfl
section
variable {s t : Mem}
theorem F_sub (h : IV s t) {o : Nat} (ho : o < 12) : Sub (t 1 (210 + (o : Int))).toNat (t 1 197).toNat := by
  obtain ⟨v1, v2, v3⟩ := h.vil.2
  have hv := v3 o (by omega) (by omega)
  have e1 : ((t 1 (210 + (o : Int))).toNat : Int) = t 1 (210 + (o : Int)) := by omega
  have e2 : ((t 1 197).toNat : Int) = t 1 197 := by omega
  have hq := hv.2.2.2
  rw [← e1, ← e2, n_iand (by omega) (by omega)] at hq
  have hq2 : (t 1 (210 + (o : Int))).toNat &&& (t 1 197).toNat = (t 1 (210 + (o : Int))).toNat := by omega
  intro k hk
  rw [← hq2, Nat.testBit_and, Bool.and_eq_true] at hk
  exact hk.2
theorem fN_T (h : IV s t) {x o : Nat} (hx : x < 4096) (ho : o < 12) : fN (t 1) x o = fN (t 1) (x &&& (t 1 197).toNat) o := by
  obtain ⟨v1, v2, v3⟩ := h.vil.2
  have hl : x &&& (t 1 197).toNat ≤ x := Nat.and_le_left
  obtain ⟨a1, a2, a3⟩ := fN_e h.vil.2 (sil := x) ho
  obtain ⟨b1, b2, b3⟩ := fN_e h.vil.2 (sil := x &&& (t 1 197).toNat) ho
  apply Nat.eq_of_testBit_eq
  intro k
  by_cases k32 : k < 32
  · rw [a3 k k32, b3 k k32, gb_e (by omega), gb_e (by omega), Nat.testBit_and]
    cases hk : (t 1 (210 + (o : Int))).toNat.testBit k with
    | true => rw [F_sub h ho k hk, Bool.and_true]
    | false => rfl
  · rw [bit_hi a2 (by omega), bit_hi b2 (by omega)]
theorem HR_T (h : IV s t) {x v : Nat} (hx : x < 4096) (hv : v < 12) : HR (t 1) x v = HR (t 1) (x &&& (t 1 197).toNat) v := by
  have h1 := HR_hd h (sil := x) hv
  have h2 := HR_hd h (sil := x &&& (t 1 197).toNat) hv
  have cl : ∀ C : Nat, Cls (fN (t 1) x) C ↔ Cls (fN (t 1) (x &&& (t 1 197).toNat)) C := by
    intro C
    constructor
    · intro q o ho hc
      rw [← fN_T h hx ho]
      exact q o ho hc
    · intro q o ho hc
      rw [fN_T h hx ho]
      exact q o ho hc
  refine Hd.eq h1 ⟨h2.1, (cl _).mpr h2.2.1, fun C hC hCl => h2.2.2.1 C hC ((cl C).mp hCl), h2.2.2.2⟩
theorem c_cuts (h : IV s t) {a b : Nat} (ha : a < 12) {oth : Int} : f_X9_fewestSilent_22 27 a b oth (fun v3 s4 => some (v3, s4)) FU 12 0 s = some (fo (gCc (t 1) a b oth) 4096 0 12, s) := by
  refine (fold1 (F := fun n' r x s => f_X9_fewestSilent_22 27 a b oth (fun v3 s4 => some (v3, s4)) n' r x s) (k := fun v3 s4 => some (v3, s4)) (s := s) (N := 4096) (g := gCc (t 1) a b oth) (fun _ _ => True) (fun m r x h1 h2 _ => ⟨?_, trivial⟩) (fun m r _ => ?_) 4096 FU 12 0 (fu_lt (by omega)) (by decide) (by decide) trivial).1
  · show f_X9_fewestSilent_22 _ _ _ _ _ _ _ _ _ = _
    have ex : ((x.toNat : Nat) : Int) = x := by omega
    have hh := c_hearing h (sil := x.toNat) (v := a) ha
    rw [ex] at hh
    have eb : iand (ishr ((HR (t 1) x.toNat a : Nat) : Int) (b : Int)) 1 = bt ((HR (t 1) x.toNat a : Nat) : Int) (b : Int) := rfl
    rw [f_X9_fewestSilent_22, if_pos h2, jn_s, wr_n (x := x + 1) (by omega), bc_e, bd_s, bcv_e (x := x) (by omega), bd_e hh, bc_e, bd_s, bcv_e (x := x) (by omega), eb]
    unfold gCc
    by_cases c1 : iand x (ixor oth (-1)) = 0
    · rw [if_pos c1]
      by_cases c2 : pc x < r
      · rw [if_pos c2]
        by_cases c3 : bt ((HR (t 1) x.toNat a : Nat) : Int) (b : Int) = 0
        · rw [if_pos c3, if_pos ⟨c1, c3, c2⟩]
        · rw [if_neg c3, if_neg (fun z => c3 z.2.1)]
      · rw [if_neg c2, if_neg (fun z => c2 z.2.2)]
    · rw [if_neg c1, if_neg (fun z => c1 z.1)]
  · show f_X9_fewestSilent_22 _ _ _ _ _ _ _ _ _ = _
    rw [f_X9_fewestSilent_22, if_neg (by decide)]
theorem m_cuts (h : IV s t) {a b : Nat} (ha : a < 12) : f_X12_cuts_48 0 a b (fun v3 s4 => some (v3, s4)) FU 100000000 0 t = some (fo (gCm (t 1) a b) 4096 0 100000000, t) := by
  refine (fold1 (F := fun n' r x s => f_X12_cuts_48 0 a b (fun v3 s4 => some (v3, s4)) n' r x s) (k := fun v3 s4 => some (v3, s4)) (s := t) (N := 4096) (g := gCm (t 1) a b) (fun _ _ => True) (fun m r x h1 h2 _ => ⟨?_, trivial⟩) (fun m r _ => ?_) 4096 FU 100000000 0 (fu_lt (by omega)) (by decide) (by decide) trivial).1
  · show f_X12_cuts_48 _ _ _ _ _ _ _ _ = _
    have ex : ((x.toNat : Nat) : Int) = x := by omega
    have hh := m_heard h (sil := x.toNat) (v := a) ha
    have hc := m_count0 (t := t) (x := x.toNat) (by omega)
    rw [ex] at hh hc
    have eb : iand (ishr ((HR (t 1) x.toNat a : Nat) : Int) (b : Int)) 1 = bt ((HR (t 1) x.toNat a : Nat) : Int) (b : Int) := rfl
    rw [f_X12_cuts_48, if_pos h2, jn_s, wr_n (x := x + 1) (by omega), bd_e hc, bd_e hh, bd_e hc, eb]
    unfold gCm
    by_cases c1 : iand x (ior (ishl 1 a) (ishl 1 b)) = 0
    · rw [if_pos c1]
      by_cases c2 : pc x < r
      · rw [if_pos c2]
        by_cases c3 : bt ((HR (t 1) x.toNat a : Nat) : Int) (b : Int) = 0
        · rw [if_pos c3, if_pos ⟨c1, c3, c2⟩]
        · rw [if_neg c3, if_neg (fun z => c3 z.2.1)]
      · rw [if_neg c2, if_neg (fun z => c2 z.2.2)]
    · rw [if_neg c1, if_neg (fun z => c1 z.1)]
  · show f_X12_cuts_48 _ _ _ _ _ _ _ _ = _
    rw [f_X12_cuts_48, if_neg (by decide)]
theorem cuts_same (h : IV s t) {a b : Nat} (ha : a < 12) (hb : b < 12) (hab : a ≠ b) (hnt : (t 1 (210 + (a : Int))).toNat.testBit b = false) : fo (gCc (t 1) a b (iand (t 1 197) (ixor (ior (ishl 1 a) (ishl 1 b)) (-1)))) 4096 0 12 = fo (gCm (t 1) a b) 4096 0 100000000 := by
  obtain ⟨v1, v2, v3⟩ := h.vil.2
  have eT : ((t 1 197).toNat : Int) = t 1 197 := by omega
  have e2 : ior (ishl 1 (a : Int)) (ishl 1 (b : Int)) = ((2 ^ a ||| 2 ^ b : Nat) : Int) := by
    have := pow_lt ha
    have := pow_lt hb
    rw [shl_e (by omega), shl_e (by omega), n_ior (by omega) (by omega)]
  have hA2 : 2 ^ a ||| 2 ^ b < 4096 := or_lt (pow_lt ha) (pow_lt hb)
  have bA2 : ∀ k : Nat, (2 ^ a ||| 2 ^ b).testBit k = true ↔ (a = k ∨ b = k) := by
    intro k
    rw [Nat.testBit_or, Bool.or_eq_true, pow_bit, pow_bit]
  obtain ⟨O, o1, o2, o3⟩ := n_andn (x := (t 1 197).toNat) (s := 2 ^ a ||| 2 ^ b) (by omega)
  rw [eT] at o1
  rw [e2, o1]
  have hO : O < 4096 := by omega
  have bO : ∀ k : Nat, O.testBit k = true ↔ ((t 1 197).toNat.testBit k = true ∧ a ≠ k ∧ b ≠ k) := by
    intro k
    by_cases k32 : k < 32
    · rw [o3 k k32, gb_e (by omega), Bool.and_eq_true, Bool.not_eq_true']
      constructor
      · intro ⟨q1, q2⟩
        refine ⟨q1, fun q => ?_, fun q => ?_⟩
        · rw [(bA2 k).mpr (Or.inl q)] at q2
          cases q2
        · rw [(bA2 k).mpr (Or.inr q)] at q2
          cases q2
      · intro ⟨q1, q2, q3⟩
        refine ⟨q1, eq_false_of_ne_true (fun q => ?_)⟩
        rcases (bA2 k).mp q with z | z
        · exact q2 z
        · exact q3 z
    · constructor
      · intro q
        rw [bit_hi hO (by omega)] at q
        cases q
      · intro ⟨q, _, _⟩
        rw [bit_hi (x := (t 1 197).toNat) (by omega) (by omega)] at q
        cases q
  -- what may be silent, on both sides
  have cP : ∀ x : Nat, x < 4096 → (iand (x : Int) (ixor (O : Int) (-1)) = 0 ↔ Sub x O) := fun x hx => n_sub hx hO
  have mP : ∀ x : Nat, x < 4096 → (iand (x : Int) (ior (ishl 1 (a : Int)) (ishl 1 (b : Int))) = 0 ↔ (x.testBit a = false ∧ x.testBit b = false)) := by
    intro x hx
    rw [e2, n_iand (by omega) (by omega)]
    constructor
    · intro q
      have q0 : x &&& (2 ^ a ||| 2 ^ b) = 0 := by omega
      have z : ∀ k : Nat, (a = k ∨ b = k) → x.testBit k = false := by
        intro k hk
        have : (x &&& (2 ^ a ||| 2 ^ b)).testBit k = false := by rw [q0, Nat.zero_testBit]
        rw [Nat.testBit_and, (bA2 k).mpr hk, Bool.and_true] at this
        exact this
      exact ⟨z a (Or.inl rfl), z b (Or.inr rfl)⟩
    · intro ⟨q1, q2⟩
      have q0 : x &&& (2 ^ a ||| 2 ^ b) = 0 := by
        apply Nat.eq_of_testBit_eq
        intro k
        rw [Nat.testBit_and, Nat.zero_testBit]
        by_cases qk : (2 ^ a ||| 2 ^ b).testBit k = true
        · rcases (bA2 k).mp qk with z | z
          · rw [← z, q1]
            rfl
          · rw [← z, q2]
            rfl
        · rw [eq_false_of_ne_true qk, Bool.and_false]
      rw [q0]
      rfl
  have toN : ∀ x : Nat, ((x : Int)).toNat = x := fun x => Int.toNat_natCast x
  obtain ⟨a1, a2, a3⟩ := min_f (g := gCc (t 1) a b (O : Int)) (P := fun x => iand x (ixor (O : Int) (-1)) = 0 ∧ bt ((HR (t 1) x.toNat a : Nat) : Int) b = 0) (N := 4096) (b0 := 12) (fun x best q c => if_pos ⟨q.1, q.2, c⟩) (fun x best q => if_neg (fun z => q ⟨⟨z.1, z.2.1⟩, z.2.2⟩))
  obtain ⟨d1, d2, d3⟩ := min_f (g := gCm (t 1) a b) (P := fun x => iand x (ior (ishl 1 a) (ishl 1 b)) = 0 ∧ bt ((HR (t 1) x.toNat a : Nat) : Int) b = 0) (N := 4096) (b0 := 100000000) (fun x best q c => if_pos ⟨q.1, q.2, c⟩) (fun x best q => if_neg (fun z => q ⟨⟨z.1, z.2.1⟩, z.2.2⟩))
  generalize fo (gCc (t 1) a b (O : Int)) 4096 0 12 = r1 at a1 a2 a3 ⊢
  generalize fo (gCm (t 1) a b) 4096 0 100000000 = r2 at d1 d2 d3 ⊢
  -- all others silent: nothing is heard
  have hOg : iand (O : Int) (ixor (O : Int) (-1)) = 0 ∧ bt ((HR (t 1) (O : Int).toNat a : Nat) : Int) b = 0 := by
    refine ⟨(cP O hO).mpr (fun _ h => h), ?_⟩
    rw [toN]
    have hd := HR_hd h (sil := O) ha
    have hs := hd.2.2.1 (2 ^ a) (pow_bit.mpr rfl) (fun o ho hc k hk => by
      have eo := pow_bit.mp hc
      subst eo
      obtain ⟨f1, f2, f3⟩ := fN_e h.vil.2 (sil := O) ha
      by_cases k32 : k < 32
      · rw [f3 k k32, gb_e (by omega), Bool.and_eq_true, Bool.not_eq_true'] at hk
        have hT := F_sub h ha k hk.1
        by_cases ka : a = k
        · exact pow_bit.mpr ka
        · by_cases kb : b = k
          · exfalso
            rw [← kb, hnt] at hk
            cases hk.1
          · have := (bO k).mpr ⟨hT, ka, kb⟩
            rw [hk.2] at this
            cases this
      · rw [bit_hi f2 (by omega)] at hk
        cases hk)
    rw [n_bt (by have := hd.2.2.2; omega) (by omega), if_neg]
    intro q
    exact hab (pow_bit.mp (hs b q))
  have hO11 : pc (O : Int) ≤ 11 := by
    rw [pc_cd hO]
    have h1 := cdn_le 12 O
    by_cases q : cdn 12 4095 ≤ cdn 12 O
    · exfalso
      have e := cd_eq hO (show 4095 < 4096 by decide) (fun k hk => by
        by_cases k12 : k < 12
        · have e : (4095 : Nat) = 2 ^ 12 - 1 := rfl
          rw [e, Nat.testBit_two_pow_sub_one]
          exact decide_eq_true k12
        · rw [bit_hi hO (by omega)] at hk
          cases hk) q
      have : O.testBit a = true := by
        rw [e]
        have e : (4095 : Nat) = 2 ^ 12 - 1 := rfl
        rw [e, Nat.testBit_two_pow_sub_one]
        exact decide_eq_true ha
      exact ((bO a).mp this).2.1 rfl
    · have : cdn 12 4095 = 12 := rfl
      omega
  have r1O := a3 O hO hOg
  have le21 : ∀ x : Nat, x < 4096 → iand (x : Int) (ixor (O : Int) (-1)) = 0 ∧ bt ((HR (t 1) (x : Int).toNat a : Nat) : Int) b = 0 → r2 ≤ pc (x : Int) := by
    intro x hx q
    refine d3 x hx ⟨(mP x hx).mpr ?_, q.2⟩
    have hs := (cP x hx).mp q.1
    refine ⟨eq_false_of_ne_true (fun z => ?_), eq_false_of_ne_true (fun z => ?_)⟩
    · exact ((bO a).mp (hs a z)).2.1 rfl
    · exact ((bO b).mp (hs b z)).2.2 rfl
  have le12 : ∀ x : Nat, x < 4096 → iand (x : Int) (ior (ishl 1 (a : Int)) (ishl 1 (b : Int))) = 0 ∧ bt ((HR (t 1) (x : Int).toNat a : Nat) : Int) b = 0 → r1 ≤ pc (x : Int) := by
    intro x hx q
    obtain ⟨qa, qb⟩ := (mP x hx).mp q.1
    have hle : x &&& (t 1 197).toNat ≤ x := Nat.and_le_left
    have hx' : x &&& (t 1 197).toNat < 4096 := by omega
    have hsub : Sub (x &&& (t 1 197).toNat) x := fun k hk => by
      rw [Nat.testBit_and, Bool.and_eq_true] at hk
      exact hk.1
    have hr := a3 (x &&& (t 1 197).toNat) hx' ⟨(cP _ hx').mpr (fun k hk => by
      rw [Nat.testBit_and, Bool.and_eq_true] at hk
      refine (bO k).mpr ⟨hk.2, fun z => ?_, fun z => ?_⟩
      · rw [← z, qa] at hk
        cases hk.1
      · rw [← z, qb] at hk
        cases hk.1), by
      have q2 := q.2
      rw [toN, HR_T h hx ha] at q2
      rw [toN]
      exact q2⟩
    have hc := (cdn_sub hsub 12).1
    rw [pc_cd hx'] at hr
    rw [pc_cd hx]
    omega
  have hr2 : r2 ≤ r1 := by
    rcases a1 with q | ⟨x, x1, x2, x3⟩
    · omega
    · rw [← x3]
      exact le21 x x1 x2
  have hr1 : r1 ≤ r2 := by
    rcases d1 with q | ⟨x, x1, x2, x3⟩
    · omega
    · rw [← x3]
      exact le12 x x1 x2
  omega
theorem k_cuts (h : IV s t) (a b : Int) : Sim (f_X11_cuts 0 a b s) (f_X12_cuts 0 a b t) := by
  unfold f_X11_cuts f_X12_cuts f_X9_talk
  simp only [Nat.zero_add, Nat.reduceAdd]
  rw [bd_e (m_isTold h a), bI_z]
  by_cases c0 : a = b
  · subst c0
    rw [if_pos rfl]
    by_cases c : isV (t 1) a
    · rw [if_pos c, bd_e (m_isTold h a), bI_z, if_pos c, if_pos rfl]
      exact Sim.rf h _
    · rw [if_neg c]
      exact Sim.rf h _
  · rw [if_neg c0, bd_e (c_isTold h a), bI_z]
    by_cases ca : isV (t 1) a
    · rw [if_pos ca, if_pos ca, bd_e (c_isTold h b), bd_e (m_isTold h b), bI_z, bI_z]
      by_cases cb : isV (t 1) b
      · obtain ⟨m, rfl⟩ : ∃ m : Nat, a = (m : Int) := ⟨a.toNat, by have := ca.1; omega⟩
        obtain ⟨l, rfl⟩ : ∃ l : Nat, b = (l : Int) := ⟨b.toNat, by have := cb.1; omega⟩
        have hm := ca.1
        have hl := cb.1
        have e29 : s 29 (m : Int) = t 1 (210 + (m : Int)) := (h.vil.1.2 m (by omega) (by omega)).2
        have hF := (h.vil.2.2.2 m (by omega) (by omega)).2.2.1
        have eF : (((t 1 (210 + (m : Int))).toNat : Nat) : Int) = t 1 (210 + (m : Int)) := by omega
        have eb : iand (ishr (t 1 (210 + (m : Int))) (l : Int)) 1 = if (t 1 (210 + (m : Int))).toNat.testBit l = true then 1 else 0 := by
          have := n_bt (x := (t 1 (210 + (m : Int))).toNat) (k := l) (by omega) (by omega)
          rw [eF] at this
          exact this
        rw [if_pos cb, if_pos cb, bd_e (c_isTold h _), bI_z, if_pos ca, bd_e (c_isTold h _), bI_z, if_pos cb, gd_t (by omega), if_neg c0, wr_n (x := 210 + (m : Int)) (by omega), gd_t (by omega), e29]
        by_cases q : (t 1 (210 + (m : Int))).toNat.testBit l = true
        · rw [eb.trans (if_pos q), if_pos rfl, if_pos rfl, bd_s, if_neg (by decide)]
          exact Sim.rf h _
        · rw [eb.trans (if_neg q), if_neg (by decide), if_neg (by decide), bd_s, if_pos rfl, jn_s, m_cuts h (by omega)]
          unfold f_X9_fewestSilent
          rw [bd_e (c_allTold h), jn_s, c_cuts h (by omega), bd_s]
          exact Sim.eq rfl rfl (cuts_same h (by omega) (by omega) (by omega) (eq_false_of_ne_true q)) h
      · rw [if_neg cb, if_neg cb]
        exact Sim.rf h _
    · rw [if_neg ca, if_neg ca]
      exact Sim.rf h _
end

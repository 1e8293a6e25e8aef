/-! ===== the law: its loop ===== -/
section
variable {κ κ' : Kp} {p : Program} {e : Env} {s : State} {m : MethodId} {below : List Frame} {meth : Method} {c : Code} {b L : Nat} {xs : Nat → Int32}
theorem law_sw (hC : LC κ κ' p s m meth c b L xs) (hA : At11 κ 0) (hA' : At12 κ' 0) {σ τ : Mem} {i v : Int} (hi : 0 ≤ i ∧ i + 6 ≤ (L : Int)) (h : IV σ τ) (hw : WF σ) (hw' : WF τ) (hv : InR v) (k : ∀ σ1 τ1 : Mem, IV σ1 τ1 → WF σ1 → WF τ1 → LW κ κ' p e s m below meth c b 1246 [some (.ref b), some (vr κ 0), some (vr κ' 0), some (vi i)] [] σ1 τ1) : LW κ κ' p e s m below meth c b 33 [some (.ref b), some (vr κ 0), some (vr κ' 0), some (vi i)] [vi v] σ τ := by
  by_cases o : v < 0 ∨ 35 < v
  · exact y_tabOut hC d_law_33 hv o rfl (k σ τ h hw hw')
  · have o1 : ¬ v < 0 := fun q => o (Or.inl q)
    have o2 : ¬ 35 < v := fun q => o (Or.inr q)
    rcases (show v = 0 ∨ v = 1 ∨ v = 2 ∨ v = 3 ∨ v = 4 ∨ v = 5 ∨ v = 6 ∨ v = 7 ∨ v = 8 ∨ v = 9 ∨ v = 10 ∨ v = 11 ∨ v = 12 ∨ v = 13 ∨ v = 14 ∨ v = 15 ∨ v = 16 ∨ v = 17 ∨ v = 18 ∨ v = 19 ∨ v = 20 ∨ v = 21 ∨ v = 22 ∨ v = 23 ∨ v = 24 ∨ v = 25 ∨ v = 26 ∨ v = 27 ∨ v = 28 ∨ v = 29 ∨ v = 30 ∨ v = 31 ∨ v = 32 ∨ v = 33 ∨ v = 34 ∨ v = 35 by omega) with rfl | rfl | rfl | rfl | rfl | rfl | rfl | rfl | rfl | rfl | rfl | rfl | rfl | rfl | rfl | rfl | rfl | rfl | rfl | rfl | rfl | rfl | rfl | rfl | rfl | rfl | rfl | rfl | rfl | rfl | rfl | rfl | rfl | rfl | rfl | rfl
    · exact y_tabIn (off := 159) hC d_law_33 hv o1 o2 rfl rfl (cs_0 hC hA hA' hi h hw hw' k)
    · exact y_tabIn (off := 182) hC d_law_33 hv o1 o2 rfl rfl (cs_1 hC hA hA' hi h hw hw' k)
    · exact y_tabIn (off := 225) hC d_law_33 hv o1 o2 rfl rfl (cs_2 hC hA hA' hi h hw hw' k)
    · exact y_tabIn (off := 268) hC d_law_33 hv o1 o2 rfl rfl (cs_3 hC hA hA' hi h hw hw' k)
    · exact y_tabIn (off := 291) hC d_law_33 hv o1 o2 rfl rfl (cs_4 hC hA hA' hi h hw hw' k)
    · exact y_tabIn (off := 314) hC d_law_33 hv o1 o2 rfl rfl (cs_5 hC hA hA' hi h hw hw' k)
    · exact y_tabIn (off := 347) hC d_law_33 hv o1 o2 rfl rfl (cs_6 hC hA hA' hi h hw hw' k)
    · exact y_tabIn (off := 370) hC d_law_33 hv o1 o2 rfl rfl (cs_7 hC hA hA' hi h hw hw' k)
    · exact y_tabIn (off := 433) hC d_law_33 hv o1 o2 rfl rfl (cs_8 hC hA hA' hi h hw hw' k)
    · exact y_tabIn (off := 456) hC d_law_33 hv o1 o2 rfl rfl (cs_9 hC hA hA' hi h hw hw' k)
    · exact y_tabIn (off := 479) hC d_law_33 hv o1 o2 rfl rfl (cs_10 hC hA hA' hi h hw hw' k)
    · exact y_tabIn (off := 502) hC d_law_33 hv o1 o2 rfl rfl (cs_11 hC hA hA' hi h hw hw' k)
    · exact y_tabIn (off := 535) hC d_law_33 hv o1 o2 rfl rfl (cs_12 hC hA hA' hi h hw hw' k)
    · exact y_tabIn (off := 568) hC d_law_33 hv o1 o2 rfl rfl (cs_13 hC hA hA' hi h hw hw' k)
    · exact y_tabIn (off := 601) hC d_law_33 hv o1 o2 rfl rfl (cs_14 hC hA hA' hi h hw hw' k)
    · exact y_tabIn (off := 634) hC d_law_33 hv o1 o2 rfl rfl (cs_15 hC hA hA' hi h hw hw' k)
    · exact y_tabIn (off := 667) hC d_law_33 hv o1 o2 rfl rfl (cs_16 hC hA hA' hi h hw hw' k)
    · exact y_tabIn (off := 690) hC d_law_33 hv o1 o2 rfl rfl (cs_17 hC hA hA' hi h hw hw' k)
    · exact y_tabIn (off := 713) hC d_law_33 hv o1 o2 rfl rfl (cs_18 hC hA hA' hi h hw hw' k)
    · exact y_tabIn (off := 756) hC d_law_33 hv o1 o2 rfl rfl (cs_19 hC hA hA' hi h hw hw' k)
    · exact y_tabIn (off := 779) hC d_law_33 hv o1 o2 rfl rfl (cs_20 hC hA hA' hi h hw hw' k)
    · exact y_tabIn (off := 812) hC d_law_33 hv o1 o2 rfl rfl (cs_21 hC hA hA' hi h hw hw' k)
    · exact y_tabIn (off := 845) hC d_law_33 hv o1 o2 rfl rfl (cs_22 hC hA hA' hi h hw hw' k)
    · exact y_tabIn (off := 868) hC d_law_33 hv o1 o2 rfl rfl (cs_23 hC hA hA' hi h hw hw' k)
    · exact y_tabIn (off := 901) hC d_law_33 hv o1 o2 rfl rfl (cs_24 hC hA hA' hi h hw hw' k)
    · exact y_tabIn (off := 934) hC d_law_33 hv o1 o2 rfl rfl (cs_25 hC hA hA' hi h hw hw' k)
    · exact y_tabIn (off := 957) hC d_law_33 hv o1 o2 rfl rfl (cs_26 hC hA hA' hi h hw hw' k)
    · exact y_tabIn (off := 990) hC d_law_33 hv o1 o2 rfl rfl (cs_27 hC hA hA' hi h hw hw' k)
    · exact y_tabIn (off := 1013) hC d_law_33 hv o1 o2 rfl rfl (cs_28 hC hA hA' hi h hw hw' k)
    · exact y_tabIn (off := 1036) hC d_law_33 hv o1 o2 rfl rfl (cs_29 hC hA hA' hi h hw hw' k)
    · exact y_tabIn (off := 1069) hC d_law_33 hv o1 o2 rfl rfl (cs_30 hC hA hA' hi h hw hw' k)
    · exact y_tabIn (off := 1092) hC d_law_33 hv o1 o2 rfl rfl (cs_31 hC hA hA' hi h hw hw' k)
    · exact y_tabIn (off := 1115) hC d_law_33 hv o1 o2 rfl rfl (cs_32 hC hA hA' hi h hw hw' k)
    · exact y_tabIn (off := 1138) hC d_law_33 hv o1 o2 rfl rfl (cs_33 hC hA hA' hi h hw hw' k)
    · exact y_tabIn (off := 1151) hC d_law_33 hv o1 o2 rfl rfl (cs_34 hC hA hA' hi h hw hw' k)
    · exact y_tabIn (off := 1190) hC d_law_33 hv o1 o2 rfl rfl (cs_35 hC hA hA' hi h hw hw' k)
theorem law_loop (hC : LC κ κ' p s m meth c b L xs) (hA : At11 κ 0) (hA' : At12 κ' 0) : ∀ (n : Nat) (i : Int) (σ τ : Mem), 0 ≤ i → i ≤ (L : Int) → (L : Int) < i + 6 * (n : Int) → IV σ τ → WF σ → WF τ → LW κ κ' p e s m below meth c b 18 [some (.ref b), some (vr κ 0), some (vr κ' 0), some (vi i)] [] σ τ := by
  have hL := hC.2.2.2.2.2.1
  intro n
  induction n with
  | zero =>
    intro i σ τ h1 h2 h3
    omega
  | succ n ih =>
    intro i σ τ h1 h2 h3 h hw hw'
    refine y_iload_n (v := i) hC d_law_18 rfl ?_
    refine y_aload_n hC d_law_19 rfl ?_
    refine y_slen hC d_law_20 ?_
    refine y_bipush hC d_law_21 rfl ?_
    refine y_isub (z := (L : Int) - 6) hC d_law_23 rfl ?_
    refine y_gt hC d_law_24 (by unfold InR; omega) (by unfold InR; omega) (fun _ => ?_) (fun g => ?_)
    · refine y_iconst hC d_law_1252 ?_
      exact y_end hC d_law_1253
    · refine y_aload_n hC d_law_27 rfl ?_
      refine y_iload_n (v := i) hC d_law_28 rfl ?_
      refine y_sld (j := i) hC (by omega) d_law_29 ?_
      refine y_bipush hC d_law_30 rfl ?_
      refine y_iand hC d_law_32 ?_
      refine law_sw hC hA hA' ⟨h1, by omega⟩ h hw hw' (inr_i32 _) (fun σ1 τ1 g1 g2 g3 => ?_)
      refine y_iinc (v := i) (w := i + 6) (ls' := [some (.ref b), some (vr κ 0), some (vr κ' 0), some (vi (i + 6))]) hC d_law_1246 rfl rfl rfl rfl ?_
      refine y_goto hC d_law_1249 ?_
      exact ih (i + 6) σ1 τ1 (by omega) (by omega) (by omega) g1 g2 g3
end

theorem zL6 {L : Nat} (hL : L ≤ 3072) : (nI L - 6 : Int32).toInt = (L : Int) - 6 := by
  rw [Int32.toInt_sub, nI_toInt (by omega)]
  have e6 : (6 : Int32).toInt = 6 := by decide
  rw [e6]
  exact Int.bmod_eq_of_le (by omega) (by omega)
set_option maxHeartbeats 4000000 in
set_option maxRecDepth 100000 in
/-- the law's loop, over a relation that every call keeps -/
theorem law_loop {α : Type} {C : zK} {A B : Nat → Nat} {cA : Nat → ClassId} {E : α → Prop} {o : Option α} {b L : Nat} {xs : Nat → Int32} (hC : zOK C (wL A B cA) cL_law RL 4 13 494) (hz : zScr C b L xs) (hL : L ≤ 3072) {Rel : zS → zS → Prop} (hA : okAll Rel)
    (hEnd : ∀ (i : Nat) (σ τ : zS), zG C (wL A B cA) 4 E o 1383 [(0, .ref b), (1, .ref (A 0)), (2, .ref (B 0)), (3, .int (Int32.ofNat i))] [] (σ, τ)) :
    ∀ (n i : Nat) (σ τ : zS), L ≤ i + n → i ≤ L + 6 → Rel σ τ → zG C (wL A B cA) 4 E o 18 [(0, .ref b), (1, .ref (A 0)), (2, .ref (B 0)), (3, .int (Int32.ofNat i))] [] (σ, τ) := by
  intro n
  induction n with
  | zero =>
    intro i σ τ h1 h2 hR
    have hgt : nI L - 6 < Int32.ofNat i := by
      rw [Int32.lt_iff_toInt_lt, zL6 hL, Int32.toInt_ofNat_of_lt (by omega)]
      omega
    refine gg_iload_n (pc := 18) hC dL_law_18 (i := 3) rfl 3 rfl ?_
    refine gg_aload_n (pc := 19) hC dL_law_19 (i := 0) rfl 0 rfl ?_
    refine gg_slL (pc := 20) hC hz dL_law_20 ?_
    refine gg_bipush (pc := 21) hC dL_law_21 (x := 6) rfl ?_
    refine gg_isub (pc := 23) hC dL_law_23 ?_
    refine gg_prog (o' := if nI L - 6 < Int32.ofNat i then o else none) (if_pos hgt).symm ?_
    exact gg_icmp_gt (pc := 24) hC dL_law_24 (tgt := 1383) rfl (fun _ => hEnd i σ τ) (fun h => absurd hgt h)
  | succ n ih =>
    intro i σ τ h1 h2 hR
    refine gg_iload_n (pc := 18) hC dL_law_18 (i := 3) rfl 3 rfl ?_
    refine gg_aload_n (pc := 19) hC dL_law_19 (i := 0) rfl 0 rfl ?_
    refine gg_slL (pc := 20) hC hz dL_law_20 ?_
    refine gg_bipush (pc := 21) hC dL_law_21 (x := 6) rfl ?_
    refine gg_isub (pc := 23) hC dL_law_23 ?_
    by_cases hgt : nI L - 6 < Int32.ofNat i
    · refine gg_prog (o' := if nI L - 6 < Int32.ofNat i then o else none) (if_pos hgt).symm ?_
      exact gg_icmp_gt (pc := 24) hC dL_law_24 (tgt := 1383) rfl (fun _ => hEnd i σ τ) (fun h => absurd hgt h)
    · refine gg_prog (o' := if nI L - 6 < Int32.ofNat i then none else o) (if_neg hgt).symm ?_
      refine gg_icmp_gt (pc := 24) hC dL_law_24 (tgt := 1383) rfl (fun h => absurd h hgt) (fun _ => ?_)
      have hi : i + 6 ≤ L := by
        rw [Int32.lt_iff_toInt_lt, zL6 hL, Int32.toInt_ofNat_of_lt (by omega)] at hgt
        omega
      refine gg_aload_n (pc := 27) hC dL_law_27 (i := 0) rfl 0 rfl ?_
      refine gg_iload_n (pc := 28) hC dL_law_28 (i := 3) rfl 3 rfl ?_
      refine gg_sld (pc := 29) hC hz dL_law_29 (zin0 hi hL) ?_
      refine gg_bipush (pc := 30) hC dL_law_30 (x := 63) rfl ?_
      refine gg_iand (pc := 32) hC dL_law_32 ?_
      refine law_switch hC hz hi hL hA hR (fun σ τ hR => ?_)
      refine gg_iinc (pc := 1377) hC dL_law_1377 (y := 0) (j := 3) rfl (z := 6) rfl (Nat.le_of_ble_eq_true rfl) (lv' := [(3, .int (Int32.ofNat i + 6)), (0, .ref b), (1, .ref (A 0)), (2, .ref (B 0))]) rfl ?_
      refine gg_goto (pc := 1380) hC dL_law_1380 (tgt := 18) rfl ?_
      refine gg_lv [1, 2, 3, 0] (lv' := [(0, .ref b), (1, .ref (A 0)), (2, .ref (B 0)), (3, .int (Int32.ofNat (i + 6)))]) ?_ (ih (i + 6) σ τ (by omega) (by omega) hR)
      have e : Int32.ofNat i + 6 = Int32.ofNat (i + 6) := (Int32.ofNat_add i 6).symm
      rw [e]
      rfl

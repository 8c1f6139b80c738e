def fX6_mix (v0 : Int64) (v2 : Int64) (σ : zS) : Option (Int64) :=
    some (((31 : Int64) * v0) + v2)
set_option maxHeartbeats 4000000 in
set_option maxRecDepth 100000 in
theorem mX6_mix {l : Launch} {D : va_G} {A : Nat → Nat} {cA : Nat → ClassId} {v0 : Int64} {v2 : Int64}  {σ : zS} {r : Int64} (h : fX6_mix v0 v2 σ = some r) : zML l D (wX A cA) yX6_mix (zws yX6_mix cX6_mix 4 (some .long)) 0 0 [.long v0, .long v2] σ (r, σ) := by
  refine zm_Lr (lv := [(0, .long v0), (2, .long v2)]) rfl (sX_ok A) (Nat.le_of_ble_eq_true rfl) rfl (fun C _ _ hC hR => ?_) h
  unfold fX6_mix
  refine gg_ldc2 (pc := 0) hC dX6_mix_0 qX6_354 ?_
  refine gg_lload_n (pc := 3) hC dX6_mix_3 (i := 0) rfl 0 rfl ?_
  refine gg_lmul (pc := 4) hC dX6_mix_4 ?_
  refine gg_lload_n (pc := 5) hC dX6_mix_5 (i := 2) rfl 1 rfl ?_
  refine gg_ladd (pc := 6) hC dX6_mix_6 ?_
  exact gg_lretr (pc := 7) hR dX6_mix_7
def fX6_mixBins_20 (v5 : Int32) (σ : zS) : Nat → Int64 → Int32 → Option (Int64)
  | 0, _, _ => none
  | n + 1, v3, v6 =>
    if 2 < v6 then (some v3) else
    (zy1 (fX6_bin v5 v6 σ) (fun x1 =>
    zy1 (fX6_mix v3 (x1.toInt64) σ) (fun x2 =>
    fX6_mixBins_20 v5 σ n x2 (v6 + 1))))
def fX6_mixBins_5 (σ : zS) : Nat → Int64 → Int32 → Option (Int64)
  | 0, _, _ => none
  | n + 1, v3, v5 =>
    if (zi σ 6) ≤ v5 then (some v3) else
    (zy1 (fX6_mixBins_20 v5 σ 500 v3 0) (fun (x1 : Int64) =>
    zy1 (fX6_dense v5 0 σ) (fun x2 =>
    zy1 (fX6_mix x1 x2 σ) (fun x3 =>
    zy1 (fX6_dense v5 1 σ) (fun x4 =>
    zy1 (fX6_mix x3 x4 σ) (fun x5 =>
    fX6_mixBins_5 σ n x5 (v5 + 1)))))))
def fX6_mixBins (v1 : Int64) (σ : zS) : Option (Int64) :=
    zy1 (fX6_mixBins_5 σ 500 v1 0) (fun (x1 : Int64) =>
    some x1)
set_option maxHeartbeats 4000000 in
set_option maxRecDepth 100000 in
theorem lX6_mixBins_20 {C : zK} {A : Nat → Nat} {cA : Nat → ClassId} (hC : zOK C (wX A cA) cX6_mixBins RX6 7 3 80) {v5 : Int32} {σ : zS} : ∀ (n : Nat) (v3 : Int64) (v6 : Int32), zG C (wX A cA) 7 (fun q => zW C (wX A cA) 7 46 [(0, .ref (A 0)), (3, .long q), (5, .int v5)] [] σ) (fX6_mixBins_20 v5 σ n v3 v6) 20 [(0, .ref (A 0)), (3, .long v3), (5, .int v5), (6, .int v6)] [] σ := by
  intro n
  induction n with
  | zero => intro v3 v6; exact gg_none (o := none)
  | succ n ih =>
    intro v3 v6
    rw [fX6_mixBins_20]
    refine gg_iload (pc := 20) hC dX6_mixBins_20 3 rfl ?_
    refine gg_iconst (pc := 22) hC dX6_mixBins_22 (x := 2) rfl ?_
    refine gg_icmp_gt (pc := 23) hC dX6_mixBins_23 (tgt := 46) rfl (fun _ => ?_) (fun _ => ?_)
    · exact gg_y (fun h => zW_lv [0, 1, 2] rfl h)
    · refine gg_lload_n (pc := 26) hC dX6_mixBins_26 (i := 3) rfl 1 rfl ?_
      refine gg_aload_n (pc := 27) hC dX6_mixBins_27 (i := 0) rfl 0 rfl ?_
      refine gg_iload (pc := 28) hC dX6_mixBins_28 2 rfl ?_
      refine gg_iload (pc := 30) hC dX6_mixBins_30 3 rfl ?_
      refine gg_callVIr (pc := 32) hC dX6_mixBins_32 vX6_356 (fun _ h => mX6_bin h) (Nat.le_of_ble_eq_true rfl) (Nat.le_of_ble_eq_true rfl) (As := [.int v5, .int v6]) (rest := [.long v3]) rfl rfl (Nat.le_of_ble_eq_true rfl) 0 6 pX_0 rfl (fun x1 => ?_)
      refine gg_i2l (pc := 35) hC dX6_mixBins_35 ?_
      refine gg_callSLr (pc := 36) hC dX6_mixBins_36 cX6_320 (fun _ h => mX6_mix h) (Nat.le_of_ble_eq_true rfl) (Nat.le_of_ble_eq_true rfl) (As := [.long v3, .long (x1.toInt64)]) (rest := []) rfl rfl (Nat.le_of_ble_eq_true rfl) (fun x2 => ?_)
      refine gg_lstore_n (pc := 39) hC dX6_mixBins_39 (i := 3) rfl (Nat.le_of_ble_eq_true rfl) (lv' := [(3, .long x2), (0, .ref (A 0)), (5, .int v5), (6, .int v6)]) rfl ?_
      refine gg_iinc (pc := 40) hC dX6_mixBins_40 (y := 0) (j := 3) rfl (z := 1) rfl (Nat.le_of_ble_eq_true rfl) (lv' := [(6, .int (v6 + 1)), (3, .long x2), (0, .ref (A 0)), (5, .int v5)]) rfl ?_
      refine gg_goto (pc := 43) hC dX6_mixBins_43 (tgt := 20) rfl ?_
      exact gg_lv [2, 1, 3, 0] rfl (ih _ _)
set_option maxHeartbeats 4000000 in
set_option maxRecDepth 100000 in
theorem lX6_mixBins_5 {C : zK} {A : Nat → Nat} {cA : Nat → ClassId} (hC : zOK C (wX A cA) cX6_mixBins RX6 7 3 80) {σ : zS} : ∀ (n : Nat) (v3 : Int64) (v5 : Int32), zG C (wX A cA) 7 (fun q => zW C (wX A cA) 7 74 [(3, .long q)] [] σ) (fX6_mixBins_5 σ n v3 v5) 5 [(0, .ref (A 0)), (3, .long v3), (5, .int v5)] [] σ := by
  intro n
  induction n with
  | zero => intro v3 v5; exact gg_none (o := none)
  | succ n ih =>
    intro v3 v5
    rw [fX6_mixBins_5]
    refine gg_iload (pc := 5) hC dX6_mixBins_5 2 rfl ?_
    refine gg_aload_n (pc := 7) hC dX6_mixBins_7 (i := 0) rfl 0 rfl ?_
    refine gg_get (pc := 8) hC dX6_mixBins_8 fX6_19 0 pX_0 (v := .ref (A 2)) rfl ?_
    refine gg_get (pc := 11) hC dX6_mixBins_11 fX6_110 2 pX_2 (v := .int (zi σ 6)) rfl ?_
    refine gg_icmp_ge (pc := 14) hC dX6_mixBins_14 (tgt := 74) rfl (fun _ => ?_) (fun _ => ?_)
    · exact gg_y (fun h => zW_lv [1] rfl h)
    · refine gg_iconst (pc := 17) hC dX6_mixBins_17 (x := 0) rfl ?_
      refine gg_istore (pc := 18) hC dX6_mixBins_18 (Nat.le_of_ble_eq_true rfl) (lv' := [(6, .int 0), (0, .ref (A 0)), (3, .long v3), (5, .int v5)]) rfl ?_
      refine gg_join1 (E' := (fun q => zW C (wX A cA) 7 46 [(0, .ref (A 0)), (3, .long q), (5, .int v5)] [] σ)) (gg_lv [1, 2, 3, 0] rfl (lX6_mixBins_20 hC  500 _ _)) (fun x1 => ?_)
      show zG C (wX A cA) 7 _ _ 46 [(0, .ref (A 0)), (3, .long x1), (5, .int v5)] [] σ
      refine gg_lload_n (pc := 46) hC dX6_mixBins_46 (i := 3) rfl 1 rfl ?_
      refine gg_aload_n (pc := 47) hC dX6_mixBins_47 (i := 0) rfl 0 rfl ?_
      refine gg_iload (pc := 48) hC dX6_mixBins_48 2 rfl ?_
      refine gg_iconst (pc := 50) hC dX6_mixBins_50 (x := 0) rfl ?_
      refine gg_callVLr (pc := 51) hC dX6_mixBins_51 vX6_359 (fun _ h => mX6_dense h) (Nat.le_of_ble_eq_true rfl) (Nat.le_of_ble_eq_true rfl) (As := [.int v5, .int 0]) (rest := [.long x1]) rfl rfl (Nat.le_of_ble_eq_true rfl) 0 6 pX_0 rfl (fun x2 => ?_)
      refine gg_callSLr (pc := 54) hC dX6_mixBins_54 cX6_320 (fun _ h => mX6_mix h) (Nat.le_of_ble_eq_true rfl) (Nat.le_of_ble_eq_true rfl) (As := [.long x1, .long x2]) (rest := []) rfl rfl (Nat.le_of_ble_eq_true rfl) (fun x3 => ?_)
      refine gg_aload_n (pc := 57) hC dX6_mixBins_57 (i := 0) rfl 0 rfl ?_
      refine gg_iload (pc := 58) hC dX6_mixBins_58 2 rfl ?_
      refine gg_iconst (pc := 60) hC dX6_mixBins_60 (x := 1) rfl ?_
      refine gg_callVLr (pc := 61) hC dX6_mixBins_61 vX6_359 (fun _ h => mX6_dense h) (Nat.le_of_ble_eq_true rfl) (Nat.le_of_ble_eq_true rfl) (As := [.int v5, .int 1]) (rest := [.long x3]) rfl rfl (Nat.le_of_ble_eq_true rfl) 0 6 pX_0 rfl (fun x4 => ?_)
      refine gg_callSLr (pc := 64) hC dX6_mixBins_64 cX6_320 (fun _ h => mX6_mix h) (Nat.le_of_ble_eq_true rfl) (Nat.le_of_ble_eq_true rfl) (As := [.long x3, .long x4]) (rest := []) rfl rfl (Nat.le_of_ble_eq_true rfl) (fun x5 => ?_)
      refine gg_lstore_n (pc := 67) hC dX6_mixBins_67 (i := 3) rfl (Nat.le_of_ble_eq_true rfl) (lv' := [(3, .long x5), (0, .ref (A 0)), (5, .int v5)]) rfl ?_
      refine gg_iinc (pc := 68) hC dX6_mixBins_68 (y := 0) (j := 2) rfl (z := 1) rfl (Nat.le_of_ble_eq_true rfl) (lv' := [(5, .int (v5 + 1)), (3, .long x5), (0, .ref (A 0))]) rfl ?_
      refine gg_goto (pc := 71) hC dX6_mixBins_71 (tgt := 5) rfl ?_
      exact gg_lv [2, 1, 0] rfl (ih _ _)
set_option maxHeartbeats 4000000 in
set_option maxRecDepth 100000 in
theorem mX6_mixBins {l : Launch} {D : va_G} {A : Nat → Nat} {cA : Nat → ClassId} {v1 : Int64}  {σ : zS} {r : Int64} (h : fX6_mixBins v1 σ = some r) : zML l D (wX A cA) yX6_mixBins (zws yX6_mixBins cX6_mixBins 7 (some .long)) 3 80 [.ref (A 0), .long v1] σ (r, σ) := by
  refine zm_Lr (lv := [(0, .ref (A 0)), (1, .long v1)]) rfl (sX_ok A) (Nat.le_of_ble_eq_true rfl) rfl (fun C _ _ hC hR => ?_) h
  unfold fX6_mixBins
  refine gg_lload_n (pc := 0) hC dX6_mixBins_0 (i := 1) rfl 1 rfl ?_
  refine gg_lstore_n (pc := 1) hC dX6_mixBins_1 (i := 3) rfl (Nat.le_of_ble_eq_true rfl) (lv' := [(3, .long v1), (0, .ref (A 0)), (1, .long v1)]) rfl ?_
  refine gg_iconst (pc := 2) hC dX6_mixBins_2 (x := 0) rfl ?_
  refine gg_istore (pc := 3) hC dX6_mixBins_3 (Nat.le_of_ble_eq_true rfl) (lv' := [(5, .int 0), (3, .long v1), (0, .ref (A 0)), (1, .long v1)]) rfl ?_
  refine gg_join1 (E' := (fun q => zW C (wX A cA) 7 74 [(3, .long q)] [] σ)) (gg_lv [2, 1, 0] rfl (lX6_mixBins_5 hC  500 _ _)) (fun x1 => ?_)
  show zG C (wX A cA) 7 _ _ 74 [(3, .long x1)] [] σ
  refine gg_lload_n (pc := 74) hC dX6_mixBins_74 (i := 3) rfl 0 rfl ?_
  exact gg_lretr (pc := 75) hR dX6_mixBins_75
def fX6_mixChains_27 : Nat → Int64 → Int32 → zS → Option (Int64 × zS)
  | 0, _, _, _ => none
  | n + 1, v3, v5, σ =>
    if 4 < v5 then (some (v3, σ)) else
    (zy2 (fX6_chain 7 1 v5 σ) (fun x1 s2 =>
    zy1 (fX6_mix v3 (x1.toInt64) s2) (fun x3 =>
    fX6_mixChains_27  n x3 (v5 + 1) s2)))
def fX6_mixChains (v1 : Int64) (σ : zS) : Option (Int64 × zS) :=
    zy2 (fX6_chain 3 0 3 σ) (fun x1 s2 =>
    zy1 (fX6_mix v1 (x1.toInt64) s2) (fun x3 =>
    zy2 (fX6_chain 3 0 4 s2) (fun x4 s5 =>
    zy1 (fX6_mix x3 (x4.toInt64) s5) (fun x6 =>
    zy2 (fX6_mixChains_27  500 x6 0 s5) (fun (x7 : Int64) (s8 : zS) =>
    some (x7, s8))))))
set_option maxHeartbeats 4000000 in
set_option maxRecDepth 100000 in
theorem lX6_mixChains_27 {C : zK} {A : Nat → Nat} {cA : Nat → ClassId} (hC : zOK C (wX A cA) cX6_mixChains RX6 6 8 175) : ∀ (n : Nat) (v3 : Int64) (v5 : Int32) (σ : zS), zG C (wX A cA) 6 (fun q => zW C (wX A cA) 6 54 [(3, .long q.1)] [] q.2) (fX6_mixChains_27  n v3 v5 σ) 27 [(0, .ref (A 0)), (3, .long v3), (5, .int v5)] [] σ := by
  intro n
  induction n with
  | zero => intro v3 v5 σ; exact gg_none (o := none)
  | succ n ih =>
    intro v3 v5 σ
    rw [fX6_mixChains_27]
    refine gg_iload (pc := 27) hC dX6_mixChains_27 2 rfl ?_
    refine gg_iconst (pc := 29) hC dX6_mixChains_29 (x := 4) rfl ?_
    refine gg_icmp_gt (pc := 30) hC dX6_mixChains_30 (tgt := 54) rfl (fun _ => ?_) (fun _ => ?_)
    · exact gg_y (fun h => zW_lv [1] rfl h)
    · refine gg_lload_n (pc := 33) hC dX6_mixChains_33 (i := 3) rfl 1 rfl ?_
      refine gg_aload_n (pc := 34) hC dX6_mixChains_34 (i := 0) rfl 0 rfl ?_
      refine gg_bipush (pc := 35) hC dX6_mixChains_35 (x := 7) rfl ?_
      refine gg_iconst (pc := 37) hC dX6_mixChains_37 (x := 1) rfl ?_
      refine gg_iload (pc := 38) hC dX6_mixChains_38 2 rfl ?_
      refine gg_callVI (pc := 40) hC dX6_mixChains_40 vX6_376 (fun _ h => mX6_chain h) (Nat.le_of_ble_eq_true rfl) (Nat.le_of_ble_eq_true rfl) (As := [.int 7, .int 1, .int v5]) (rest := [.long v3]) rfl rfl (Nat.le_of_ble_eq_true rfl) 0 6 pX_0 rfl (fun x1 s2 => ?_)
      refine gg_i2l (pc := 43) hC dX6_mixChains_43 ?_
      refine gg_callSLr (pc := 44) hC dX6_mixChains_44 cX6_320 (fun _ h => mX6_mix h) (Nat.le_of_ble_eq_true rfl) (Nat.le_of_ble_eq_true rfl) (As := [.long v3, .long (x1.toInt64)]) (rest := []) rfl rfl (Nat.le_of_ble_eq_true rfl) (fun x3 => ?_)
      refine gg_lstore_n (pc := 47) hC dX6_mixChains_47 (i := 3) rfl (Nat.le_of_ble_eq_true rfl) (lv' := [(3, .long x3), (0, .ref (A 0)), (5, .int v5)]) rfl ?_
      refine gg_iinc (pc := 48) hC dX6_mixChains_48 (y := 0) (j := 2) rfl (z := 1) rfl (Nat.le_of_ble_eq_true rfl) (lv' := [(5, .int (v5 + 1)), (3, .long x3), (0, .ref (A 0))]) rfl ?_
      refine gg_goto (pc := 51) hC dX6_mixChains_51 (tgt := 27) rfl ?_
      exact gg_lv [2, 1, 0] rfl (ih _ _ _)
set_option maxHeartbeats 4000000 in
set_option maxRecDepth 100000 in
theorem mX6_mixChains {l : Launch} {D : va_G} {A : Nat → Nat} {cA : Nat → ClassId} {v1 : Int64}  {σ : zS} {r : Int64 × zS} (h : fX6_mixChains v1 σ = some r) : zML l D (wX A cA) yX6_mixChains (zws yX6_mixChains cX6_mixChains 6 (some .long)) 8 175 [.ref (A 0), .long v1] σ r := by
  refine zm_L (lv := [(0, .ref (A 0)), (1, .long v1)]) rfl (sX_ok A) (Nat.le_of_ble_eq_true rfl) rfl (fun C _ _ hC hR => ?_) h
  unfold fX6_mixChains
  refine gg_lload_n (pc := 0) hC dX6_mixChains_0 (i := 1) rfl 1 rfl ?_
  refine gg_aload_n (pc := 1) hC dX6_mixChains_1 (i := 0) rfl 0 rfl ?_
  refine gg_iconst (pc := 2) hC dX6_mixChains_2 (x := 3) rfl ?_
  refine gg_iconst (pc := 3) hC dX6_mixChains_3 (x := 0) rfl ?_
  refine gg_iconst (pc := 4) hC dX6_mixChains_4 (x := 3) rfl ?_
  refine gg_callVI (pc := 5) hC dX6_mixChains_5 vX6_376 (fun _ h => mX6_chain h) (Nat.le_of_ble_eq_true rfl) (Nat.le_of_ble_eq_true rfl) (As := [.int 3, .int 0, .int 3]) (rest := [.long v1]) rfl rfl (Nat.le_of_ble_eq_true rfl) 0 6 pX_0 rfl (fun x1 s2 => ?_)
  refine gg_i2l (pc := 8) hC dX6_mixChains_8 ?_
  refine gg_callSLr (pc := 9) hC dX6_mixChains_9 cX6_320 (fun _ h => mX6_mix h) (Nat.le_of_ble_eq_true rfl) (Nat.le_of_ble_eq_true rfl) (As := [.long v1, .long (x1.toInt64)]) (rest := []) rfl rfl (Nat.le_of_ble_eq_true rfl) (fun x3 => ?_)
  refine gg_aload_n (pc := 12) hC dX6_mixChains_12 (i := 0) rfl 0 rfl ?_
  refine gg_iconst (pc := 13) hC dX6_mixChains_13 (x := 3) rfl ?_
  refine gg_iconst (pc := 14) hC dX6_mixChains_14 (x := 0) rfl ?_
  refine gg_iconst (pc := 15) hC dX6_mixChains_15 (x := 4) rfl ?_
  refine gg_callVI (pc := 16) hC dX6_mixChains_16 vX6_376 (fun _ h => mX6_chain h) (Nat.le_of_ble_eq_true rfl) (Nat.le_of_ble_eq_true rfl) (As := [.int 3, .int 0, .int 4]) (rest := [.long x3]) rfl rfl (Nat.le_of_ble_eq_true rfl) 0 6 pX_0 rfl (fun x4 s5 => ?_)
  refine gg_i2l (pc := 19) hC dX6_mixChains_19 ?_
  refine gg_callSLr (pc := 20) hC dX6_mixChains_20 cX6_320 (fun _ h => mX6_mix h) (Nat.le_of_ble_eq_true rfl) (Nat.le_of_ble_eq_true rfl) (As := [.long x3, .long (x4.toInt64)]) (rest := []) rfl rfl (Nat.le_of_ble_eq_true rfl) (fun x6 => ?_)
  refine gg_lstore_n (pc := 23) hC dX6_mixChains_23 (i := 3) rfl (Nat.le_of_ble_eq_true rfl) (lv' := [(3, .long x6), (0, .ref (A 0)), (1, .long v1)]) rfl ?_
  refine gg_iconst (pc := 24) hC dX6_mixChains_24 (x := 0) rfl ?_
  refine gg_istore (pc := 25) hC dX6_mixChains_25 (Nat.le_of_ble_eq_true rfl) (lv' := [(5, .int 0), (3, .long x6), (0, .ref (A 0)), (1, .long v1)]) rfl ?_
  refine gg_join2 (E' := (fun q => zW C (wX A cA) 6 54 [(3, .long q.1)] [] q.2)) (gg_lv [2, 1, 0] rfl (lX6_mixChains_27 hC  500 _ _ _)) (fun x7 s8 => ?_)
  show zG C (wX A cA) 6 _ _ 54 [(3, .long x7)] [] s8
  refine gg_lload_n (pc := 54) hC dX6_mixChains_54 (i := 3) rfl 0 rfl ?_
  exact gg_lret (pc := 55) hR dX6_mixChains_55
def fX6_greatestBound (v1 : Int32) (σ : zS) : Option (Int32) :=
    zy1 (fX5_coarseOf v1 σ) (fun x1 =>
    zy1 (fX5_fineOf v1 σ) (fun x2 =>
    zy1 (fX0_codeOf x2 σ) (fun x3 =>
    zy1 (fX0_endOf x3 σ) (fun x4 =>
    some (((60 * x1) + x4) - 1)))))
set_option maxHeartbeats 4000000 in
set_option maxRecDepth 100000 in
theorem mX6_greatestBound {l : Launch} {D : va_G} {A : Nat → Nat} {cA : Nat → ClassId} {v1 : Int32}  {σ : zS} {r : Int32} (h : fX6_greatestBound v1 σ = some r) : zMI l D (wX A cA) yX6_greatestBound (zws yX6_greatestBound cX6_greatestBound 2 (some .int)) 1 23 [.ref (A 0), .int v1] σ (r, σ) := by
  refine zm_Ir (lv := [(0, .ref (A 0)), (1, .int v1)]) rfl (sX_ok A) (Nat.le_of_ble_eq_true rfl) rfl (fun C _ _ hC hR => ?_) h
  unfold fX6_greatestBound
  refine gg_bipush (pc := 0) hC dX6_greatestBound_0 (x := 60) rfl ?_
  refine gg_aload_n (pc := 2) hC dX6_greatestBound_2 (i := 0) rfl 0 rfl ?_
  refine gg_get (pc := 3) hC dX6_greatestBound_3 fX6_10 0 pX_0 (v := .ref (A 1)) rfl ?_
  refine gg_iload_n (pc := 6) hC dX6_greatestBound_6 (i := 1) rfl 1 rfl ?_
  refine gg_callVIr (pc := 7) hC dX6_greatestBound_7 vX6_168 (fun _ h => mX5_coarseOf h) (Nat.le_of_ble_eq_true rfl) (Nat.le_of_ble_eq_true rfl) (As := [.int v1]) (rest := [.int 60]) rfl rfl (Nat.le_of_ble_eq_true rfl) 1 5 pX_1 rfl (fun x1 => ?_)
  refine gg_imul (pc := 10) hC dX6_greatestBound_10 ?_
  refine gg_aload_n (pc := 11) hC dX6_greatestBound_11 (i := 0) rfl 0 rfl ?_
  refine gg_get (pc := 12) hC dX6_greatestBound_12 fX6_19 0 pX_0 (v := .ref (A 2)) rfl ?_
  refine gg_aload_n (pc := 15) hC dX6_greatestBound_15 (i := 0) rfl 0 rfl ?_
  refine gg_get (pc := 16) hC dX6_greatestBound_16 fX6_19 0 pX_0 (v := .ref (A 2)) rfl ?_
  refine gg_aload_n (pc := 19) hC dX6_greatestBound_19 (i := 0) rfl 0 rfl ?_
  refine gg_get (pc := 20) hC dX6_greatestBound_20 fX6_10 0 pX_0 (v := .ref (A 1)) rfl ?_
  refine gg_iload_n (pc := 23) hC dX6_greatestBound_23 (i := 1) rfl 1 rfl ?_
  refine gg_callVIr (pc := 24) hC dX6_greatestBound_24 vX6_171 (fun _ h => mX5_fineOf h) (Nat.le_of_ble_eq_true rfl) (Nat.le_of_ble_eq_true rfl) (As := [.int v1]) (rest := [.ref (A 2), .ref (A 2), .int (60 * x1)]) rfl rfl (Nat.le_of_ble_eq_true rfl) 1 5 pX_1 rfl (fun x2 => ?_)
  refine gg_callVIr (pc := 27) hC dX6_greatestBound_27 vX6_100 (fun _ h => mX0_codeOf h) (Nat.le_of_ble_eq_true rfl) (Nat.le_of_ble_eq_true rfl) (As := [.int x2]) (rest := [.ref (A 2), .int (60 * x1)]) rfl rfl (Nat.le_of_ble_eq_true rfl) 2 0 pX_2 rfl (fun x3 => ?_)
  refine gg_callVIr (pc := 30) hC dX6_greatestBound_30 vX6_418 (fun _ h => mX0_endOf h) (Nat.le_of_ble_eq_true rfl) (Nat.le_of_ble_eq_true rfl) (As := [.int x3]) (rest := [.int (60 * x1)]) rfl rfl (Nat.le_of_ble_eq_true rfl) 2 0 pX_2 rfl (fun x4 => ?_)
  refine gg_iadd (pc := 33) hC dX6_greatestBound_33 ?_
  refine gg_iconst (pc := 34) hC dX6_greatestBound_34 (x := 1) rfl ?_
  refine gg_isub (pc := 35) hC dX6_greatestBound_35 ?_
  exact gg_iretr (pc := 36) hR dX6_greatestBound_36
def fX6_isEdge (v1 : Int32) (σ : zS) : Option (Int32) :=
    zy1 (fX6_isWithin v1 0 ((zi σ 5) - 1) σ) (fun x1 =>
    zg (zz x1) (some x1))
set_option maxHeartbeats 4000000 in
set_option maxRecDepth 100000 in
theorem mX6_isEdge {l : Launch} {D : va_G} {A : Nat → Nat} {cA : Nat → ClassId} {v1 : Int32}  {σ : zS} {r : Int32} (h : fX6_isEdge v1 σ = some r) : zMI l D (wX A cA) yX6_isEdge (zws yX6_isEdge cX6_isEdge 2 (some .boolean)) 1 22 [.ref (A 0), .int v1] σ (r, σ) := by
  refine zm_Zr (lv := [(0, .ref (A 0)), (1, .int v1)]) rfl (sX_ok A) (Nat.le_of_ble_eq_true rfl) rfl (fun C _ _ hC hR => ?_) h
  unfold fX6_isEdge
  refine gg_iload_n (pc := 0) hC dX6_isEdge_0 (i := 1) rfl 1 rfl ?_
  refine gg_iconst (pc := 1) hC dX6_isEdge_1 (x := 0) rfl ?_
  refine gg_aload_n (pc := 2) hC dX6_isEdge_2 (i := 0) rfl 0 rfl ?_
  refine gg_get (pc := 3) hC dX6_isEdge_3 fX6_10 0 pX_0 (v := .ref (A 1)) rfl ?_
  refine gg_get (pc := 6) hC dX6_isEdge_6 fX6_97 1 pX_1 (v := .int (zi σ 5)) rfl ?_
  refine gg_iconst (pc := 9) hC dX6_isEdge_9 (x := 1) rfl ?_
  refine gg_isub (pc := 10) hC dX6_isEdge_10 ?_
  refine gg_callSIr (pc := 11) hC dX6_isEdge_11 cX6_87 (fun _ h => mX6_isWithin h) (Nat.le_of_ble_eq_true rfl) (Nat.le_of_ble_eq_true rfl) (As := [.int v1, .int 0, .int ((zi σ 5) - 1)]) (rest := []) rfl rfl (Nat.le_of_ble_eq_true rfl) (fun x1 => ?_)
  exact gg_zretgr (pc := 14) hR dX6_isEdge_14
def fX6_isLastEdge (v1 : Int32) (σ : zS) : Option (Int32) :=
    if v1 = ((zi σ 5) - 1) then (some 1) else
    (some 0)
set_option maxHeartbeats 4000000 in
set_option maxRecDepth 100000 in
theorem mX6_isLastEdge {l : Launch} {D : va_G} {A : Nat → Nat} {cA : Nat → ClassId} {v1 : Int32}  {σ : zS} {r : Int32} (h : fX6_isLastEdge v1 σ = some r) : zMI l D (wX A cA) yX6_isLastEdge (zws yX6_isLastEdge cX6_isLastEdge 2 (some .boolean)) 0 0 [.ref (A 0), .int v1] σ (r, σ) := by
  refine zm_Zr (lv := [(0, .ref (A 0)), (1, .int v1)]) rfl (sX_ok A) (Nat.le_of_ble_eq_true rfl) rfl (fun C _ _ hC hR => ?_) h
  unfold fX6_isLastEdge
  refine gg_iload_n (pc := 0) hC dX6_isLastEdge_0 (i := 1) rfl 1 rfl ?_
  refine gg_aload_n (pc := 1) hC dX6_isLastEdge_1 (i := 0) rfl 0 rfl ?_
  refine gg_get (pc := 2) hC dX6_isLastEdge_2 fX6_10 0 pX_0 (v := .ref (A 1)) rfl ?_
  refine gg_get (pc := 5) hC dX6_isLastEdge_5 fX6_97 1 pX_1 (v := .int (zi σ 5)) rfl ?_
  refine gg_iconst (pc := 8) hC dX6_isLastEdge_8 (x := 1) rfl ?_
  refine gg_isub (pc := 9) hC dX6_isLastEdge_9 ?_
  refine gg_icmp_ne (pc := 10) hC dX6_isLastEdge_10 (tgt := 17) rfl (fun _ => ?_) (fun _ => ?_)
  · refine gg_iconst (pc := 13) hC dX6_isLastEdge_13 (x := 1) rfl ?_
    refine gg_goto (pc := 14) hC dX6_isLastEdge_14 (tgt := 18) rfl ?_
    exact gg_zretr (pc := 18) hR dX6_isLastEdge_18 rfl
  · refine gg_iconst (pc := 17) hC dX6_isLastEdge_17 (x := 0) rfl ?_
    exact gg_zretr (pc := 18) hR dX6_isLastEdge_18 rfl
def fX6_leastBound (v1 : Int32) (σ : zS) : Option (Int32) :=
    zy1 (fX5_coarseOf v1 σ) (fun x1 =>
    zy1 (fX5_fineOf v1 σ) (fun x2 =>
    zy1 (fX0_codeOf x2 σ) (fun x3 =>
    zg (zq x3 12) (some ((60 * x1) + (za σ 2 x3.toNatClampNeg))))))
set_option maxHeartbeats 4000000 in
set_option maxRecDepth 100000 in
theorem mX6_leastBound {l : Launch} {D : va_G} {A : Nat → Nat} {cA : Nat → ClassId} {v1 : Int32}  {σ : zS} {r : Int32} (h : fX6_leastBound v1 σ = some r) : zMI l D (wX A cA) yX6_leastBound (zws yX6_leastBound cX6_leastBound 2 (some .int)) 1 23 [.ref (A 0), .int v1] σ (r, σ) := by
  refine zm_Ir (lv := [(0, .ref (A 0)), (1, .int v1)]) rfl (sX_ok A) (Nat.le_of_ble_eq_true rfl) rfl (fun C _ _ hC hR => ?_) h
  unfold fX6_leastBound
  refine gg_bipush (pc := 0) hC dX6_leastBound_0 (x := 60) rfl ?_
  refine gg_aload_n (pc := 2) hC dX6_leastBound_2 (i := 0) rfl 0 rfl ?_
  refine gg_get (pc := 3) hC dX6_leastBound_3 fX6_10 0 pX_0 (v := .ref (A 1)) rfl ?_
  refine gg_iload_n (pc := 6) hC dX6_leastBound_6 (i := 1) rfl 1 rfl ?_
  refine gg_callVIr (pc := 7) hC dX6_leastBound_7 vX6_168 (fun _ h => mX5_coarseOf h) (Nat.le_of_ble_eq_true rfl) (Nat.le_of_ble_eq_true rfl) (As := [.int v1]) (rest := [.int 60]) rfl rfl (Nat.le_of_ble_eq_true rfl) 1 5 pX_1 rfl (fun x1 => ?_)
  refine gg_imul (pc := 10) hC dX6_leastBound_10 ?_
  refine gg_aload_n (pc := 11) hC dX6_leastBound_11 (i := 0) rfl 0 rfl ?_
  refine gg_get (pc := 12) hC dX6_leastBound_12 fX6_19 0 pX_0 (v := .ref (A 2)) rfl ?_
  refine gg_get (pc := 15) hC dX6_leastBound_15 fX6_103 2 pX_2 (v := .ref (A 9)) rfl ?_
  refine gg_aload_n (pc := 18) hC dX6_leastBound_18 (i := 0) rfl 0 rfl ?_
  refine gg_get (pc := 19) hC dX6_leastBound_19 fX6_19 0 pX_0 (v := .ref (A 2)) rfl ?_
  refine gg_aload_n (pc := 22) hC dX6_leastBound_22 (i := 0) rfl 0 rfl ?_
  refine gg_get (pc := 23) hC dX6_leastBound_23 fX6_10 0 pX_0 (v := .ref (A 1)) rfl ?_
  refine gg_iload_n (pc := 26) hC dX6_leastBound_26 (i := 1) rfl 1 rfl ?_
  refine gg_callVIr (pc := 27) hC dX6_leastBound_27 vX6_171 (fun _ h => mX5_fineOf h) (Nat.le_of_ble_eq_true rfl) (Nat.le_of_ble_eq_true rfl) (As := [.int v1]) (rest := [.ref (A 2), .ref (A 9), .int (60 * x1)]) rfl rfl (Nat.le_of_ble_eq_true rfl) 1 5 pX_1 rfl (fun x2 => ?_)
  refine gg_callVIr (pc := 30) hC dX6_leastBound_30 vX6_100 (fun _ h => mX0_codeOf h) (Nat.le_of_ble_eq_true rfl) (Nat.le_of_ble_eq_true rfl) (As := [.int x2]) (rest := [.ref (A 9), .int (60 * x1)]) rfl rfl (Nat.le_of_ble_eq_true rfl) 2 0 pX_2 rfl (fun x3 => ?_)
  refine gg_iald (pc := 33) hC dX6_leastBound_33 9 0 pX_9 rfl ?_
  refine gg_iadd (pc := 34) hC dX6_leastBound_34 ?_
  exact gg_iretr (pc := 35) hR dX6_leastBound_35
def fX6_seen (v1 : Int32) (v2 : Int32) (σ : zS) : Option (Int32 × zS) :=
    zy1 (fX6_isEdge v1 σ) (fun x1 =>
    if x1 = 0 then (some ((-2 : Int32), σ)) else
    (zy1 (fX6_isWithin v2 0 7 σ) (fun x2 =>
    if x2 = 0 then (some ((-2 : Int32), σ)) else
    (zy1 (fX6_renew σ) (fun s3 =>
    if v2 = 0 then (zg (zq v1 32) (some ((za s3 1 v1.toNatClampNeg), s3))) else
    if v2 = 1 then (zy1 (fX5_coarseOf v1 s3) (fun x5 =>
    some (x5, s3))) else
    if v2 = 2 then (zy1 (fX5_fineOf v1 s3) (fun x7 =>
    zy1 (fX0_codeOf x7 s3) (fun x8 =>
    some (x8, s3)))) else
    if v2 = 3 then (zy1 (fX6_leastBound v1 s3) (fun x10 =>
    some (x10, s3))) else
    if v2 = 4 then (zy1 (fX6_greatestBound v1 s3) (fun x12 =>
    some (x12, s3))) else
    if v2 = 5 then (zg (zq v1 32) (some ((za s3 10 v1.toNatClampNeg), s3))) else
    if v2 = 6 then (zy1 (fX6_isLastEdge v1 s3) (fun x15 =>
    if x15 = 0 then (zg (zq v1 32) (some ((za s3 8 v1.toNatClampNeg), s3))) else
    (some ((-1 : Int32), s3)))) else
    (zy1 (fX6_isLastEdge v1 s3) (fun x17 =>
    if x17 = 0 then (zg (zq v1 32) (if (za s3 9 v1.toNatClampNeg) = 0 then (some (0, s3)) else
    (some (1, s3)))) else
    (some (0, s3)))))))))
set_option maxHeartbeats 4000000 in
set_option maxRecDepth 100000 in
theorem mX6_seen {l : Launch} {D : va_G} {A : Nat → Nat} {cA : Nat → ClassId} {v1 : Int32} {v2 : Int32}  {σ : zS} {r : Int32 × zS} (h : fX6_seen v1 v2 σ = some r) : zMI l D (wX A cA) yX6_seen (zws yX6_seen cX6_seen 3 (some .int)) 7 147 [.ref (A 0), .int v1, .int v2] σ r := by
  refine zm_I (lv := [(0, .ref (A 0)), (1, .int v1), (2, .int v2)]) rfl (sX_ok A) (Nat.le_of_ble_eq_true rfl) rfl (fun C _ _ hC hR => ?_) h
  unfold fX6_seen
  refine gg_aload_n (pc := 0) hC dX6_seen_0 (i := 0) rfl 0 rfl ?_
  refine gg_iload_n (pc := 1) hC dX6_seen_1 (i := 1) rfl 1 rfl ?_
  refine gg_callVIr (pc := 2) hC dX6_seen_2 vX6_91 (fun _ h => mX6_isEdge h) (Nat.le_of_ble_eq_true rfl) (Nat.le_of_ble_eq_true rfl) (As := [.int v1]) (rest := []) rfl rfl (Nat.le_of_ble_eq_true rfl) 0 6 pX_0 rfl (fun x1 => ?_)
  refine gg_if_eq (pc := 5) hC dX6_seen_5 (tgt := 18) rfl (fun _ => ?_) (fun _ => ?_)
  · refine gg_bipush (pc := 18) hC dX6_seen_18 (x := -2) rfl ?_
    exact gg_iret (pc := 20) hR dX6_seen_20
  · refine gg_iload_n (pc := 8) hC dX6_seen_8 (i := 2) rfl 2 rfl ?_
    refine gg_iconst (pc := 9) hC dX6_seen_9 (x := 0) rfl ?_
    refine gg_bipush (pc := 10) hC dX6_seen_10 (x := 7) rfl ?_
    refine gg_callSIr (pc := 12) hC dX6_seen_12 cX6_87 (fun _ h => mX6_isWithin h) (Nat.le_of_ble_eq_true rfl) (Nat.le_of_ble_eq_true rfl) (As := [.int v2, .int 0, .int 7]) (rest := []) rfl rfl (Nat.le_of_ble_eq_true rfl) (fun x2 => ?_)
    refine gg_if_ne (pc := 15) hC dX6_seen_15 (tgt := 21) rfl (fun _ => ?_) (fun _ => ?_)
    · refine gg_bipush (pc := 18) hC dX6_seen_18 (x := -2) rfl ?_
      exact gg_iret (pc := 20) hR dX6_seen_20
    · refine gg_aload_n (pc := 21) hC dX6_seen_21 (i := 0) rfl 0 rfl ?_
      refine gg_callVV (pc := 22) hC dX6_seen_22 vX6_162 (fun _ h => mX6_renew h) (Nat.le_of_ble_eq_true rfl) (Nat.le_of_ble_eq_true rfl) (As := []) (rest := []) rfl rfl (Nat.le_of_ble_eq_true rfl) 0 6 pX_0 rfl (fun s3 => ?_)
      refine gg_iload_n (pc := 25) hC dX6_seen_25 (i := 2) rfl 2 rfl ?_
      refine gg_ite (fun hc4 => ?_) (fun hc4 => ?_)
      · refine gg_tabIn (pc := 26) hC dX6_seen_26 (by rw [hc4]; decide) (by rw [hc4]; decide) (off := 42) (by rw [hc4]; rfl) (tgt := 68) rfl ?_
        refine gg_aload_n (pc := 68) hC dX6_seen_68 (i := 0) rfl 0 rfl ?_
        refine gg_get (pc := 69) hC dX6_seen_69 fX6_10 0 pX_0 (v := .ref (A 1)) rfl ?_
        refine gg_get (pc := 72) hC dX6_seen_72 fX6_165 1 pX_1 (v := .ref (A 8)) rfl ?_
        refine gg_iload_n (pc := 75) hC dX6_seen_75 (i := 1) rfl 1 rfl ?_
        refine gg_iald (pc := 76) hC dX6_seen_76 8 0 pX_8 rfl ?_
        exact gg_iret (pc := 77) hR dX6_seen_77
      · skip
        refine gg_ite (fun hc6 => ?_) (fun hc6 => ?_)
        · refine gg_tabIn (pc := 26) hC dX6_seen_26 (by rw [hc6]; decide) (by rw [hc6]; decide) (off := 52) (by rw [hc6]; rfl) (tgt := 78) rfl ?_
          refine gg_aload_n (pc := 78) hC dX6_seen_78 (i := 0) rfl 0 rfl ?_
          refine gg_get (pc := 79) hC dX6_seen_79 fX6_10 0 pX_0 (v := .ref (A 1)) rfl ?_
          refine gg_iload_n (pc := 82) hC dX6_seen_82 (i := 1) rfl 1 rfl ?_
          refine gg_callVIr (pc := 83) hC dX6_seen_83 vX6_168 (fun _ h => mX5_coarseOf h) (Nat.le_of_ble_eq_true rfl) (Nat.le_of_ble_eq_true rfl) (As := [.int v1]) (rest := []) rfl rfl (Nat.le_of_ble_eq_true rfl) 1 5 pX_1 rfl (fun x5 => ?_)
          exact gg_iret (pc := 86) hR dX6_seen_86
        · skip
          refine gg_ite (fun hc9 => ?_) (fun hc9 => ?_)
          · refine gg_tabIn (pc := 26) hC dX6_seen_26 (by rw [hc9]; decide) (by rw [hc9]; decide) (off := 61) (by rw [hc9]; rfl) (tgt := 87) rfl ?_
            refine gg_aload_n (pc := 87) hC dX6_seen_87 (i := 0) rfl 0 rfl ?_
            refine gg_get (pc := 88) hC dX6_seen_88 fX6_19 0 pX_0 (v := .ref (A 2)) rfl ?_
            refine gg_aload_n (pc := 91) hC dX6_seen_91 (i := 0) rfl 0 rfl ?_
            refine gg_get (pc := 92) hC dX6_seen_92 fX6_10 0 pX_0 (v := .ref (A 1)) rfl ?_
            refine gg_iload_n (pc := 95) hC dX6_seen_95 (i := 1) rfl 1 rfl ?_
            refine gg_callVIr (pc := 96) hC dX6_seen_96 vX6_171 (fun _ h => mX5_fineOf h) (Nat.le_of_ble_eq_true rfl) (Nat.le_of_ble_eq_true rfl) (As := [.int v1]) (rest := [.ref (A 2)]) rfl rfl (Nat.le_of_ble_eq_true rfl) 1 5 pX_1 rfl (fun x7 => ?_)
            refine gg_callVIr (pc := 99) hC dX6_seen_99 vX6_100 (fun _ h => mX0_codeOf h) (Nat.le_of_ble_eq_true rfl) (Nat.le_of_ble_eq_true rfl) (As := [.int x7]) (rest := []) rfl rfl (Nat.le_of_ble_eq_true rfl) 2 0 pX_2 rfl (fun x8 => ?_)
            exact gg_iret (pc := 102) hR dX6_seen_102
          · skip
            refine gg_ite (fun hc11 => ?_) (fun hc11 => ?_)
            · refine gg_tabIn (pc := 26) hC dX6_seen_26 (by rw [hc11]; decide) (by rw [hc11]; decide) (off := 77) (by rw [hc11]; rfl) (tgt := 103) rfl ?_
              refine gg_aload_n (pc := 103) hC dX6_seen_103 (i := 0) rfl 0 rfl ?_
              refine gg_iload_n (pc := 104) hC dX6_seen_104 (i := 1) rfl 1 rfl ?_
              refine gg_callVIr (pc := 105) hC dX6_seen_105 vX6_174 (fun _ h => mX6_leastBound h) (Nat.le_of_ble_eq_true rfl) (Nat.le_of_ble_eq_true rfl) (As := [.int v1]) (rest := []) rfl rfl (Nat.le_of_ble_eq_true rfl) 0 6 pX_0 rfl (fun x10 => ?_)
              exact gg_iret (pc := 108) hR dX6_seen_108
            · skip
              refine gg_ite (fun hc13 => ?_) (fun hc13 => ?_)
              · refine gg_tabIn (pc := 26) hC dX6_seen_26 (by rw [hc13]; decide) (by rw [hc13]; decide) (off := 83) (by rw [hc13]; rfl) (tgt := 109) rfl ?_
                refine gg_aload_n (pc := 109) hC dX6_seen_109 (i := 0) rfl 0 rfl ?_
                refine gg_iload_n (pc := 110) hC dX6_seen_110 (i := 1) rfl 1 rfl ?_
                refine gg_callVIr (pc := 111) hC dX6_seen_111 vX6_177 (fun _ h => mX6_greatestBound h) (Nat.le_of_ble_eq_true rfl) (Nat.le_of_ble_eq_true rfl) (As := [.int v1]) (rest := []) rfl rfl (Nat.le_of_ble_eq_true rfl) 0 6 pX_0 rfl (fun x12 => ?_)
                exact gg_iret (pc := 114) hR dX6_seen_114
              · skip
                refine gg_ite (fun hc14 => ?_) (fun hc14 => ?_)
                · refine gg_tabIn (pc := 26) hC dX6_seen_26 (by rw [hc14]; decide) (by rw [hc14]; decide) (off := 89) (by rw [hc14]; rfl) (tgt := 115) rfl ?_
                  refine gg_aload_n (pc := 115) hC dX6_seen_115 (i := 0) rfl 0 rfl ?_
                  refine gg_get (pc := 116) hC dX6_seen_116 fX6_33 0 pX_0 (v := .ref (A 4)) rfl ?_
                  refine gg_get (pc := 119) hC dX6_seen_119 fX6_180 4 pX_4 (v := .ref (A 18)) rfl ?_
                  refine gg_iload_n (pc := 122) hC dX6_seen_122 (i := 1) rfl 1 rfl ?_
                  refine gg_iald (pc := 123) hC dX6_seen_123 18 0 pX_18 rfl ?_
                  exact gg_iret (pc := 124) hR dX6_seen_124
                · skip
                  refine gg_ite (fun hc16 => ?_) (fun hc16 => ?_)
                  · refine gg_tabIn (pc := 26) hC dX6_seen_26 (by rw [hc16]; decide) (by rw [hc16]; decide) (off := 99) (by rw [hc16]; rfl) (tgt := 125) rfl ?_
                    refine gg_aload_n (pc := 125) hC dX6_seen_125 (i := 0) rfl 0 rfl ?_
                    refine gg_iload_n (pc := 126) hC dX6_seen_126 (i := 1) rfl 1 rfl ?_
                    refine gg_callVIr (pc := 127) hC dX6_seen_127 vX6_183 (fun _ h => mX6_isLastEdge h) (Nat.le_of_ble_eq_true rfl) (Nat.le_of_ble_eq_true rfl) (As := [.int v1]) (rest := []) rfl rfl (Nat.le_of_ble_eq_true rfl) 0 6 pX_0 rfl (fun x15 => ?_)
                    refine gg_if_eq (pc := 130) hC dX6_seen_130 (tgt := 137) rfl (fun _ => ?_) (fun _ => ?_)
                    · refine gg_aload_n (pc := 137) hC dX6_seen_137 (i := 0) rfl 0 rfl ?_
                      refine gg_get (pc := 138) hC dX6_seen_138 fX6_33 0 pX_0 (v := .ref (A 4)) rfl ?_
                      refine gg_get (pc := 141) hC dX6_seen_141 fX6_186 4 pX_4 (v := .ref (A 16)) rfl ?_
                      refine gg_iload_n (pc := 144) hC dX6_seen_144 (i := 1) rfl 1 rfl ?_
                      refine gg_iald (pc := 145) hC dX6_seen_145 16 0 pX_16 rfl ?_
                      exact gg_iret (pc := 146) hR dX6_seen_146
                    · refine gg_iconst (pc := 133) hC dX6_seen_133 (x := -1) rfl ?_
                      refine gg_goto (pc := 134) hC dX6_seen_134 (tgt := 146) rfl ?_
                      exact gg_iret (pc := 146) hR dX6_seen_146
                  · skip
                    refine gg_tabOut (pc := 26) hC dX6_seen_26 (zsw_out (n := 6) (Nat.le_of_ble_eq_true rfl) (fun k hk => by
                match k, hk with
                | 0, _ => exact hc4
                | 1, _ => exact hc6
                | 2, _ => exact hc9
                | 3, _ => exact hc11
                | 4, _ => exact hc13
                | 5, _ => exact hc14
                | 6, _ => exact hc16)) (tgt := 147) rfl ?_
                    refine gg_aload_n (pc := 147) hC dX6_seen_147 (i := 0) rfl 0 rfl ?_
                    refine gg_iload_n (pc := 148) hC dX6_seen_148 (i := 1) rfl 1 rfl ?_
                    refine gg_callVIr (pc := 149) hC dX6_seen_149 vX6_183 (fun _ h => mX6_isLastEdge h) (Nat.le_of_ble_eq_true rfl) (Nat.le_of_ble_eq_true rfl) (As := [.int v1]) (rest := []) rfl rfl (Nat.le_of_ble_eq_true rfl) 0 6 pX_0 rfl (fun x17 => ?_)
                    refine gg_if_ne (pc := 152) hC dX6_seen_152 (tgt := 171) rfl (fun _ => ?_) (fun _ => ?_)
                    · refine gg_aload_n (pc := 155) hC dX6_seen_155 (i := 0) rfl 0 rfl ?_
                      refine gg_get (pc := 156) hC dX6_seen_156 fX6_33 0 pX_0 (v := .ref (A 4)) rfl ?_
                      refine gg_get (pc := 159) hC dX6_seen_159 fX6_189 4 pX_4 (v := .ref (A 17)) rfl ?_
                      refine gg_iload_n (pc := 162) hC dX6_seen_162 (i := 1) rfl 1 rfl ?_
                      refine gg_zald (pc := 163) hC dX6_seen_163 17 2 pX_17 rfl ?_
                      refine gg_if_eq (pc := 164) hC dX6_seen_164 (tgt := 171) rfl (fun _ => ?_) (fun _ => ?_)
                      · refine gg_iconst (pc := 171) hC dX6_seen_171 (x := 0) rfl ?_
                        exact gg_iret (pc := 172) hR dX6_seen_172
                      · refine gg_iconst (pc := 167) hC dX6_seen_167 (x := 1) rfl ?_
                        refine gg_goto (pc := 168) hC dX6_seen_168 (tgt := 172) rfl ?_
                        exact gg_iret (pc := 172) hR dX6_seen_172
                    · refine gg_iconst (pc := 171) hC dX6_seen_171 (x := 0) rfl ?_
                      exact gg_iret (pc := 172) hR dX6_seen_172
def fX6_stamp (v1 : Int32) (v2 : Int32) (σ : zS) : Option (Int64 × zS) :=
    zy1 (fX6_isEdge v1 σ) (fun x1 =>
    if x1 = 0 then (zy1 (fX6_refusal (-2 : Int32) σ) (fun x2 =>
    some (x2, σ))) else
    (zy1 (fX6_isHalf v2 σ) (fun x3 =>
    if x3 = 0 then (zy1 (fX6_refusal (-2 : Int32) σ) (fun x4 =>
    some (x4, σ))) else
    (zy1 (fX6_renew σ) (fun s5 =>
    zg (zq v1 32) (zy1 (fX6_lowest (zj s5 0 v1.toNatClampNeg) ((zi s5 10).toInt64) v2 s5) (fun x6 =>
    some (x6, s5))))))))
set_option maxHeartbeats 4000000 in
set_option maxRecDepth 100000 in
theorem mX6_stamp {l : Launch} {D : va_G} {A : Nat → Nat} {cA : Nat → ClassId} {v1 : Int32} {v2 : Int32}  {σ : zS} {r : Int64 × zS} (h : fX6_stamp v1 v2 σ = some r) : zML l D (wX A cA) yX6_stamp (zws yX6_stamp cX6_stamp 3 (some .long)) 7 147 [.ref (A 0), .int v1, .int v2] σ r := by
  refine zm_L (lv := [(0, .ref (A 0)), (1, .int v1), (2, .int v2)]) rfl (sX_ok A) (Nat.le_of_ble_eq_true rfl) rfl (fun C _ _ hC hR => ?_) h
  unfold fX6_stamp
  refine gg_aload_n (pc := 0) hC dX6_stamp_0 (i := 0) rfl 0 rfl ?_
  refine gg_iload_n (pc := 1) hC dX6_stamp_1 (i := 1) rfl 1 rfl ?_
  refine gg_callVIr (pc := 2) hC dX6_stamp_2 vX6_91 (fun _ h => mX6_isEdge h) (Nat.le_of_ble_eq_true rfl) (Nat.le_of_ble_eq_true rfl) (As := [.int v1]) (rest := []) rfl rfl (Nat.le_of_ble_eq_true rfl) 0 6 pX_0 rfl (fun x1 => ?_)
  refine gg_if_eq (pc := 5) hC dX6_stamp_5 (tgt := 15) rfl (fun _ => ?_) (fun _ => ?_)
  · refine gg_bipush (pc := 15) hC dX6_stamp_15 (x := -2) rfl ?_
    refine gg_callSLr (pc := 17) hC dX6_stamp_17 cX6_140 (fun _ h => mX6_refusal h) (Nat.le_of_ble_eq_true rfl) (Nat.le_of_ble_eq_true rfl) (As := [.int (-2 : Int32)]) (rest := []) rfl rfl (Nat.le_of_ble_eq_true rfl) (fun x2 => ?_)
    exact gg_lret (pc := 20) hR dX6_stamp_20
  · refine gg_iload_n (pc := 8) hC dX6_stamp_8 (i := 2) rfl 2 rfl ?_
    refine gg_callSIr (pc := 9) hC dX6_stamp_9 cX6_137 (fun _ h => mX6_isHalf h) (Nat.le_of_ble_eq_true rfl) (Nat.le_of_ble_eq_true rfl) (As := [.int v2]) (rest := []) rfl rfl (Nat.le_of_ble_eq_true rfl) (fun x3 => ?_)
    refine gg_if_ne (pc := 12) hC dX6_stamp_12 (tgt := 21) rfl (fun _ => ?_) (fun _ => ?_)
    · refine gg_bipush (pc := 15) hC dX6_stamp_15 (x := -2) rfl ?_
      refine gg_callSLr (pc := 17) hC dX6_stamp_17 cX6_140 (fun _ h => mX6_refusal h) (Nat.le_of_ble_eq_true rfl) (Nat.le_of_ble_eq_true rfl) (As := [.int (-2 : Int32)]) (rest := []) rfl rfl (Nat.le_of_ble_eq_true rfl) (fun x4 => ?_)
      exact gg_lret (pc := 20) hR dX6_stamp_20
    · refine gg_aload_n (pc := 21) hC dX6_stamp_21 (i := 0) rfl 0 rfl ?_
      refine gg_callVV (pc := 22) hC dX6_stamp_22 vX6_162 (fun _ h => mX6_renew h) (Nat.le_of_ble_eq_true rfl) (Nat.le_of_ble_eq_true rfl) (As := []) (rest := []) rfl rfl (Nat.le_of_ble_eq_true rfl) 0 6 pX_0 rfl (fun s5 => ?_)
      refine gg_aload_n (pc := 25) hC dX6_stamp_25 (i := 0) rfl 0 rfl ?_
      refine gg_get (pc := 26) hC dX6_stamp_26 fX6_33 0 pX_0 (v := .ref (A 4)) rfl ?_
      refine gg_get (pc := 29) hC dX6_stamp_29 fX6_193 4 pX_4 (v := .ref (A 15)) rfl ?_
      refine gg_iload_n (pc := 32) hC dX6_stamp_32 (i := 1) rfl 1 rfl ?_
      refine gg_lald (pc := 33) hC dX6_stamp_33 15 1 pX_15 rfl ?_
      refine gg_aload_n (pc := 34) hC dX6_stamp_34 (i := 0) rfl 0 rfl ?_
      refine gg_get (pc := 35) hC dX6_stamp_35 fX6_33 0 pX_0 (v := .ref (A 4)) rfl ?_
      refine gg_get (pc := 38) hC dX6_stamp_38 fX6_197 4 pX_4 (v := .int (zi s5 10)) rfl ?_
      refine gg_i2l (pc := 41) hC dX6_stamp_41 ?_
      refine gg_iload_n (pc := 42) hC dX6_stamp_42 (i := 2) rfl 2 rfl ?_
      refine gg_callSLr (pc := 43) hC dX6_stamp_43 cX6_146 (fun _ h => mX6_lowest h) (Nat.le_of_ble_eq_true rfl) (Nat.le_of_ble_eq_true rfl) (As := [.long (zj s5 0 v1.toNatClampNeg), .long ((zi s5 10).toInt64), .int v2]) (rest := []) rfl rfl (Nat.le_of_ble_eq_true rfl) (fun x6 => ?_)
      exact gg_lret (pc := 46) hR dX6_stamp_46
def fX6_mixEdges_20 (v5 : Int32) : Nat → Int64 → Int32 → zS → Option (Int64 × zS)
  | 0, _, _, _ => none
  | n + 1, v3, v6, σ =>
    if 7 < v6 then (some (v3, σ)) else
    (zy2 (fX6_seen v5 v6 σ) (fun x1 s2 =>
    zy1 (fX6_mix v3 (x1.toInt64) s2) (fun x3 =>
    fX6_mixEdges_20 v5 n x3 (v6 + 1) s2)))
def fX6_mixEdges_5 : Nat → Int64 → Int32 → zS → Option (Int64 × zS)
  | 0, _, _, _ => none
  | n + 1, v3, v5, σ =>
    if (zi σ 5) ≤ v5 then (some (v3, σ)) else
    (zy2 (fX6_mixEdges_20 v5 500 v3 0 σ) (fun (x1 : Int64) (s2 : zS) =>
    zy2 (fX6_stamp v5 0 s2) (fun x3 s4 =>
    zy1 (fX6_mix x1 x3 s4) (fun x5 =>
    zy2 (fX6_stamp v5 1 s4) (fun x6 s7 =>
    zy1 (fX6_mix x5 x6 s7) (fun x8 =>
    fX6_mixEdges_5  n x8 (v5 + 1) s7))))))
def fX6_mixEdges (v1 : Int64) (σ : zS) : Option (Int64 × zS) :=
    zy2 (fX6_mixEdges_5  500 v1 0 σ) (fun (x1 : Int64) (s2 : zS) =>
    some (x1, s2))
set_option maxHeartbeats 4000000 in
set_option maxRecDepth 100000 in
theorem lX6_mixEdges_20 {C : zK} {A : Nat → Nat} {cA : Nat → ClassId} (hC : zOK C (wX A cA) cX6_mixEdges RX6 7 8 169) {v5 : Int32} : ∀ (n : Nat) (v3 : Int64) (v6 : Int32) (σ : zS), zG C (wX A cA) 7 (fun q => zW C (wX A cA) 7 47 [(0, .ref (A 0)), (3, .long q.1), (5, .int v5)] [] q.2) (fX6_mixEdges_20 v5 n v3 v6 σ) 20 [(0, .ref (A 0)), (3, .long v3), (5, .int v5), (6, .int v6)] [] σ := by
  intro n
  induction n with
  | zero => intro v3 v6 σ; exact gg_none (o := none)
  | succ n ih =>
    intro v3 v6 σ
    rw [fX6_mixEdges_20]
    refine gg_iload (pc := 20) hC dX6_mixEdges_20 3 rfl ?_
    refine gg_bipush (pc := 22) hC dX6_mixEdges_22 (x := 7) rfl ?_
    refine gg_icmp_gt (pc := 24) hC dX6_mixEdges_24 (tgt := 47) rfl (fun _ => ?_) (fun _ => ?_)
    · exact gg_y (fun h => zW_lv [0, 1, 2] rfl h)
    · refine gg_lload_n (pc := 27) hC dX6_mixEdges_27 (i := 3) rfl 1 rfl ?_
      refine gg_aload_n (pc := 28) hC dX6_mixEdges_28 (i := 0) rfl 0 rfl ?_
      refine gg_iload (pc := 29) hC dX6_mixEdges_29 2 rfl ?_
      refine gg_iload (pc := 31) hC dX6_mixEdges_31 3 rfl ?_
      refine gg_callVI (pc := 33) hC dX6_mixEdges_33 vX6_361 (fun _ h => mX6_seen h) (Nat.le_of_ble_eq_true rfl) (Nat.le_of_ble_eq_true rfl) (As := [.int v5, .int v6]) (rest := [.long v3]) rfl rfl (Nat.le_of_ble_eq_true rfl) 0 6 pX_0 rfl (fun x1 s2 => ?_)
      refine gg_i2l (pc := 36) hC dX6_mixEdges_36 ?_
      refine gg_callSLr (pc := 37) hC dX6_mixEdges_37 cX6_320 (fun _ h => mX6_mix h) (Nat.le_of_ble_eq_true rfl) (Nat.le_of_ble_eq_true rfl) (As := [.long v3, .long (x1.toInt64)]) (rest := []) rfl rfl (Nat.le_of_ble_eq_true rfl) (fun x3 => ?_)
      refine gg_lstore_n (pc := 40) hC dX6_mixEdges_40 (i := 3) rfl (Nat.le_of_ble_eq_true rfl) (lv' := [(3, .long x3), (0, .ref (A 0)), (5, .int v5), (6, .int v6)]) rfl ?_
      refine gg_iinc (pc := 41) hC dX6_mixEdges_41 (y := 0) (j := 3) rfl (z := 1) rfl (Nat.le_of_ble_eq_true rfl) (lv' := [(6, .int (v6 + 1)), (3, .long x3), (0, .ref (A 0)), (5, .int v5)]) rfl ?_
      refine gg_goto (pc := 44) hC dX6_mixEdges_44 (tgt := 20) rfl ?_
      exact gg_lv [2, 1, 3, 0] rfl (ih _ _ _)
set_option maxHeartbeats 4000000 in
set_option maxRecDepth 100000 in
theorem lX6_mixEdges_5 {C : zK} {A : Nat → Nat} {cA : Nat → ClassId} (hC : zOK C (wX A cA) cX6_mixEdges RX6 7 8 169) : ∀ (n : Nat) (v3 : Int64) (v5 : Int32) (σ : zS), zG C (wX A cA) 7 (fun q => zW C (wX A cA) 7 75 [(3, .long q.1)] [] q.2) (fX6_mixEdges_5  n v3 v5 σ) 5 [(0, .ref (A 0)), (3, .long v3), (5, .int v5)] [] σ := by
  intro n
  induction n with
  | zero => intro v3 v5 σ; exact gg_none (o := none)
  | succ n ih =>
    intro v3 v5 σ
    rw [fX6_mixEdges_5]
    refine gg_iload (pc := 5) hC dX6_mixEdges_5 2 rfl ?_
    refine gg_aload_n (pc := 7) hC dX6_mixEdges_7 (i := 0) rfl 0 rfl ?_
    refine gg_get (pc := 8) hC dX6_mixEdges_8 fX6_10 0 pX_0 (v := .ref (A 1)) rfl ?_
    refine gg_get (pc := 11) hC dX6_mixEdges_11 fX6_97 1 pX_1 (v := .int (zi σ 5)) rfl ?_
    refine gg_icmp_ge (pc := 14) hC dX6_mixEdges_14 (tgt := 75) rfl (fun _ => ?_) (fun _ => ?_)
    · exact gg_y (fun h => zW_lv [1] rfl h)
    · refine gg_iconst (pc := 17) hC dX6_mixEdges_17 (x := 0) rfl ?_
      refine gg_istore (pc := 18) hC dX6_mixEdges_18 (Nat.le_of_ble_eq_true rfl) (lv' := [(6, .int 0), (0, .ref (A 0)), (3, .long v3), (5, .int v5)]) rfl ?_
      refine gg_join2 (E' := (fun q => zW C (wX A cA) 7 47 [(0, .ref (A 0)), (3, .long q.1), (5, .int v5)] [] q.2)) (gg_lv [1, 2, 3, 0] rfl (lX6_mixEdges_20 hC  500 _ _ _)) (fun x1 s2 => ?_)
      show zG C (wX A cA) 7 _ _ 47 [(0, .ref (A 0)), (3, .long x1), (5, .int v5)] [] s2
      refine gg_lload_n (pc := 47) hC dX6_mixEdges_47 (i := 3) rfl 1 rfl ?_
      refine gg_aload_n (pc := 48) hC dX6_mixEdges_48 (i := 0) rfl 0 rfl ?_
      refine gg_iload (pc := 49) hC dX6_mixEdges_49 2 rfl ?_
      refine gg_iconst (pc := 51) hC dX6_mixEdges_51 (x := 0) rfl ?_
      refine gg_callVL (pc := 52) hC dX6_mixEdges_52 vX6_364 (fun _ h => mX6_stamp h) (Nat.le_of_ble_eq_true rfl) (Nat.le_of_ble_eq_true rfl) (As := [.int v5, .int 0]) (rest := [.long x1]) rfl rfl (Nat.le_of_ble_eq_true rfl) 0 6 pX_0 rfl (fun x3 s4 => ?_)
      refine gg_callSLr (pc := 55) hC dX6_mixEdges_55 cX6_320 (fun _ h => mX6_mix h) (Nat.le_of_ble_eq_true rfl) (Nat.le_of_ble_eq_true rfl) (As := [.long x1, .long x3]) (rest := []) rfl rfl (Nat.le_of_ble_eq_true rfl) (fun x5 => ?_)
      refine gg_aload_n (pc := 58) hC dX6_mixEdges_58 (i := 0) rfl 0 rfl ?_
      refine gg_iload (pc := 59) hC dX6_mixEdges_59 2 rfl ?_
      refine gg_iconst (pc := 61) hC dX6_mixEdges_61 (x := 1) rfl ?_
      refine gg_callVL (pc := 62) hC dX6_mixEdges_62 vX6_364 (fun _ h => mX6_stamp h) (Nat.le_of_ble_eq_true rfl) (Nat.le_of_ble_eq_true rfl) (As := [.int v5, .int 1]) (rest := [.long x5]) rfl rfl (Nat.le_of_ble_eq_true rfl) 0 6 pX_0 rfl (fun x6 s7 => ?_)
      refine gg_callSLr (pc := 65) hC dX6_mixEdges_65 cX6_320 (fun _ h => mX6_mix h) (Nat.le_of_ble_eq_true rfl) (Nat.le_of_ble_eq_true rfl) (As := [.long x5, .long x6]) (rest := []) rfl rfl (Nat.le_of_ble_eq_true rfl) (fun x8 => ?_)
      refine gg_lstore_n (pc := 68) hC dX6_mixEdges_68 (i := 3) rfl (Nat.le_of_ble_eq_true rfl) (lv' := [(3, .long x8), (0, .ref (A 0)), (5, .int v5)]) rfl ?_
      refine gg_iinc (pc := 69) hC dX6_mixEdges_69 (y := 0) (j := 2) rfl (z := 1) rfl (Nat.le_of_ble_eq_true rfl) (lv' := [(5, .int (v5 + 1)), (3, .long x8), (0, .ref (A 0))]) rfl ?_
      refine gg_goto (pc := 72) hC dX6_mixEdges_72 (tgt := 5) rfl ?_
      exact gg_lv [2, 1, 0] rfl (ih _ _ _)
set_option maxHeartbeats 4000000 in
set_option maxRecDepth 100000 in
theorem mX6_mixEdges {l : Launch} {D : va_G} {A : Nat → Nat} {cA : Nat → ClassId} {v1 : Int64}  {σ : zS} {r : Int64 × zS} (h : fX6_mixEdges v1 σ = some r) : zML l D (wX A cA) yX6_mixEdges (zws yX6_mixEdges cX6_mixEdges 7 (some .long)) 8 169 [.ref (A 0), .long v1] σ r := by
  refine zm_L (lv := [(0, .ref (A 0)), (1, .long v1)]) rfl (sX_ok A) (Nat.le_of_ble_eq_true rfl) rfl (fun C _ _ hC hR => ?_) h
  unfold fX6_mixEdges
  refine gg_lload_n (pc := 0) hC dX6_mixEdges_0 (i := 1) rfl 1 rfl ?_
  refine gg_lstore_n (pc := 1) hC dX6_mixEdges_1 (i := 3) rfl (Nat.le_of_ble_eq_true rfl) (lv' := [(3, .long v1), (0, .ref (A 0)), (1, .long v1)]) rfl ?_
  refine gg_iconst (pc := 2) hC dX6_mixEdges_2 (x := 0) rfl ?_
  refine gg_istore (pc := 3) hC dX6_mixEdges_3 (Nat.le_of_ble_eq_true rfl) (lv' := [(5, .int 0), (3, .long v1), (0, .ref (A 0)), (1, .long v1)]) rfl ?_
  refine gg_join2 (E' := (fun q => zW C (wX A cA) 7 75 [(3, .long q.1)] [] q.2)) (gg_lv [2, 1, 0] rfl (lX6_mixEdges_5 hC  500 _ _ _)) (fun x1 s2 => ?_)
  show zG C (wX A cA) 7 _ _ 75 [(3, .long x1)] [] s2
  refine gg_lload_n (pc := 75) hC dX6_mixEdges_75 (i := 3) rfl 0 rfl ?_
  exact gg_lret (pc := 76) hR dX6_mixEdges_76
def fX6_isEdgePair (v1 : Int32) (v2 : Int32) (σ : zS) : Option (Int32) :=
    zy1 (fX6_isEdge v1 σ) (fun x1 =>
    if x1 = 0 then (some 0) else
    (zy1 (fX6_isEdge v2 σ) (fun x2 =>
    if x2 = 0 then (some 0) else
    (if v2 ≤ v1 then (some 0) else
    (some 1)))))
set_option maxHeartbeats 4000000 in
set_option maxRecDepth 100000 in
theorem mX6_isEdgePair {l : Launch} {D : va_G} {A : Nat → Nat} {cA : Nat → ClassId} {v1 : Int32} {v2 : Int32}  {σ : zS} {r : Int32} (h : fX6_isEdgePair v1 v2 σ = some r) : zMI l D (wX A cA) yX6_isEdgePair (zws yX6_isEdgePair cX6_isEdgePair 3 (some .boolean)) 2 43 [.ref (A 0), .int v1, .int v2] σ (r, σ) := by
  refine zm_Zr (lv := [(0, .ref (A 0)), (1, .int v1), (2, .int v2)]) rfl (sX_ok A) (Nat.le_of_ble_eq_true rfl) rfl (fun C _ _ hC hR => ?_) h
  unfold fX6_isEdgePair
  refine gg_aload_n (pc := 0) hC dX6_isEdgePair_0 (i := 0) rfl 0 rfl ?_
  refine gg_iload_n (pc := 1) hC dX6_isEdgePair_1 (i := 1) rfl 1 rfl ?_
  refine gg_callVIr (pc := 2) hC dX6_isEdgePair_2 vX6_91 (fun _ h => mX6_isEdge h) (Nat.le_of_ble_eq_true rfl) (Nat.le_of_ble_eq_true rfl) (As := [.int v1]) (rest := []) rfl rfl (Nat.le_of_ble_eq_true rfl) 0 6 pX_0 rfl (fun x1 => ?_)
  refine gg_if_eq (pc := 5) hC dX6_isEdgePair_5 (tgt := 25) rfl (fun _ => ?_) (fun _ => ?_)
  · refine gg_iconst (pc := 25) hC dX6_isEdgePair_25 (x := 0) rfl ?_
    exact gg_zretr (pc := 26) hR dX6_isEdgePair_26 rfl
  · refine gg_aload_n (pc := 8) hC dX6_isEdgePair_8 (i := 0) rfl 0 rfl ?_
    refine gg_iload_n (pc := 9) hC dX6_isEdgePair_9 (i := 2) rfl 2 rfl ?_
    refine gg_callVIr (pc := 10) hC dX6_isEdgePair_10 vX6_91 (fun _ h => mX6_isEdge h) (Nat.le_of_ble_eq_true rfl) (Nat.le_of_ble_eq_true rfl) (As := [.int v2]) (rest := []) rfl rfl (Nat.le_of_ble_eq_true rfl) 0 6 pX_0 rfl (fun x2 => ?_)
    refine gg_if_eq (pc := 13) hC dX6_isEdgePair_13 (tgt := 25) rfl (fun _ => ?_) (fun _ => ?_)
    · refine gg_iconst (pc := 25) hC dX6_isEdgePair_25 (x := 0) rfl ?_
      exact gg_zretr (pc := 26) hR dX6_isEdgePair_26 rfl
    · refine gg_iload_n (pc := 16) hC dX6_isEdgePair_16 (i := 1) rfl 1 rfl ?_
      refine gg_iload_n (pc := 17) hC dX6_isEdgePair_17 (i := 2) rfl 2 rfl ?_
      refine gg_icmp_ge (pc := 18) hC dX6_isEdgePair_18 (tgt := 25) rfl (fun _ => ?_) (fun _ => ?_)
      · refine gg_iconst (pc := 25) hC dX6_isEdgePair_25 (x := 0) rfl ?_
        exact gg_zretr (pc := 26) hR dX6_isEdgePair_26 rfl
      · refine gg_iconst (pc := 21) hC dX6_isEdgePair_21 (x := 1) rfl ?_
        refine gg_goto (pc := 22) hC dX6_isEdgePair_22 (tgt := 26) rfl ?_
        exact gg_zretr (pc := 26) hR dX6_isEdgePair_26 rfl
def fX6_fit (v1 : Int32) (v2 : Int32) (v3 : Int32) (σ : zS) : Option (Int64 × zS) :=
    zy1 (fX6_isEdgePair v1 v2 σ) (fun x1 =>
    if x1 = 0 then (zy1 (fX6_refusal (-2 : Int32) σ) (fun x2 =>
    some (x2, σ))) else
    (zy1 (fX6_isHalf v3 σ) (fun x3 =>
    if x3 = 0 then (zy1 (fX6_refusal (-2 : Int32) σ) (fun x4 =>
    some (x4, σ))) else
    (zy1 (fX6_renew σ) (fun s5 =>
    zy1 (fX2_fitAbove v1 v2 s5) (fun x6 =>
    zy1 (fX2_fitBelow v1 v2 s5) (fun x7 =>
    zy1 (fX6_lowest x6 (x7 * ((zi s5 10).toInt64)) v3 s5) (fun x8 =>
    some (x8, s5)))))))))
set_option maxHeartbeats 4000000 in
set_option maxRecDepth 100000 in
theorem mX6_fit {l : Launch} {D : va_G} {A : Nat → Nat} {cA : Nat → ClassId} {v1 : Int32} {v2 : Int32} {v3 : Int32}  {σ : zS} {r : Int64 × zS} (h : fX6_fit v1 v2 v3 σ = some r) : zML l D (wX A cA) yX6_fit (zws yX6_fit cX6_fit 4 (some .long)) 7 147 [.ref (A 0), .int v1, .int v2, .int v3] σ r := by
  refine zm_L (lv := [(0, .ref (A 0)), (1, .int v1), (2, .int v2), (3, .int v3)]) rfl (sX_ok A) (Nat.le_of_ble_eq_true rfl) rfl (fun C _ _ hC hR => ?_) h
  unfold fX6_fit
  refine gg_aload_n (pc := 0) hC dX6_fit_0 (i := 0) rfl 0 rfl ?_
  refine gg_iload_n (pc := 1) hC dX6_fit_1 (i := 1) rfl 1 rfl ?_
  refine gg_iload_n (pc := 2) hC dX6_fit_2 (i := 2) rfl 2 rfl ?_
  refine gg_callVIr (pc := 3) hC dX6_fit_3 vX6_227 (fun _ h => mX6_isEdgePair h) (Nat.le_of_ble_eq_true rfl) (Nat.le_of_ble_eq_true rfl) (As := [.int v1, .int v2]) (rest := []) rfl rfl (Nat.le_of_ble_eq_true rfl) 0 6 pX_0 rfl (fun x1 => ?_)
  refine gg_if_eq (pc := 6) hC dX6_fit_6 (tgt := 16) rfl (fun _ => ?_) (fun _ => ?_)
  · refine gg_bipush (pc := 16) hC dX6_fit_16 (x := -2) rfl ?_
    refine gg_callSLr (pc := 18) hC dX6_fit_18 cX6_140 (fun _ h => mX6_refusal h) (Nat.le_of_ble_eq_true rfl) (Nat.le_of_ble_eq_true rfl) (As := [.int (-2 : Int32)]) (rest := []) rfl rfl (Nat.le_of_ble_eq_true rfl) (fun x2 => ?_)
    exact gg_lret (pc := 21) hR dX6_fit_21
  · refine gg_iload_n (pc := 9) hC dX6_fit_9 (i := 3) rfl 3 rfl ?_
    refine gg_callSIr (pc := 10) hC dX6_fit_10 cX6_137 (fun _ h => mX6_isHalf h) (Nat.le_of_ble_eq_true rfl) (Nat.le_of_ble_eq_true rfl) (As := [.int v3]) (rest := []) rfl rfl (Nat.le_of_ble_eq_true rfl) (fun x3 => ?_)
    refine gg_if_ne (pc := 13) hC dX6_fit_13 (tgt := 22) rfl (fun _ => ?_) (fun _ => ?_)
    · refine gg_bipush (pc := 16) hC dX6_fit_16 (x := -2) rfl ?_
      refine gg_callSLr (pc := 18) hC dX6_fit_18 cX6_140 (fun _ h => mX6_refusal h) (Nat.le_of_ble_eq_true rfl) (Nat.le_of_ble_eq_true rfl) (As := [.int (-2 : Int32)]) (rest := []) rfl rfl (Nat.le_of_ble_eq_true rfl) (fun x4 => ?_)
      exact gg_lret (pc := 21) hR dX6_fit_21
    · refine gg_aload_n (pc := 22) hC dX6_fit_22 (i := 0) rfl 0 rfl ?_
      refine gg_callVV (pc := 23) hC dX6_fit_23 vX6_162 (fun _ h => mX6_renew h) (Nat.le_of_ble_eq_true rfl) (Nat.le_of_ble_eq_true rfl) (As := []) (rest := []) rfl rfl (Nat.le_of_ble_eq_true rfl) 0 6 pX_0 rfl (fun s5 => ?_)
      refine gg_aload_n (pc := 26) hC dX6_fit_26 (i := 0) rfl 0 rfl ?_
      refine gg_get (pc := 27) hC dX6_fit_27 fX6_33 0 pX_0 (v := .ref (A 4)) rfl ?_
      refine gg_iload_n (pc := 30) hC dX6_fit_30 (i := 1) rfl 1 rfl ?_
      refine gg_iload_n (pc := 31) hC dX6_fit_31 (i := 2) rfl 2 rfl ?_
      refine gg_callVLr (pc := 32) hC dX6_fit_32 vX6_231 (fun _ h => mX2_fitAbove h) (Nat.le_of_ble_eq_true rfl) (Nat.le_of_ble_eq_true rfl) (As := [.int v1, .int v2]) (rest := []) rfl rfl (Nat.le_of_ble_eq_true rfl) 4 2 pX_4 rfl (fun x6 => ?_)
      refine gg_aload_n (pc := 35) hC dX6_fit_35 (i := 0) rfl 0 rfl ?_
      refine gg_get (pc := 36) hC dX6_fit_36 fX6_33 0 pX_0 (v := .ref (A 4)) rfl ?_
      refine gg_iload_n (pc := 39) hC dX6_fit_39 (i := 1) rfl 1 rfl ?_
      refine gg_iload_n (pc := 40) hC dX6_fit_40 (i := 2) rfl 2 rfl ?_
      refine gg_callVLr (pc := 41) hC dX6_fit_41 vX6_235 (fun _ h => mX2_fitBelow h) (Nat.le_of_ble_eq_true rfl) (Nat.le_of_ble_eq_true rfl) (As := [.int v1, .int v2]) (rest := [.long x6]) rfl rfl (Nat.le_of_ble_eq_true rfl) 4 2 pX_4 rfl (fun x7 => ?_)
      refine gg_aload_n (pc := 44) hC dX6_fit_44 (i := 0) rfl 0 rfl ?_
      refine gg_get (pc := 45) hC dX6_fit_45 fX6_33 0 pX_0 (v := .ref (A 4)) rfl ?_
      refine gg_get (pc := 48) hC dX6_fit_48 fX6_197 4 pX_4 (v := .int (zi s5 10)) rfl ?_
      refine gg_i2l (pc := 51) hC dX6_fit_51 ?_
      refine gg_lmul (pc := 52) hC dX6_fit_52 ?_
      refine gg_iload_n (pc := 53) hC dX6_fit_53 (i := 3) rfl 3 rfl ?_
      refine gg_callSLr (pc := 54) hC dX6_fit_54 cX6_146 (fun _ h => mX6_lowest h) (Nat.le_of_ble_eq_true rfl) (Nat.le_of_ble_eq_true rfl) (As := [.long x6, .long (x7 * ((zi s5 10).toInt64)), .int v3]) (rest := []) rfl rfl (Nat.le_of_ble_eq_true rfl) (fun x8 => ?_)
      exact gg_lret (pc := 57) hR dX6_fit_57
def fX6_off (v1 : Int32) (v2 : Int32) (σ : zS) : Option (Int32 × zS) :=
    zy1 (fX6_isEdgePair v1 v2 σ) (fun x1 =>
    if x1 = 0 then (some ((-2 : Int32), σ)) else
    (zy1 (fX6_renew σ) (fun s2 =>
    zy1 (fX2_farthest v1 v2 s2) (fun x3 =>
    some (x3, s2)))))
set_option maxHeartbeats 4000000 in
set_option maxRecDepth 100000 in
theorem mX6_off {l : Launch} {D : va_G} {A : Nat → Nat} {cA : Nat → ClassId} {v1 : Int32} {v2 : Int32}  {σ : zS} {r : Int32 × zS} (h : fX6_off v1 v2 σ = some r) : zMI l D (wX A cA) yX6_off (zws yX6_off cX6_off 3 (some .int)) 7 147 [.ref (A 0), .int v1, .int v2] σ r := by
  refine zm_I (lv := [(0, .ref (A 0)), (1, .int v1), (2, .int v2)]) rfl (sX_ok A) (Nat.le_of_ble_eq_true rfl) rfl (fun C _ _ hC hR => ?_) h
  unfold fX6_off
  refine gg_aload_n (pc := 0) hC dX6_off_0 (i := 0) rfl 0 rfl ?_
  refine gg_iload_n (pc := 1) hC dX6_off_1 (i := 1) rfl 1 rfl ?_
  refine gg_iload_n (pc := 2) hC dX6_off_2 (i := 2) rfl 2 rfl ?_
  refine gg_callVIr (pc := 3) hC dX6_off_3 vX6_227 (fun _ h => mX6_isEdgePair h) (Nat.le_of_ble_eq_true rfl) (Nat.le_of_ble_eq_true rfl) (As := [.int v1, .int v2]) (rest := []) rfl rfl (Nat.le_of_ble_eq_true rfl) 0 6 pX_0 rfl (fun x1 => ?_)
  refine gg_if_ne (pc := 6) hC dX6_off_6 (tgt := 12) rfl (fun _ => ?_) (fun _ => ?_)
  · refine gg_bipush (pc := 9) hC dX6_off_9 (x := -2) rfl ?_
    exact gg_iret (pc := 11) hR dX6_off_11
  · refine gg_aload_n (pc := 12) hC dX6_off_12 (i := 0) rfl 0 rfl ?_
    refine gg_callVV (pc := 13) hC dX6_off_13 vX6_162 (fun _ h => mX6_renew h) (Nat.le_of_ble_eq_true rfl) (Nat.le_of_ble_eq_true rfl) (As := []) (rest := []) rfl rfl (Nat.le_of_ble_eq_true rfl) 0 6 pX_0 rfl (fun s2 => ?_)
    refine gg_aload_n (pc := 16) hC dX6_off_16 (i := 0) rfl 0 rfl ?_
    refine gg_get (pc := 17) hC dX6_off_17 fX6_33 0 pX_0 (v := .ref (A 4)) rfl ?_
    refine gg_iload_n (pc := 20) hC dX6_off_20 (i := 1) rfl 1 rfl ?_
    refine gg_iload_n (pc := 21) hC dX6_off_21 (i := 2) rfl 2 rfl ?_
    refine gg_callVIr (pc := 22) hC dX6_off_22 vX6_238 (fun _ h => mX2_farthest h) (Nat.le_of_ble_eq_true rfl) (Nat.le_of_ble_eq_true rfl) (As := [.int v1, .int v2]) (rest := []) rfl rfl (Nat.le_of_ble_eq_true rfl) 4 2 pX_4 rfl (fun x3 => ?_)
    exact gg_iret (pc := 25) hR dX6_off_25
def fX6_mixFit (v1 : Int64) (σ : zS) : Option (Int64 × zS) :=
    if 2 ≤ (zi σ 5) then (zv ((zi σ 5) - 1) (fun (x1 : Int32) =>
    zy2 (fX6_fit 0 x1 0 σ) (fun x2 s3 =>
    zy1 (fX6_mix v1 x2 s3) (fun x4 =>
    zy2 (fX6_fit 0 x1 1 s3) (fun x5 s6 =>
    zy1 (fX6_mix x4 x5 s6) (fun x7 =>
    zy2 (fX6_off 0 x1 s6) (fun x8 s9 =>
    zy1 (fX6_mix x7 (x8.toInt64) s9) (fun x10 =>
    some (x10, s9))))))))) else
    (some (v1, σ))
set_option maxHeartbeats 4000000 in
set_option maxRecDepth 100000 in
theorem mX6_mixFit {l : Launch} {D : va_G} {A : Nat → Nat} {cA : Nat → ClassId} {v1 : Int64}  {σ : zS} {r : Int64 × zS} (h : fX6_mixFit v1 σ = some r) : zML l D (wX A cA) yX6_mixFit (zws yX6_mixFit cX6_mixFit 4 (some .long)) 8 170 [.ref (A 0), .long v1] σ r := by
  refine zm_L (lv := [(0, .ref (A 0)), (1, .long v1)]) rfl (sX_ok A) (Nat.le_of_ble_eq_true rfl) rfl (fun C _ _ hC hR => ?_) h
  unfold fX6_mixFit
  refine gg_aload_n (pc := 0) hC dX6_mixFit_0 (i := 0) rfl 0 rfl ?_
  refine gg_get (pc := 1) hC dX6_mixFit_1 fX6_10 0 pX_0 (v := .ref (A 1)) rfl ?_
  refine gg_get (pc := 4) hC dX6_mixFit_4 fX6_97 1 pX_1 (v := .int (zi σ 5)) rfl ?_
  refine gg_iconst (pc := 7) hC dX6_mixFit_7 (x := 2) rfl ?_
  refine gg_icmp_ge (pc := 8) hC dX6_mixFit_8 (tgt := 13) rfl (fun _ => ?_) (fun _ => ?_)
  · refine gg_aload_n (pc := 13) hC dX6_mixFit_13 (i := 0) rfl 0 rfl ?_
    refine gg_get (pc := 14) hC dX6_mixFit_14 fX6_10 0 pX_0 (v := .ref (A 1)) rfl ?_
    refine gg_get (pc := 17) hC dX6_mixFit_17 fX6_97 1 pX_1 (v := .int (zi σ 5)) rfl ?_
    refine gg_iconst (pc := 20) hC dX6_mixFit_20 (x := 1) rfl ?_
    refine gg_isub (pc := 21) hC dX6_mixFit_21 ?_
    refine gg_zvi (fun x1 => ?_)
    refine gg_istore_n (pc := 22) hC dX6_mixFit_22 (i := 3) rfl (Nat.le_of_ble_eq_true rfl) (lv' := [(3, .int x1), (0, .ref (A 0)), (1, .long v1)]) rfl ?_
    refine gg_lload_n (pc := 23) hC dX6_mixFit_23 (i := 1) rfl 2 rfl ?_
    refine gg_aload_n (pc := 24) hC dX6_mixFit_24 (i := 0) rfl 1 rfl ?_
    refine gg_iconst (pc := 25) hC dX6_mixFit_25 (x := 0) rfl ?_
    refine gg_iload_n (pc := 26) hC dX6_mixFit_26 (i := 3) rfl 0 rfl ?_
    refine gg_iconst (pc := 27) hC dX6_mixFit_27 (x := 0) rfl ?_
    refine gg_callVL (pc := 28) hC dX6_mixFit_28 vX6_380 (fun _ h => mX6_fit h) (Nat.le_of_ble_eq_true rfl) (Nat.le_of_ble_eq_true rfl) (As := [.int 0, .int x1, .int 0]) (rest := [.long v1]) rfl rfl (Nat.le_of_ble_eq_true rfl) 0 6 pX_0 rfl (fun x2 s3 => ?_)
    refine gg_callSLr (pc := 31) hC dX6_mixFit_31 cX6_320 (fun _ h => mX6_mix h) (Nat.le_of_ble_eq_true rfl) (Nat.le_of_ble_eq_true rfl) (As := [.long v1, .long x2]) (rest := []) rfl rfl (Nat.le_of_ble_eq_true rfl) (fun x4 => ?_)
    refine gg_aload_n (pc := 34) hC dX6_mixFit_34 (i := 0) rfl 1 rfl ?_
    refine gg_iconst (pc := 35) hC dX6_mixFit_35 (x := 0) rfl ?_
    refine gg_iload_n (pc := 36) hC dX6_mixFit_36 (i := 3) rfl 0 rfl ?_
    refine gg_iconst (pc := 37) hC dX6_mixFit_37 (x := 1) rfl ?_
    refine gg_callVL (pc := 38) hC dX6_mixFit_38 vX6_380 (fun _ h => mX6_fit h) (Nat.le_of_ble_eq_true rfl) (Nat.le_of_ble_eq_true rfl) (As := [.int 0, .int x1, .int 1]) (rest := [.long x4]) rfl rfl (Nat.le_of_ble_eq_true rfl) 0 6 pX_0 rfl (fun x5 s6 => ?_)
    refine gg_callSLr (pc := 41) hC dX6_mixFit_41 cX6_320 (fun _ h => mX6_mix h) (Nat.le_of_ble_eq_true rfl) (Nat.le_of_ble_eq_true rfl) (As := [.long x4, .long x5]) (rest := []) rfl rfl (Nat.le_of_ble_eq_true rfl) (fun x7 => ?_)
    refine gg_aload_n (pc := 44) hC dX6_mixFit_44 (i := 0) rfl 1 rfl ?_
    refine gg_iconst (pc := 45) hC dX6_mixFit_45 (x := 0) rfl ?_
    refine gg_iload_n (pc := 46) hC dX6_mixFit_46 (i := 3) rfl 0 rfl ?_
    refine gg_callVI (pc := 47) hC dX6_mixFit_47 vX6_383 (fun _ h => mX6_off h) (Nat.le_of_ble_eq_true rfl) (Nat.le_of_ble_eq_true rfl) (As := [.int 0, .int x1]) (rest := [.long x7]) rfl rfl (Nat.le_of_ble_eq_true rfl) 0 6 pX_0 rfl (fun x8 s9 => ?_)
    refine gg_i2l (pc := 50) hC dX6_mixFit_50 ?_
    refine gg_callSLr (pc := 51) hC dX6_mixFit_51 cX6_320 (fun _ h => mX6_mix h) (Nat.le_of_ble_eq_true rfl) (Nat.le_of_ble_eq_true rfl) (As := [.long x7, .long (x8.toInt64)]) (rest := []) rfl rfl (Nat.le_of_ble_eq_true rfl) (fun x10 => ?_)
    exact gg_lret (pc := 54) hR dX6_mixFit_54
  · refine gg_lload_n (pc := 11) hC dX6_mixFit_11 (i := 1) rfl 1 rfl ?_
    exact gg_lret (pc := 12) hR dX6_mixFit_12
def fX6_lengthBetween (v1 : Int32) (v2 : Int32) (v3 : Int32) (σ : zS) : Option (Int64) :=
    if v3 = 0 then (zg (zq v2 32) (zg (zq v1 32) (some ((zj σ 0 v2.toNatClampNeg) - (zj σ 0 v1.toNatClampNeg))))) else
    if v3 = 1 then (zy1 (fX6_greatestBound v2 σ) (fun x2 =>
    zy1 (fX6_leastBound v1 σ) (fun x3 =>
    some ((x2 - x3).toInt64)))) else
    if v3 = 2 then (zy1 (fX6_leastBound v2 σ) (fun x5 =>
    zy1 (fX6_greatestBound v1 σ) (fun x6 =>
    some ((x5 - x6).toInt64)))) else
    (zg (zq v2 32) (zg (zq v1 32) (some (((za σ 1 v2.toNatClampNeg) - (za σ 1 v1.toNatClampNeg)).toInt64))))
set_option maxHeartbeats 4000000 in
set_option maxRecDepth 100000 in
theorem mX6_lengthBetween {l : Launch} {D : va_G} {A : Nat → Nat} {cA : Nat → ClassId} {v1 : Int32} {v2 : Int32} {v3 : Int32}  {σ : zS} {r : Int64} (h : fX6_lengthBetween v1 v2 v3 σ = some r) : zML l D (wX A cA) yX6_lengthBetween (zws yX6_lengthBetween cX6_lengthBetween 4 (some .long)) 2 44 [.ref (A 0), .int v1, .int v2, .int v3] σ (r, σ) := by
  refine zm_Lr (lv := [(0, .ref (A 0)), (1, .int v1), (2, .int v2), (3, .int v3)]) rfl (sX_ok A) (Nat.le_of_ble_eq_true rfl) rfl (fun C _ _ hC hR => ?_) h
  unfold fX6_lengthBetween
  refine gg_iload_n (pc := 0) hC dX6_lengthBetween_0 (i := 3) rfl 3 rfl ?_
  refine gg_ite (fun hc1 => ?_) (fun hc1 => ?_)
  · refine gg_tabIn (pc := 1) hC dX6_lengthBetween_1 (by rw [hc1]; decide) (by rw [hc1]; decide) (off := 27) (by rw [hc1]; rfl) (tgt := 28) rfl ?_
    refine gg_aload_n (pc := 28) hC dX6_lengthBetween_28 (i := 0) rfl 0 rfl ?_
    refine gg_get (pc := 29) hC dX6_lengthBetween_29 fX6_33 0 pX_0 (v := .ref (A 4)) rfl ?_
    refine gg_get (pc := 32) hC dX6_lengthBetween_32 fX6_193 4 pX_4 (v := .ref (A 15)) rfl ?_
    refine gg_iload_n (pc := 35) hC dX6_lengthBetween_35 (i := 2) rfl 2 rfl ?_
    refine gg_lald (pc := 36) hC dX6_lengthBetween_36 15 1 pX_15 rfl ?_
    refine gg_aload_n (pc := 37) hC dX6_lengthBetween_37 (i := 0) rfl 0 rfl ?_
    refine gg_get (pc := 38) hC dX6_lengthBetween_38 fX6_33 0 pX_0 (v := .ref (A 4)) rfl ?_
    refine gg_get (pc := 41) hC dX6_lengthBetween_41 fX6_193 4 pX_4 (v := .ref (A 15)) rfl ?_
    refine gg_iload_n (pc := 44) hC dX6_lengthBetween_44 (i := 1) rfl 1 rfl ?_
    refine gg_lald (pc := 45) hC dX6_lengthBetween_45 15 1 pX_15 rfl ?_
    refine gg_lsub (pc := 46) hC dX6_lengthBetween_46 ?_
    exact gg_lretr (pc := 47) hR dX6_lengthBetween_47
  · skip
    refine gg_ite (fun hc4 => ?_) (fun hc4 => ?_)
    · refine gg_tabIn (pc := 1) hC dX6_lengthBetween_1 (by rw [hc4]; decide) (by rw [hc4]; decide) (off := 47) (by rw [hc4]; rfl) (tgt := 48) rfl ?_
      refine gg_aload_n (pc := 48) hC dX6_lengthBetween_48 (i := 0) rfl 0 rfl ?_
      refine gg_iload_n (pc := 49) hC dX6_lengthBetween_49 (i := 2) rfl 2 rfl ?_
      refine gg_callVIr (pc := 50) hC dX6_lengthBetween_50 vX6_177 (fun _ h => mX6_greatestBound h) (Nat.le_of_ble_eq_true rfl) (Nat.le_of_ble_eq_true rfl) (As := [.int v2]) (rest := []) rfl rfl (Nat.le_of_ble_eq_true rfl) 0 6 pX_0 rfl (fun x2 => ?_)
      refine gg_aload_n (pc := 53) hC dX6_lengthBetween_53 (i := 0) rfl 0 rfl ?_
      refine gg_iload_n (pc := 54) hC dX6_lengthBetween_54 (i := 1) rfl 1 rfl ?_
      refine gg_callVIr (pc := 55) hC dX6_lengthBetween_55 vX6_174 (fun _ h => mX6_leastBound h) (Nat.le_of_ble_eq_true rfl) (Nat.le_of_ble_eq_true rfl) (As := [.int v1]) (rest := [.int x2]) rfl rfl (Nat.le_of_ble_eq_true rfl) 0 6 pX_0 rfl (fun x3 => ?_)
      refine gg_isub (pc := 58) hC dX6_lengthBetween_58 ?_
      refine gg_i2l (pc := 59) hC dX6_lengthBetween_59 ?_
      exact gg_lretr (pc := 60) hR dX6_lengthBetween_60
    · skip
      refine gg_ite (fun hc7 => ?_) (fun hc7 => ?_)
      · refine gg_tabIn (pc := 1) hC dX6_lengthBetween_1 (by rw [hc7]; decide) (by rw [hc7]; decide) (off := 60) (by rw [hc7]; rfl) (tgt := 61) rfl ?_
        refine gg_aload_n (pc := 61) hC dX6_lengthBetween_61 (i := 0) rfl 0 rfl ?_
        refine gg_iload_n (pc := 62) hC dX6_lengthBetween_62 (i := 2) rfl 2 rfl ?_
        refine gg_callVIr (pc := 63) hC dX6_lengthBetween_63 vX6_174 (fun _ h => mX6_leastBound h) (Nat.le_of_ble_eq_true rfl) (Nat.le_of_ble_eq_true rfl) (As := [.int v2]) (rest := []) rfl rfl (Nat.le_of_ble_eq_true rfl) 0 6 pX_0 rfl (fun x5 => ?_)
        refine gg_aload_n (pc := 66) hC dX6_lengthBetween_66 (i := 0) rfl 0 rfl ?_
        refine gg_iload_n (pc := 67) hC dX6_lengthBetween_67 (i := 1) rfl 1 rfl ?_
        refine gg_callVIr (pc := 68) hC dX6_lengthBetween_68 vX6_177 (fun _ h => mX6_greatestBound h) (Nat.le_of_ble_eq_true rfl) (Nat.le_of_ble_eq_true rfl) (As := [.int v1]) (rest := [.int x5]) rfl rfl (Nat.le_of_ble_eq_true rfl) 0 6 pX_0 rfl (fun x6 => ?_)
        refine gg_isub (pc := 71) hC dX6_lengthBetween_71 ?_
        refine gg_i2l (pc := 72) hC dX6_lengthBetween_72 ?_
        exact gg_lretr (pc := 73) hR dX6_lengthBetween_73
      · skip
        refine gg_tabOut (pc := 1) hC dX6_lengthBetween_1 (zsw_out (n := 2) (Nat.le_of_ble_eq_true rfl) (fun k hk => by
        match k, hk with
        | 0, _ => exact hc1
        | 1, _ => exact hc4
        | 2, _ => exact hc7)) (tgt := 74) rfl ?_
        refine gg_aload_n (pc := 74) hC dX6_lengthBetween_74 (i := 0) rfl 0 rfl ?_
        refine gg_get (pc := 75) hC dX6_lengthBetween_75 fX6_10 0 pX_0 (v := .ref (A 1)) rfl ?_
        refine gg_get (pc := 78) hC dX6_lengthBetween_78 fX6_165 1 pX_1 (v := .ref (A 8)) rfl ?_
        refine gg_iload_n (pc := 81) hC dX6_lengthBetween_81 (i := 2) rfl 2 rfl ?_
        refine gg_iald (pc := 82) hC dX6_lengthBetween_82 8 0 pX_8 rfl ?_
        refine gg_aload_n (pc := 83) hC dX6_lengthBetween_83 (i := 0) rfl 0 rfl ?_
        refine gg_get (pc := 84) hC dX6_lengthBetween_84 fX6_10 0 pX_0 (v := .ref (A 1)) rfl ?_
        refine gg_get (pc := 87) hC dX6_lengthBetween_87 fX6_165 1 pX_1 (v := .ref (A 8)) rfl ?_
        refine gg_iload_n (pc := 90) hC dX6_lengthBetween_90 (i := 1) rfl 1 rfl ?_
        refine gg_iald (pc := 91) hC dX6_lengthBetween_91 8 0 pX_8 rfl ?_
        refine gg_isub (pc := 92) hC dX6_lengthBetween_92 ?_
        refine gg_i2l (pc := 93) hC dX6_lengthBetween_93 ?_
        exact gg_lretr (pc := 94) hR dX6_lengthBetween_94
def fX6_frequency (v1 : Int32) (v2 : Int32) (v3 : Int32) (σ : zS) : Option (Int64 × zS) :=
    zy1 (fX6_isGate v1 σ) (fun x1 =>
    if x1 = 0 then (zy1 (fX6_refusal (-2 : Int32) σ) (fun x2 =>
    some (x2, σ))) else
    (zy1 (fX6_isWithin v2 0 3 σ) (fun x3 =>
    if x3 = 0 then (zy1 (fX6_refusal (-2 : Int32) σ) (fun x4 =>
    some (x4, σ))) else
    (zy1 (fX6_isHalf v3 σ) (fun x5 =>
    if x5 = 0 then (zy1 (fX6_refusal (-2 : Int32) σ) (fun x6 =>
    some (x6, σ))) else
    (zy1 (fX6_renew σ) (fun s7 =>
    zg (zq v1 8) (zv (za s7 6 v1.toNatClampNeg) (fun (x8 : Int32) =>
    zg (zq v1 8) (zv (za s7 7 v1.toNatClampNeg) (fun (x9 : Int32) =>
    if x9 = (-1 : Int32) then (zy1 (fX6_refusal (-3 : Int32) s7) (fun x10 =>
    some (x10, s7))) else
    (zy1 (fX6_lengthBetween x8 x9 v2 s7) (fun x11 =>
    if (0 : Int64) < x11 then (zy1 (fX2_periods x8 x9 s7) (fun x12 =>
    zv (x12.toInt64) (fun (x13 : Int64) =>
    zy1 (if v2 = 0 then (some (x13 * ((zi s7 10).toInt64))) else
    (some x13)) (fun (x14 : Int64) =>
    zy1 (fX6_lowest x14 x11 v3 s7) (fun x15 =>
    some (x15, s7)))))) else
    (zy1 (fX6_refusal (-3 : Int32) s7) (fun x16 =>
    some (x16, s7))))))))))))))))
set_option maxHeartbeats 4000000 in
set_option maxRecDepth 100000 in
theorem mX6_frequency {l : Launch} {D : va_G} {A : Nat → Nat} {cA : Nat → ClassId} {v1 : Int32} {v2 : Int32} {v3 : Int32}  {σ : zS} {r : Int64 × zS} (h : fX6_frequency v1 v2 v3 σ = some r) : zML l D (wX A cA) yX6_frequency (zws yX6_frequency cX6_frequency 10 (some .long)) 7 147 [.ref (A 0), .int v1, .int v2, .int v3] σ r := by
  refine zm_L (lv := [(0, .ref (A 0)), (1, .int v1), (2, .int v2), (3, .int v3)]) rfl (sX_ok A) (Nat.le_of_ble_eq_true rfl) rfl (fun C _ _ hC hR => ?_) h
  unfold fX6_frequency
  refine gg_aload_n (pc := 0) hC dX6_frequency_0 (i := 0) rfl 0 rfl ?_
  refine gg_iload_n (pc := 1) hC dX6_frequency_1 (i := 1) rfl 1 rfl ?_
  refine gg_callVIr (pc := 2) hC dX6_frequency_2 vX6_208 (fun _ h => mX6_isGate h) (Nat.le_of_ble_eq_true rfl) (Nat.le_of_ble_eq_true rfl) (As := [.int v1]) (rest := []) rfl rfl (Nat.le_of_ble_eq_true rfl) 0 6 pX_0 rfl (fun x1 => ?_)
  refine gg_if_eq (pc := 5) hC dX6_frequency_5 (tgt := 24) rfl (fun _ => ?_) (fun _ => ?_)
  · refine gg_bipush (pc := 24) hC dX6_frequency_24 (x := -2) rfl ?_
    refine gg_callSLr (pc := 26) hC dX6_frequency_26 cX6_140 (fun _ h => mX6_refusal h) (Nat.le_of_ble_eq_true rfl) (Nat.le_of_ble_eq_true rfl) (As := [.int (-2 : Int32)]) (rest := []) rfl rfl (Nat.le_of_ble_eq_true rfl) (fun x2 => ?_)
    exact gg_lret (pc := 29) hR dX6_frequency_29
  · refine gg_iload_n (pc := 8) hC dX6_frequency_8 (i := 2) rfl 2 rfl ?_
    refine gg_iconst (pc := 9) hC dX6_frequency_9 (x := 0) rfl ?_
    refine gg_iconst (pc := 10) hC dX6_frequency_10 (x := 3) rfl ?_
    refine gg_callSIr (pc := 11) hC dX6_frequency_11 cX6_87 (fun _ h => mX6_isWithin h) (Nat.le_of_ble_eq_true rfl) (Nat.le_of_ble_eq_true rfl) (As := [.int v2, .int 0, .int 3]) (rest := []) rfl rfl (Nat.le_of_ble_eq_true rfl) (fun x3 => ?_)
    refine gg_if_eq (pc := 14) hC dX6_frequency_14 (tgt := 24) rfl (fun _ => ?_) (fun _ => ?_)
    · refine gg_bipush (pc := 24) hC dX6_frequency_24 (x := -2) rfl ?_
      refine gg_callSLr (pc := 26) hC dX6_frequency_26 cX6_140 (fun _ h => mX6_refusal h) (Nat.le_of_ble_eq_true rfl) (Nat.le_of_ble_eq_true rfl) (As := [.int (-2 : Int32)]) (rest := []) rfl rfl (Nat.le_of_ble_eq_true rfl) (fun x4 => ?_)
      exact gg_lret (pc := 29) hR dX6_frequency_29
    · refine gg_iload_n (pc := 17) hC dX6_frequency_17 (i := 3) rfl 3 rfl ?_
      refine gg_callSIr (pc := 18) hC dX6_frequency_18 cX6_137 (fun _ h => mX6_isHalf h) (Nat.le_of_ble_eq_true rfl) (Nat.le_of_ble_eq_true rfl) (As := [.int v3]) (rest := []) rfl rfl (Nat.le_of_ble_eq_true rfl) (fun x5 => ?_)
      refine gg_if_ne (pc := 21) hC dX6_frequency_21 (tgt := 30) rfl (fun _ => ?_) (fun _ => ?_)
      · refine gg_bipush (pc := 24) hC dX6_frequency_24 (x := -2) rfl ?_
        refine gg_callSLr (pc := 26) hC dX6_frequency_26 cX6_140 (fun _ h => mX6_refusal h) (Nat.le_of_ble_eq_true rfl) (Nat.le_of_ble_eq_true rfl) (As := [.int (-2 : Int32)]) (rest := []) rfl rfl (Nat.le_of_ble_eq_true rfl) (fun x6 => ?_)
        exact gg_lret (pc := 29) hR dX6_frequency_29
      · refine gg_aload_n (pc := 30) hC dX6_frequency_30 (i := 0) rfl 0 rfl ?_
        refine gg_callVV (pc := 31) hC dX6_frequency_31 vX6_162 (fun _ h => mX6_renew h) (Nat.le_of_ble_eq_true rfl) (Nat.le_of_ble_eq_true rfl) (As := []) (rest := []) rfl rfl (Nat.le_of_ble_eq_true rfl) 0 6 pX_0 rfl (fun s7 => ?_)
        refine gg_aload_n (pc := 34) hC dX6_frequency_34 (i := 0) rfl 0 rfl ?_
        refine gg_get (pc := 35) hC dX6_frequency_35 fX6_26 0 pX_0 (v := .ref (A 3)) rfl ?_
        refine gg_get (pc := 38) hC dX6_frequency_38 fX6_211 3 pX_3 (v := .ref (A 13)) rfl ?_
        refine gg_iload_n (pc := 41) hC dX6_frequency_41 (i := 1) rfl 1 rfl ?_
        refine gg_iald (pc := 42) hC dX6_frequency_42 13 0 pX_13 rfl ?_
        refine gg_zvi (fun x8 => ?_)
        refine gg_istore (pc := 43) hC dX6_frequency_43 (Nat.le_of_ble_eq_true rfl) (lv' := [(4, .int x8), (0, .ref (A 0)), (1, .int v1), (2, .int v2), (3, .int v3)]) rfl ?_
        refine gg_aload_n (pc := 45) hC dX6_frequency_45 (i := 0) rfl 1 rfl ?_
        refine gg_get (pc := 46) hC dX6_frequency_46 fX6_26 0 pX_0 (v := .ref (A 3)) rfl ?_
        refine gg_get (pc := 49) hC dX6_frequency_49 fX6_214 3 pX_3 (v := .ref (A 14)) rfl ?_
        refine gg_iload_n (pc := 52) hC dX6_frequency_52 (i := 1) rfl 2 rfl ?_
        refine gg_iald (pc := 53) hC dX6_frequency_53 14 0 pX_14 rfl ?_
        refine gg_zvi (fun x9 => ?_)
        refine gg_istore (pc := 54) hC dX6_frequency_54 (Nat.le_of_ble_eq_true rfl) (lv' := [(5, .int x9), (4, .int x8), (0, .ref (A 0)), (1, .int v1), (2, .int v2), (3, .int v3)]) rfl ?_
        refine gg_iload (pc := 56) hC dX6_frequency_56 0 rfl ?_
        refine gg_iconst (pc := 58) hC dX6_frequency_58 (x := -1) rfl ?_
        refine gg_icmp_ne (pc := 59) hC dX6_frequency_59 (tgt := 68) rfl (fun _ => ?_) (fun _ => ?_)
        · refine gg_bipush (pc := 62) hC dX6_frequency_62 (x := -3) rfl ?_
          refine gg_callSLr (pc := 64) hC dX6_frequency_64 cX6_140 (fun _ h => mX6_refusal h) (Nat.le_of_ble_eq_true rfl) (Nat.le_of_ble_eq_true rfl) (As := [.int (-3 : Int32)]) (rest := []) rfl rfl (Nat.le_of_ble_eq_true rfl) (fun x10 => ?_)
          exact gg_lret (pc := 67) hR dX6_frequency_67
        · refine gg_aload_n (pc := 68) hC dX6_frequency_68 (i := 0) rfl 2 rfl ?_
          refine gg_iload (pc := 69) hC dX6_frequency_69 1 rfl ?_
          refine gg_iload (pc := 71) hC dX6_frequency_71 0 rfl ?_
          refine gg_iload_n (pc := 73) hC dX6_frequency_73 (i := 2) rfl 4 rfl ?_
          refine gg_callVLr (pc := 74) hC dX6_frequency_74 vX6_220 (fun _ h => mX6_lengthBetween h) (Nat.le_of_ble_eq_true rfl) (Nat.le_of_ble_eq_true rfl) (As := [.int x8, .int x9, .int v2]) (rest := []) rfl rfl (Nat.le_of_ble_eq_true rfl) 0 6 pX_0 rfl (fun x11 => ?_)
          refine gg_lstore (pc := 77) hC dX6_frequency_77 (Nat.le_of_ble_eq_true rfl) (lv' := [(6, .long x11), (5, .int x9), (4, .int x8), (0, .ref (A 0)), (1, .int v1), (2, .int v2), (3, .int v3)]) rfl ?_
          refine gg_lload (pc := 79) hC dX6_frequency_79 0 rfl ?_
          refine gg_lconst (pc := 81) hC dX6_frequency_81 (x := 0) rfl ?_
          refine gg_lcmp_gt (pc := 82) hC dX6_frequency_82 dX6_frequency_83 (tgt := 92) rfl (fun _ => ?_) (fun _ => ?_)
          · refine gg_aload_n (pc := 92) hC dX6_frequency_92 (i := 0) rfl 3 rfl ?_
            refine gg_get (pc := 93) hC dX6_frequency_93 fX6_33 0 pX_0 (v := .ref (A 4)) rfl ?_
            refine gg_iload (pc := 96) hC dX6_frequency_96 2 rfl ?_
            refine gg_iload (pc := 98) hC dX6_frequency_98 1 rfl ?_
            refine gg_callVIr (pc := 100) hC dX6_frequency_100 vX6_217 (fun _ h => mX2_periods h) (Nat.le_of_ble_eq_true rfl) (Nat.le_of_ble_eq_true rfl) (As := [.int x8, .int x9]) (rest := []) rfl rfl (Nat.le_of_ble_eq_true rfl) 4 2 pX_4 rfl (fun x12 => ?_)
            refine gg_i2l (pc := 103) hC dX6_frequency_103 ?_
            refine gg_zvl (fun x13 => ?_)
            refine gg_lstore (pc := 104) hC dX6_frequency_104 (Nat.le_of_ble_eq_true rfl) (lv' := [(8, .long x13), (6, .long x11), (5, .int x9), (4, .int x8), (0, .ref (A 0)), (1, .int v1), (2, .int v2), (3, .int v3)]) rfl ?_
            refine gg_iload_n (pc := 106) hC dX6_frequency_106 (i := 2) rfl 6 rfl ?_
            refine gg_join1 (E' := (fun q => zW C (wX A cA) 10 126 [(3, .int v3), (6, .long x11)] [.long q] s7)) ?_ (fun x14 => ?_)
            · refine gg_if_ne (pc := 107) hC dX6_frequency_107 (tgt := 124) rfl (fun _ => ?_) (fun _ => ?_)
              · refine gg_lload (pc := 110) hC dX6_frequency_110 0 rfl ?_
                refine gg_aload_n (pc := 112) hC dX6_frequency_112 (i := 0) rfl 4 rfl ?_
                refine gg_get (pc := 113) hC dX6_frequency_113 fX6_33 0 pX_0 (v := .ref (A 4)) rfl ?_
                refine gg_get (pc := 116) hC dX6_frequency_116 fX6_197 4 pX_4 (v := .int (zi s7 10)) rfl ?_
                refine gg_i2l (pc := 119) hC dX6_frequency_119 ?_
                refine gg_lmul (pc := 120) hC dX6_frequency_120 ?_
                refine gg_goto (pc := 121) hC dX6_frequency_121 (tgt := 126) rfl ?_
                exact gg_y (fun h => zW_lv [7, 1] rfl h)
              · refine gg_lload (pc := 124) hC dX6_frequency_124 0 rfl ?_
                exact gg_y (fun h => zW_lv [7, 1] rfl h)
            · show zG C (wX A cA) 10 _ _ 126 [(3, .int v3), (6, .long x11)] [.long x14] s7
              refine gg_lload (pc := 126) hC dX6_frequency_126 1 rfl ?_
              refine gg_iload_n (pc := 128) hC dX6_frequency_128 (i := 3) rfl 0 rfl ?_
              refine gg_callSLr (pc := 129) hC dX6_frequency_129 cX6_146 (fun _ h => mX6_lowest h) (Nat.le_of_ble_eq_true rfl) (Nat.le_of_ble_eq_true rfl) (As := [.long x14, .long x11, .int v3]) (rest := []) rfl rfl (Nat.le_of_ble_eq_true rfl) (fun x15 => ?_)
              exact gg_lret (pc := 132) hR dX6_frequency_132
          · refine gg_bipush (pc := 86) hC dX6_frequency_86 (x := -3) rfl ?_
            refine gg_callSLr (pc := 88) hC dX6_frequency_88 cX6_140 (fun _ h => mX6_refusal h) (Nat.le_of_ble_eq_true rfl) (Nat.le_of_ble_eq_true rfl) (As := [.int (-3 : Int32)]) (rest := []) rfl rfl (Nat.le_of_ble_eq_true rfl) (fun x16 => ?_)
            exact gg_lret (pc := 91) hR dX6_frequency_91
def fX6_where (v1 : Int32) (v2 : Int32) (σ : zS) : Option (Int32 × zS) :=
    zy1 (fX6_isGate v1 σ) (fun x1 =>
    if x1 = 0 then (some ((-2 : Int32), σ)) else
    (zy1 (fX6_isWithin v2 0 2 σ) (fun x2 =>
    if x2 = 0 then (some ((-2 : Int32), σ)) else
    (zy1 (fX6_renew σ) (fun s3 =>
    zg (zq v1 8) (zv (za s3 6 v1.toNatClampNeg) (fun (x4 : Int32) =>
    zg (zq v1 8) (zv (za s3 7 v1.toNatClampNeg) (fun (x5 : Int32) =>
    if v2 = 2 then (if x5 = (-1 : Int32) then (some ((-1 : Int32), s3)) else
    (zy1 (fX2_periods x4 x5 s3) (fun x6 =>
    some (x6, s3)))) else
    (if v2 = 0 then (some (x4, s3)) else
    (some (x5, s3))))))))))))
set_option maxHeartbeats 4000000 in
set_option maxRecDepth 100000 in
theorem mX6_where {l : Launch} {D : va_G} {A : Nat → Nat} {cA : Nat → ClassId} {v1 : Int32} {v2 : Int32}  {σ : zS} {r : Int32 × zS} (h : fX6_where v1 v2 σ = some r) : zMI l D (wX A cA) yX6_where (zws yX6_where cX6_where 5 (some .int)) 7 147 [.ref (A 0), .int v1, .int v2] σ r := by
  refine zm_I (lv := [(0, .ref (A 0)), (1, .int v1), (2, .int v2)]) rfl (sX_ok A) (Nat.le_of_ble_eq_true rfl) rfl (fun C _ _ hC hR => ?_) h
  unfold fX6_where
  refine gg_aload_n (pc := 0) hC dX6_where_0 (i := 0) rfl 0 rfl ?_
  refine gg_iload_n (pc := 1) hC dX6_where_1 (i := 1) rfl 1 rfl ?_
  refine gg_callVIr (pc := 2) hC dX6_where_2 vX6_208 (fun _ h => mX6_isGate h) (Nat.le_of_ble_eq_true rfl) (Nat.le_of_ble_eq_true rfl) (As := [.int v1]) (rest := []) rfl rfl (Nat.le_of_ble_eq_true rfl) 0 6 pX_0 rfl (fun x1 => ?_)
  refine gg_if_eq (pc := 5) hC dX6_where_5 (tgt := 17) rfl (fun _ => ?_) (fun _ => ?_)
  · refine gg_bipush (pc := 17) hC dX6_where_17 (x := -2) rfl ?_
    exact gg_iret (pc := 19) hR dX6_where_19
  · refine gg_iload_n (pc := 8) hC dX6_where_8 (i := 2) rfl 2 rfl ?_
    refine gg_iconst (pc := 9) hC dX6_where_9 (x := 0) rfl ?_
    refine gg_iconst (pc := 10) hC dX6_where_10 (x := 2) rfl ?_
    refine gg_callSIr (pc := 11) hC dX6_where_11 cX6_87 (fun _ h => mX6_isWithin h) (Nat.le_of_ble_eq_true rfl) (Nat.le_of_ble_eq_true rfl) (As := [.int v2, .int 0, .int 2]) (rest := []) rfl rfl (Nat.le_of_ble_eq_true rfl) (fun x2 => ?_)
    refine gg_if_ne (pc := 14) hC dX6_where_14 (tgt := 20) rfl (fun _ => ?_) (fun _ => ?_)
    · refine gg_bipush (pc := 17) hC dX6_where_17 (x := -2) rfl ?_
      exact gg_iret (pc := 19) hR dX6_where_19
    · refine gg_aload_n (pc := 20) hC dX6_where_20 (i := 0) rfl 0 rfl ?_
      refine gg_callVV (pc := 21) hC dX6_where_21 vX6_162 (fun _ h => mX6_renew h) (Nat.le_of_ble_eq_true rfl) (Nat.le_of_ble_eq_true rfl) (As := []) (rest := []) rfl rfl (Nat.le_of_ble_eq_true rfl) 0 6 pX_0 rfl (fun s3 => ?_)
      refine gg_aload_n (pc := 24) hC dX6_where_24 (i := 0) rfl 0 rfl ?_
      refine gg_get (pc := 25) hC dX6_where_25 fX6_26 0 pX_0 (v := .ref (A 3)) rfl ?_
      refine gg_get (pc := 28) hC dX6_where_28 fX6_211 3 pX_3 (v := .ref (A 13)) rfl ?_
      refine gg_iload_n (pc := 31) hC dX6_where_31 (i := 1) rfl 1 rfl ?_
      refine gg_iald (pc := 32) hC dX6_where_32 13 0 pX_13 rfl ?_
      refine gg_zvi (fun x4 => ?_)
      refine gg_istore_n (pc := 33) hC dX6_where_33 (i := 3) rfl (Nat.le_of_ble_eq_true rfl) (lv' := [(3, .int x4), (0, .ref (A 0)), (1, .int v1), (2, .int v2)]) rfl ?_
      refine gg_aload_n (pc := 34) hC dX6_where_34 (i := 0) rfl 1 rfl ?_
      refine gg_get (pc := 35) hC dX6_where_35 fX6_26 0 pX_0 (v := .ref (A 3)) rfl ?_
      refine gg_get (pc := 38) hC dX6_where_38 fX6_214 3 pX_3 (v := .ref (A 14)) rfl ?_
      refine gg_iload_n (pc := 41) hC dX6_where_41 (i := 1) rfl 2 rfl ?_
      refine gg_iald (pc := 42) hC dX6_where_42 14 0 pX_14 rfl ?_
      refine gg_zvi (fun x5 => ?_)
      refine gg_istore (pc := 43) hC dX6_where_43 (Nat.le_of_ble_eq_true rfl) (lv' := [(4, .int x5), (3, .int x4), (0, .ref (A 0)), (1, .int v1), (2, .int v2)]) rfl ?_
      refine gg_iload_n (pc := 45) hC dX6_where_45 (i := 2) rfl 4 rfl ?_
      refine gg_iconst (pc := 46) hC dX6_where_46 (x := 2) rfl ?_
      refine gg_icmp_ne (pc := 47) hC dX6_where_47 (tgt := 71) rfl (fun _ => ?_) (fun _ => ?_)
      · refine gg_iload (pc := 50) hC dX6_where_50 0 rfl ?_
        refine gg_iconst (pc := 52) hC dX6_where_52 (x := -1) rfl ?_
        refine gg_icmp_ne (pc := 53) hC dX6_where_53 (tgt := 60) rfl (fun _ => ?_) (fun _ => ?_)
        · refine gg_iconst (pc := 56) hC dX6_where_56 (x := -1) rfl ?_
          refine gg_goto (pc := 57) hC dX6_where_57 (tgt := 70) rfl ?_
          exact gg_iret (pc := 70) hR dX6_where_70
        · refine gg_aload_n (pc := 60) hC dX6_where_60 (i := 0) rfl 2 rfl ?_
          refine gg_get (pc := 61) hC dX6_where_61 fX6_33 0 pX_0 (v := .ref (A 4)) rfl ?_
          refine gg_iload_n (pc := 64) hC dX6_where_64 (i := 3) rfl 1 rfl ?_
          refine gg_iload (pc := 65) hC dX6_where_65 0 rfl ?_
          refine gg_callVIr (pc := 67) hC dX6_where_67 vX6_217 (fun _ h => mX2_periods h) (Nat.le_of_ble_eq_true rfl) (Nat.le_of_ble_eq_true rfl) (As := [.int x4, .int x5]) (rest := []) rfl rfl (Nat.le_of_ble_eq_true rfl) 4 2 pX_4 rfl (fun x6 => ?_)
          exact gg_iret (pc := 70) hR dX6_where_70
      · refine gg_iload_n (pc := 71) hC dX6_where_71 (i := 2) rfl 4 rfl ?_
        refine gg_if_ne (pc := 72) hC dX6_where_72 (tgt := 79) rfl (fun _ => ?_) (fun _ => ?_)
        · refine gg_iload_n (pc := 75) hC dX6_where_75 (i := 3) rfl 1 rfl ?_
          refine gg_goto (pc := 76) hC dX6_where_76 (tgt := 81) rfl ?_
          exact gg_iret (pc := 81) hR dX6_where_81
        · refine gg_iload (pc := 79) hC dX6_where_79 0 rfl ?_
          exact gg_iret (pc := 81) hR dX6_where_81
def fX6_mixGates_20 (v5 : Int32) : Nat → Int64 → Int32 → zS → Option (Int64 × zS)
  | 0, _, _, _ => none
  | n + 1, v3, v6, σ =>
    if 2 < v6 then (some (v3, σ)) else
    (zy2 (fX6_where v5 v6 σ) (fun x1 s2 =>
    zy1 (fX6_mix v3 (x1.toInt64) s2) (fun x3 =>
    fX6_mixGates_20 v5 n x3 (v6 + 1) s2)))
def fX6_mixGates_49 (v5 : Int32) : Nat → Int64 → Int32 → zS → Option (Int64 × zS)
  | 0, _, _, _ => none
  | n + 1, v3, v6, σ =>
    if 3 < v6 then (some (v3, σ)) else
    (zy2 (fX6_frequency v5 v6 0 σ) (fun x1 s2 =>
    zy1 (fX6_mix v3 x1 s2) (fun x3 =>
    zy2 (fX6_frequency v5 v6 1 s2) (fun x4 s5 =>
    zy1 (fX6_mix x3 x4 s5) (fun x6 =>
    fX6_mixGates_49 v5 n x6 (v6 + 1) s5)))))
def fX6_mixGates_5 : Nat → Int64 → Int32 → zS → Option (Int64 × zS)
  | 0, _, _, _ => none
  | n + 1, v3, v5, σ =>
    if (zi σ 8) ≤ v5 then (some (v3, σ)) else
    (zy2 (fX6_mixGates_20 v5 500 v3 0 σ) (fun (x1 : Int64) (s2 : zS) =>
    zy2 (fX6_mixGates_49 v5 500 x1 0 s2) (fun (x3 : Int64) (s4 : zS) =>
    zy2 (fX6_closing v5 s4) (fun x5 s6 =>
    zy1 (fX6_mix x3 (x5.toInt64) s6) (fun x7 =>
    fX6_mixGates_5  n x7 (v5 + 1) s6)))))
def fX6_mixGates (v1 : Int64) (σ : zS) : Option (Int64 × zS) :=
    zy2 (fX6_mixGates_5  500 v1 0 σ) (fun (x1 : Int64) (s2 : zS) =>
    some (x1, s2))
set_option maxHeartbeats 4000000 in
set_option maxRecDepth 100000 in
theorem lX6_mixGates_20 {C : zK} {A : Nat → Nat} {cA : Nat → ClassId} (hC : zOK C (wX A cA) cX6_mixGates RX6 7 8 176) {v5 : Int32} : ∀ (n : Nat) (v3 : Int64) (v6 : Int32) (σ : zS), zG C (wX A cA) 7 (fun q => zW C (wX A cA) 7 46 [(0, .ref (A 0)), (3, .long q.1), (5, .int v5)] [] q.2) (fX6_mixGates_20 v5 n v3 v6 σ) 20 [(0, .ref (A 0)), (3, .long v3), (5, .int v5), (6, .int v6)] [] σ := by
  intro n
  induction n with
  | zero => intro v3 v6 σ; exact gg_none (o := none)
  | succ n ih =>
    intro v3 v6 σ
    rw [fX6_mixGates_20]
    refine gg_iload (pc := 20) hC dX6_mixGates_20 3 rfl ?_
    refine gg_iconst (pc := 22) hC dX6_mixGates_22 (x := 2) rfl ?_
    refine gg_icmp_gt (pc := 23) hC dX6_mixGates_23 (tgt := 46) rfl (fun _ => ?_) (fun _ => ?_)
    · exact gg_y (fun h => zW_lv [0, 1, 2] rfl h)
    · refine gg_lload_n (pc := 26) hC dX6_mixGates_26 (i := 3) rfl 1 rfl ?_
      refine gg_aload_n (pc := 27) hC dX6_mixGates_27 (i := 0) rfl 0 rfl ?_
      refine gg_iload (pc := 28) hC dX6_mixGates_28 2 rfl ?_
      refine gg_iload (pc := 30) hC dX6_mixGates_30 3 rfl ?_
      refine gg_callVI (pc := 32) hC dX6_mixGates_32 vX6_367 (fun _ h => mX6_where h) (Nat.le_of_ble_eq_true rfl) (Nat.le_of_ble_eq_true rfl) (As := [.int v5, .int v6]) (rest := [.long v3]) rfl rfl (Nat.le_of_ble_eq_true rfl) 0 6 pX_0 rfl (fun x1 s2 => ?_)
      refine gg_i2l (pc := 35) hC dX6_mixGates_35 ?_
      refine gg_callSLr (pc := 36) hC dX6_mixGates_36 cX6_320 (fun _ h => mX6_mix h) (Nat.le_of_ble_eq_true rfl) (Nat.le_of_ble_eq_true rfl) (As := [.long v3, .long (x1.toInt64)]) (rest := []) rfl rfl (Nat.le_of_ble_eq_true rfl) (fun x3 => ?_)
      refine gg_lstore_n (pc := 39) hC dX6_mixGates_39 (i := 3) rfl (Nat.le_of_ble_eq_true rfl) (lv' := [(3, .long x3), (0, .ref (A 0)), (5, .int v5), (6, .int v6)]) rfl ?_
      refine gg_iinc (pc := 40) hC dX6_mixGates_40 (y := 0) (j := 3) rfl (z := 1) rfl (Nat.le_of_ble_eq_true rfl) (lv' := [(6, .int (v6 + 1)), (3, .long x3), (0, .ref (A 0)), (5, .int v5)]) rfl ?_
      refine gg_goto (pc := 43) hC dX6_mixGates_43 (tgt := 20) rfl ?_
      exact gg_lv [2, 1, 3, 0] rfl (ih _ _ _)
set_option maxHeartbeats 4000000 in
set_option maxRecDepth 100000 in
theorem lX6_mixGates_49 {C : zK} {A : Nat → Nat} {cA : Nat → ClassId} (hC : zOK C (wX A cA) cX6_mixGates RX6 7 8 176) {v5 : Int32} : ∀ (n : Nat) (v3 : Int64) (v6 : Int32) (σ : zS), zG C (wX A cA) 7 (fun q => zW C (wX A cA) 7 87 [(0, .ref (A 0)), (3, .long q.1), (5, .int v5)] [] q.2) (fX6_mixGates_49 v5 n v3 v6 σ) 49 [(0, .ref (A 0)), (3, .long v3), (5, .int v5), (6, .int v6)] [] σ := by
  intro n
  induction n with
  | zero => intro v3 v6 σ; exact gg_none (o := none)
  | succ n ih =>
    intro v3 v6 σ
    rw [fX6_mixGates_49]
    refine gg_iload (pc := 49) hC dX6_mixGates_49 3 rfl ?_
    refine gg_iconst (pc := 51) hC dX6_mixGates_51 (x := 3) rfl ?_
    refine gg_icmp_gt (pc := 52) hC dX6_mixGates_52 (tgt := 87) rfl (fun _ => ?_) (fun _ => ?_)
    · exact gg_y (fun h => zW_lv [0, 1, 2] rfl h)
    · refine gg_lload_n (pc := 55) hC dX6_mixGates_55 (i := 3) rfl 1 rfl ?_
      refine gg_aload_n (pc := 56) hC dX6_mixGates_56 (i := 0) rfl 0 rfl ?_
      refine gg_iload (pc := 57) hC dX6_mixGates_57 2 rfl ?_
      refine gg_iload (pc := 59) hC dX6_mixGates_59 3 rfl ?_
      refine gg_iconst (pc := 61) hC dX6_mixGates_61 (x := 0) rfl ?_
      refine gg_callVL (pc := 62) hC dX6_mixGates_62 vX6_370 (fun _ h => mX6_frequency h) (Nat.le_of_ble_eq_true rfl) (Nat.le_of_ble_eq_true rfl) (As := [.int v5, .int v6, .int 0]) (rest := [.long v3]) rfl rfl (Nat.le_of_ble_eq_true rfl) 0 6 pX_0 rfl (fun x1 s2 => ?_)
      refine gg_callSLr (pc := 65) hC dX6_mixGates_65 cX6_320 (fun _ h => mX6_mix h) (Nat.le_of_ble_eq_true rfl) (Nat.le_of_ble_eq_true rfl) (As := [.long v3, .long x1]) (rest := []) rfl rfl (Nat.le_of_ble_eq_true rfl) (fun x3 => ?_)
      refine gg_aload_n (pc := 68) hC dX6_mixGates_68 (i := 0) rfl 0 rfl ?_
      refine gg_iload (pc := 69) hC dX6_mixGates_69 2 rfl ?_
      refine gg_iload (pc := 71) hC dX6_mixGates_71 3 rfl ?_
      refine gg_iconst (pc := 73) hC dX6_mixGates_73 (x := 1) rfl ?_
      refine gg_callVL (pc := 74) hC dX6_mixGates_74 vX6_370 (fun _ h => mX6_frequency h) (Nat.le_of_ble_eq_true rfl) (Nat.le_of_ble_eq_true rfl) (As := [.int v5, .int v6, .int 1]) (rest := [.long x3]) rfl rfl (Nat.le_of_ble_eq_true rfl) 0 6 pX_0 rfl (fun x4 s5 => ?_)
      refine gg_callSLr (pc := 77) hC dX6_mixGates_77 cX6_320 (fun _ h => mX6_mix h) (Nat.le_of_ble_eq_true rfl) (Nat.le_of_ble_eq_true rfl) (As := [.long x3, .long x4]) (rest := []) rfl rfl (Nat.le_of_ble_eq_true rfl) (fun x6 => ?_)
      refine gg_lstore_n (pc := 80) hC dX6_mixGates_80 (i := 3) rfl (Nat.le_of_ble_eq_true rfl) (lv' := [(3, .long x6), (0, .ref (A 0)), (5, .int v5), (6, .int v6)]) rfl ?_
      refine gg_iinc (pc := 81) hC dX6_mixGates_81 (y := 0) (j := 3) rfl (z := 1) rfl (Nat.le_of_ble_eq_true rfl) (lv' := [(6, .int (v6 + 1)), (3, .long x6), (0, .ref (A 0)), (5, .int v5)]) rfl ?_
      refine gg_goto (pc := 84) hC dX6_mixGates_84 (tgt := 49) rfl ?_
      exact gg_lv [2, 1, 3, 0] rfl (ih _ _ _)
set_option maxHeartbeats 4000000 in
set_option maxRecDepth 100000 in
theorem lX6_mixGates_5 {C : zK} {A : Nat → Nat} {cA : Nat → ClassId} (hC : zOK C (wX A cA) cX6_mixGates RX6 7 8 176) : ∀ (n : Nat) (v3 : Int64) (v5 : Int32) (σ : zS), zG C (wX A cA) 7 (fun q => zW C (wX A cA) 7 105 [(3, .long q.1)] [] q.2) (fX6_mixGates_5  n v3 v5 σ) 5 [(0, .ref (A 0)), (3, .long v3), (5, .int v5)] [] σ := by
  intro n
  induction n with
  | zero => intro v3 v5 σ; exact gg_none (o := none)
  | succ n ih =>
    intro v3 v5 σ
    rw [fX6_mixGates_5]
    refine gg_iload (pc := 5) hC dX6_mixGates_5 2 rfl ?_
    refine gg_aload_n (pc := 7) hC dX6_mixGates_7 (i := 0) rfl 0 rfl ?_
    refine gg_get (pc := 8) hC dX6_mixGates_8 fX6_26 0 pX_0 (v := .ref (A 3)) rfl ?_
    refine gg_get (pc := 11) hC dX6_mixGates_11 fX6_204 3 pX_3 (v := .int (zi σ 8)) rfl ?_
    refine gg_icmp_ge (pc := 14) hC dX6_mixGates_14 (tgt := 105) rfl (fun _ => ?_) (fun _ => ?_)
    · exact gg_y (fun h => zW_lv [1] rfl h)
    · refine gg_iconst (pc := 17) hC dX6_mixGates_17 (x := 0) rfl ?_
      refine gg_istore (pc := 18) hC dX6_mixGates_18 (Nat.le_of_ble_eq_true rfl) (lv' := [(6, .int 0), (0, .ref (A 0)), (3, .long v3), (5, .int v5)]) rfl ?_
      refine gg_join2 (E' := (fun q => zW C (wX A cA) 7 46 [(0, .ref (A 0)), (3, .long q.1), (5, .int v5)] [] q.2)) (gg_lv [1, 2, 3, 0] rfl (lX6_mixGates_20 hC  500 _ _ _)) (fun x1 s2 => ?_)
      show zG C (wX A cA) 7 _ _ 46 [(0, .ref (A 0)), (3, .long x1), (5, .int v5)] [] s2
      refine gg_iconst (pc := 46) hC dX6_mixGates_46 (x := 0) rfl ?_
      refine gg_istore (pc := 47) hC dX6_mixGates_47 (Nat.le_of_ble_eq_true rfl) (lv' := [(6, .int 0), (0, .ref (A 0)), (3, .long x1), (5, .int v5)]) rfl ?_
      refine gg_join2 (E' := (fun q => zW C (wX A cA) 7 87 [(0, .ref (A 0)), (3, .long q.1), (5, .int v5)] [] q.2)) (gg_lv [1, 2, 3, 0] rfl (lX6_mixGates_49 hC  500 _ _ _)) (fun x3 s4 => ?_)
      show zG C (wX A cA) 7 _ _ 87 [(0, .ref (A 0)), (3, .long x3), (5, .int v5)] [] s4
      refine gg_lload_n (pc := 87) hC dX6_mixGates_87 (i := 3) rfl 1 rfl ?_
      refine gg_aload_n (pc := 88) hC dX6_mixGates_88 (i := 0) rfl 0 rfl ?_
      refine gg_iload (pc := 89) hC dX6_mixGates_89 2 rfl ?_
      refine gg_callVI (pc := 91) hC dX6_mixGates_91 vX6_373 (fun _ h => mX6_closing h) (Nat.le_of_ble_eq_true rfl) (Nat.le_of_ble_eq_true rfl) (As := [.int v5]) (rest := [.long x3]) rfl rfl (Nat.le_of_ble_eq_true rfl) 0 6 pX_0 rfl (fun x5 s6 => ?_)
      refine gg_i2l (pc := 94) hC dX6_mixGates_94 ?_
      refine gg_callSLr (pc := 95) hC dX6_mixGates_95 cX6_320 (fun _ h => mX6_mix h) (Nat.le_of_ble_eq_true rfl) (Nat.le_of_ble_eq_true rfl) (As := [.long x3, .long (x5.toInt64)]) (rest := []) rfl rfl (Nat.le_of_ble_eq_true rfl) (fun x7 => ?_)
      refine gg_lstore_n (pc := 98) hC dX6_mixGates_98 (i := 3) rfl (Nat.le_of_ble_eq_true rfl) (lv' := [(3, .long x7), (0, .ref (A 0)), (5, .int v5)]) rfl ?_
      refine gg_iinc (pc := 99) hC dX6_mixGates_99 (y := 0) (j := 2) rfl (z := 1) rfl (Nat.le_of_ble_eq_true rfl) (lv' := [(5, .int (v5 + 1)), (3, .long x7), (0, .ref (A 0))]) rfl ?_
      refine gg_goto (pc := 102) hC dX6_mixGates_102 (tgt := 5) rfl ?_
      exact gg_lv [2, 1, 0] rfl (ih _ _ _)
set_option maxHeartbeats 4000000 in
set_option maxRecDepth 100000 in
theorem mX6_mixGates {l : Launch} {D : va_G} {A : Nat → Nat} {cA : Nat → ClassId} {v1 : Int64}  {σ : zS} {r : Int64 × zS} (h : fX6_mixGates v1 σ = some r) : zML l D (wX A cA) yX6_mixGates (zws yX6_mixGates cX6_mixGates 7 (some .long)) 8 176 [.ref (A 0), .long v1] σ r := by
  refine zm_L (lv := [(0, .ref (A 0)), (1, .long v1)]) rfl (sX_ok A) (Nat.le_of_ble_eq_true rfl) rfl (fun C _ _ hC hR => ?_) h
  unfold fX6_mixGates
  refine gg_lload_n (pc := 0) hC dX6_mixGates_0 (i := 1) rfl 1 rfl ?_
  refine gg_lstore_n (pc := 1) hC dX6_mixGates_1 (i := 3) rfl (Nat.le_of_ble_eq_true rfl) (lv' := [(3, .long v1), (0, .ref (A 0)), (1, .long v1)]) rfl ?_
  refine gg_iconst (pc := 2) hC dX6_mixGates_2 (x := 0) rfl ?_
  refine gg_istore (pc := 3) hC dX6_mixGates_3 (Nat.le_of_ble_eq_true rfl) (lv' := [(5, .int 0), (3, .long v1), (0, .ref (A 0)), (1, .long v1)]) rfl ?_
  refine gg_join2 (E' := (fun q => zW C (wX A cA) 7 105 [(3, .long q.1)] [] q.2)) (gg_lv [2, 1, 0] rfl (lX6_mixGates_5 hC  500 _ _ _)) (fun x1 s2 => ?_)
  show zG C (wX A cA) 7 _ _ 105 [(3, .long x1)] [] s2
  refine gg_lload_n (pc := 105) hC dX6_mixGates_105 (i := 3) rfl 0 rfl ?_
  exact gg_lret (pc := 106) hR dX6_mixGates_106
def fX6_rank (v1 : Int32) (σ : zS) : Option (Int32 × zS) :=
    zy1 (fX6_renew σ) (fun s1 =>
    zy1 (fX6_isWithin v1 0 ((zi s1 13) - 1) s1) (fun x2 =>
    if x2 = 0 then (some ((-2 : Int32), s1)) else
    (zg (zq v1 15) (some ((za s1 11 v1.toNatClampNeg), s1)))))
set_option maxHeartbeats 4000000 in
set_option maxRecDepth 100000 in
theorem mX6_rank {l : Launch} {D : va_G} {A : Nat → Nat} {cA : Nat → ClassId} {v1 : Int32}  {σ : zS} {r : Int32 × zS} (h : fX6_rank v1 σ = some r) : zMI l D (wX A cA) yX6_rank (zws yX6_rank cX6_rank 2 (some .int)) 7 147 [.ref (A 0), .int v1] σ r := by
  refine zm_I (lv := [(0, .ref (A 0)), (1, .int v1)]) rfl (sX_ok A) (Nat.le_of_ble_eq_true rfl) rfl (fun C _ _ hC hR => ?_) h
  unfold fX6_rank
  refine gg_aload_n (pc := 0) hC dX6_rank_0 (i := 0) rfl 0 rfl ?_
  refine gg_callVV (pc := 1) hC dX6_rank_1 vX6_162 (fun _ h => mX6_renew h) (Nat.le_of_ble_eq_true rfl) (Nat.le_of_ble_eq_true rfl) (As := []) (rest := []) rfl rfl (Nat.le_of_ble_eq_true rfl) 0 6 pX_0 rfl (fun s1 => ?_)
  refine gg_iload_n (pc := 4) hC dX6_rank_4 (i := 1) rfl 1 rfl ?_
  refine gg_iconst (pc := 5) hC dX6_rank_5 (x := 0) rfl ?_
  refine gg_aload_n (pc := 6) hC dX6_rank_6 (i := 0) rfl 0 rfl ?_
  refine gg_get (pc := 7) hC dX6_rank_7 fX6_40 0 pX_0 (v := .ref (A 5)) rfl ?_
  refine gg_get (pc := 10) hC dX6_rank_10 fX6_242 5 pX_5 (v := .int (zi s1 13)) rfl ?_
  refine gg_iconst (pc := 13) hC dX6_rank_13 (x := 1) rfl ?_
  refine gg_isub (pc := 14) hC dX6_rank_14 ?_
  refine gg_callSIr (pc := 15) hC dX6_rank_15 cX6_87 (fun _ h => mX6_isWithin h) (Nat.le_of_ble_eq_true rfl) (Nat.le_of_ble_eq_true rfl) (As := [.int v1, .int 0, .int ((zi s1 13) - 1)]) (rest := []) rfl rfl (Nat.le_of_ble_eq_true rfl) (fun x2 => ?_)
  refine gg_if_eq (pc := 18) hC dX6_rank_18 (tgt := 33) rfl (fun _ => ?_) (fun _ => ?_)
  · refine gg_bipush (pc := 33) hC dX6_rank_33 (x := -2) rfl ?_
    exact gg_iret (pc := 35) hR dX6_rank_35
  · refine gg_aload_n (pc := 21) hC dX6_rank_21 (i := 0) rfl 0 rfl ?_
    refine gg_get (pc := 22) hC dX6_rank_22 fX6_40 0 pX_0 (v := .ref (A 5)) rfl ?_
    refine gg_get (pc := 25) hC dX6_rank_25 fX6_251 5 pX_5 (v := .ref (A 22)) rfl ?_
    refine gg_iload_n (pc := 28) hC dX6_rank_28 (i := 1) rfl 1 rfl ?_
    refine gg_iald (pc := 29) hC dX6_rank_29 22 0 pX_22 rfl ?_
    refine gg_goto (pc := 30) hC dX6_rank_30 (tgt := 35) rfl ?_
    exact gg_iret (pc := 35) hR dX6_rank_35
def fX6_variance (v1 : Int32) (v2 : Int32) (σ : zS) : Option (Int64 × zS) :=
    zy1 (fX6_isWithin v1 1 15 σ) (fun x1 =>
    if x1 = 0 then (zy1 (fX6_refusal (-2 : Int32) σ) (fun x2 =>
    some (x2, σ))) else
    (zy1 (fX6_isHalf v2 σ) (fun x3 =>
    if x3 = 0 then (zy1 (fX6_refusal (-2 : Int32) σ) (fun x4 =>
    some (x4, σ))) else
    (zy1 (fX6_renew σ) (fun s5 =>
    if v1 ≤ (zi s5 13) then (zv ((zi s5 10).toInt64) (fun (x6 : Int64) =>
    zg (zq v1 16) (zg (zq v1 16) (zy1 (fX6_lowest (zj s5 2 v1.toNatClampNeg) ((((2 : Int64) * (zj s5 3 v1.toNatClampNeg)) * x6) * x6) v2 s5) (fun x7 =>
    some (x7, s5)))))) else
    (zy1 (fX6_refusal (-3 : Int32) s5) (fun x8 =>
    some (x8, s5))))))))
set_option maxHeartbeats 4000000 in
set_option maxRecDepth 100000 in
theorem mX6_variance {l : Launch} {D : va_G} {A : Nat → Nat} {cA : Nat → ClassId} {v1 : Int32} {v2 : Int32}  {σ : zS} {r : Int64 × zS} (h : fX6_variance v1 v2 σ = some r) : zML l D (wX A cA) yX6_variance (zws yX6_variance cX6_variance 5 (some .long)) 7 147 [.ref (A 0), .int v1, .int v2] σ r := by
  refine zm_L (lv := [(0, .ref (A 0)), (1, .int v1), (2, .int v2)]) rfl (sX_ok A) (Nat.le_of_ble_eq_true rfl) rfl (fun C _ _ hC hR => ?_) h
  unfold fX6_variance
  refine gg_iload_n (pc := 0) hC dX6_variance_0 (i := 1) rfl 1 rfl ?_
  refine gg_iconst (pc := 1) hC dX6_variance_1 (x := 1) rfl ?_
  refine gg_bipush (pc := 2) hC dX6_variance_2 (x := 15) rfl ?_
  refine gg_callSIr (pc := 4) hC dX6_variance_4 cX6_87 (fun _ h => mX6_isWithin h) (Nat.le_of_ble_eq_true rfl) (Nat.le_of_ble_eq_true rfl) (As := [.int v1, .int 1, .int 15]) (rest := []) rfl rfl (Nat.le_of_ble_eq_true rfl) (fun x1 => ?_)
  refine gg_if_eq (pc := 7) hC dX6_variance_7 (tgt := 17) rfl (fun _ => ?_) (fun _ => ?_)
  · refine gg_bipush (pc := 17) hC dX6_variance_17 (x := -2) rfl ?_
    refine gg_callSLr (pc := 19) hC dX6_variance_19 cX6_140 (fun _ h => mX6_refusal h) (Nat.le_of_ble_eq_true rfl) (Nat.le_of_ble_eq_true rfl) (As := [.int (-2 : Int32)]) (rest := []) rfl rfl (Nat.le_of_ble_eq_true rfl) (fun x2 => ?_)
    exact gg_lret (pc := 22) hR dX6_variance_22
  · refine gg_iload_n (pc := 10) hC dX6_variance_10 (i := 2) rfl 2 rfl ?_
    refine gg_callSIr (pc := 11) hC dX6_variance_11 cX6_137 (fun _ h => mX6_isHalf h) (Nat.le_of_ble_eq_true rfl) (Nat.le_of_ble_eq_true rfl) (As := [.int v2]) (rest := []) rfl rfl (Nat.le_of_ble_eq_true rfl) (fun x3 => ?_)
    refine gg_if_ne (pc := 14) hC dX6_variance_14 (tgt := 23) rfl (fun _ => ?_) (fun _ => ?_)
    · refine gg_bipush (pc := 17) hC dX6_variance_17 (x := -2) rfl ?_
      refine gg_callSLr (pc := 19) hC dX6_variance_19 cX6_140 (fun _ h => mX6_refusal h) (Nat.le_of_ble_eq_true rfl) (Nat.le_of_ble_eq_true rfl) (As := [.int (-2 : Int32)]) (rest := []) rfl rfl (Nat.le_of_ble_eq_true rfl) (fun x4 => ?_)
      exact gg_lret (pc := 22) hR dX6_variance_22
    · refine gg_aload_n (pc := 23) hC dX6_variance_23 (i := 0) rfl 0 rfl ?_
      refine gg_callVV (pc := 24) hC dX6_variance_24 vX6_162 (fun _ h => mX6_renew h) (Nat.le_of_ble_eq_true rfl) (Nat.le_of_ble_eq_true rfl) (As := []) (rest := []) rfl rfl (Nat.le_of_ble_eq_true rfl) 0 6 pX_0 rfl (fun s5 => ?_)
      refine gg_iload_n (pc := 27) hC dX6_variance_27 (i := 1) rfl 1 rfl ?_
      refine gg_aload_n (pc := 28) hC dX6_variance_28 (i := 0) rfl 0 rfl ?_
      refine gg_get (pc := 29) hC dX6_variance_29 fX6_40 0 pX_0 (v := .ref (A 5)) rfl ?_
      refine gg_get (pc := 32) hC dX6_variance_32 fX6_242 5 pX_5 (v := .int (zi s5 13)) rfl ?_
      refine gg_icmp_le (pc := 35) hC dX6_variance_35 (tgt := 44) rfl (fun _ => ?_) (fun _ => ?_)
      · refine gg_aload_n (pc := 44) hC dX6_variance_44 (i := 0) rfl 0 rfl ?_
        refine gg_get (pc := 45) hC dX6_variance_45 fX6_33 0 pX_0 (v := .ref (A 4)) rfl ?_
        refine gg_get (pc := 48) hC dX6_variance_48 fX6_197 4 pX_4 (v := .int (zi s5 10)) rfl ?_
        refine gg_i2l (pc := 51) hC dX6_variance_51 ?_
        refine gg_zvl (fun x6 => ?_)
        refine gg_lstore_n (pc := 52) hC dX6_variance_52 (i := 3) rfl (Nat.le_of_ble_eq_true rfl) (lv' := [(3, .long x6), (0, .ref (A 0)), (1, .int v1), (2, .int v2)]) rfl ?_
        refine gg_aload_n (pc := 53) hC dX6_variance_53 (i := 0) rfl 1 rfl ?_
        refine gg_get (pc := 54) hC dX6_variance_54 fX6_40 0 pX_0 (v := .ref (A 5)) rfl ?_
        refine gg_get (pc := 57) hC dX6_variance_57 fX6_243 5 pX_5 (v := .ref (A 20)) rfl ?_
        refine gg_iload_n (pc := 60) hC dX6_variance_60 (i := 1) rfl 2 rfl ?_
        refine gg_lald (pc := 61) hC dX6_variance_61 20 1 pX_20 rfl ?_
        refine gg_ldc2 (pc := 62) hC dX6_variance_62 qX6_246 ?_
        refine gg_aload_n (pc := 65) hC dX6_variance_65 (i := 0) rfl 1 rfl ?_
        refine gg_get (pc := 66) hC dX6_variance_66 fX6_40 0 pX_0 (v := .ref (A 5)) rfl ?_
        refine gg_get (pc := 69) hC dX6_variance_69 fX6_248 5 pX_5 (v := .ref (A 21)) rfl ?_
        refine gg_iload_n (pc := 72) hC dX6_variance_72 (i := 1) rfl 2 rfl ?_
        refine gg_lald (pc := 73) hC dX6_variance_73 21 1 pX_21 rfl ?_
        refine gg_lmul (pc := 74) hC dX6_variance_74 ?_
        refine gg_lload_n (pc := 75) hC dX6_variance_75 (i := 3) rfl 0 rfl ?_
        refine gg_lmul (pc := 76) hC dX6_variance_76 ?_
        refine gg_lload_n (pc := 77) hC dX6_variance_77 (i := 3) rfl 0 rfl ?_
        refine gg_lmul (pc := 78) hC dX6_variance_78 ?_
        refine gg_iload_n (pc := 79) hC dX6_variance_79 (i := 2) rfl 3 rfl ?_
        refine gg_callSLr (pc := 80) hC dX6_variance_80 cX6_146 (fun _ h => mX6_lowest h) (Nat.le_of_ble_eq_true rfl) (Nat.le_of_ble_eq_true rfl) (As := [.long (zj s5 2 v1.toNatClampNeg), .long ((((2 : Int64) * (zj s5 3 v1.toNatClampNeg)) * x6) * x6), .int v2]) (rest := []) rfl rfl (Nat.le_of_ble_eq_true rfl) (fun x7 => ?_)
        exact gg_lret (pc := 83) hR dX6_variance_83
      · refine gg_bipush (pc := 38) hC dX6_variance_38 (x := -3) rfl ?_
        refine gg_callSLr (pc := 40) hC dX6_variance_40 cX6_140 (fun _ h => mX6_refusal h) (Nat.le_of_ble_eq_true rfl) (Nat.le_of_ble_eq_true rfl) (As := [.int (-3 : Int32)]) (rest := []) rfl rfl (Nat.le_of_ble_eq_true rfl) (fun x8 => ?_)
        exact gg_lret (pc := 43) hR dX6_variance_43
def fX6_mixSpans_5 : Nat → Int64 → Int32 → zS → Option (Int64 × zS)
  | 0, _, _, _ => none
  | n + 1, v3, v5, σ =>
    if 15 < v5 then (some (v3, σ)) else
    (zy2 (fX6_variance v5 0 σ) (fun x1 s2 =>
    zy1 (fX6_mix v3 x1 s2) (fun x3 =>
    zy2 (fX6_variance v5 1 s2) (fun x4 s5 =>
    zy1 (fX6_mix x3 x4 s5) (fun x6 =>
    fX6_mixSpans_5  n x6 (v5 + 1) s5)))))
def fX6_mixSpans_43 : Nat → Int64 → Int32 → zS → Option (Int64 × zS)
  | 0, _, _, _ => none
  | n + 1, v3, v5, σ =>
    if (zi σ 13) ≤ v5 then (some (v3, σ)) else
    (zy2 (fX6_rank v5 σ) (fun x1 s2 =>
    zy1 (fX6_mix v3 (x1.toInt64) s2) (fun x3 =>
    fX6_mixSpans_43  n x3 (v5 + 1) s2)))
def fX6_mixSpans (v1 : Int64) (σ : zS) : Option (Int64 × zS) :=
    zy2 (fX6_mixSpans_5  500 v1 1 σ) (fun (x1 : Int64) (s2 : zS) =>
    zy2 (fX6_mixSpans_43  500 x1 0 s2) (fun (x3 : Int64) (s4 : zS) =>
    some (x3, s4)))
set_option maxHeartbeats 4000000 in
set_option maxRecDepth 100000 in
theorem lX6_mixSpans_5 {C : zK} {A : Nat → Nat} {cA : Nat → ClassId} (hC : zOK C (wX A cA) cX6_mixSpans RX6 6 8 171) : ∀ (n : Nat) (v3 : Int64) (v5 : Int32) (σ : zS), zG C (wX A cA) 6 (fun q => zW C (wX A cA) 6 40 [(0, .ref (A 0)), (3, .long q.1)] [] q.2) (fX6_mixSpans_5  n v3 v5 σ) 5 [(0, .ref (A 0)), (3, .long v3), (5, .int v5)] [] σ := by
  intro n
  induction n with
  | zero => intro v3 v5 σ; exact gg_none (o := none)
  | succ n ih =>
    intro v3 v5 σ
    rw [fX6_mixSpans_5]
    refine gg_iload (pc := 5) hC dX6_mixSpans_5 2 rfl ?_
    refine gg_bipush (pc := 7) hC dX6_mixSpans_7 (x := 15) rfl ?_
    refine gg_icmp_gt (pc := 9) hC dX6_mixSpans_9 (tgt := 40) rfl (fun _ => ?_) (fun _ => ?_)
    · exact gg_y (fun h => zW_lv [0, 1] rfl h)
    · refine gg_lload_n (pc := 12) hC dX6_mixSpans_12 (i := 3) rfl 1 rfl ?_
      refine gg_aload_n (pc := 13) hC dX6_mixSpans_13 (i := 0) rfl 0 rfl ?_
      refine gg_iload (pc := 14) hC dX6_mixSpans_14 2 rfl ?_
      refine gg_iconst (pc := 16) hC dX6_mixSpans_16 (x := 0) rfl ?_
      refine gg_callVL (pc := 17) hC dX6_mixSpans_17 vX6_299 (fun _ h => mX6_variance h) (Nat.le_of_ble_eq_true rfl) (Nat.le_of_ble_eq_true rfl) (As := [.int v5, .int 0]) (rest := [.long v3]) rfl rfl (Nat.le_of_ble_eq_true rfl) 0 6 pX_0 rfl (fun x1 s2 => ?_)
      refine gg_callSLr (pc := 20) hC dX6_mixSpans_20 cX6_320 (fun _ h => mX6_mix h) (Nat.le_of_ble_eq_true rfl) (Nat.le_of_ble_eq_true rfl) (As := [.long v3, .long x1]) (rest := []) rfl rfl (Nat.le_of_ble_eq_true rfl) (fun x3 => ?_)
      refine gg_aload_n (pc := 23) hC dX6_mixSpans_23 (i := 0) rfl 0 rfl ?_
      refine gg_iload (pc := 24) hC dX6_mixSpans_24 2 rfl ?_
      refine gg_iconst (pc := 26) hC dX6_mixSpans_26 (x := 1) rfl ?_
      refine gg_callVL (pc := 27) hC dX6_mixSpans_27 vX6_299 (fun _ h => mX6_variance h) (Nat.le_of_ble_eq_true rfl) (Nat.le_of_ble_eq_true rfl) (As := [.int v5, .int 1]) (rest := [.long x3]) rfl rfl (Nat.le_of_ble_eq_true rfl) 0 6 pX_0 rfl (fun x4 s5 => ?_)
      refine gg_callSLr (pc := 30) hC dX6_mixSpans_30 cX6_320 (fun _ h => mX6_mix h) (Nat.le_of_ble_eq_true rfl) (Nat.le_of_ble_eq_true rfl) (As := [.long x3, .long x4]) (rest := []) rfl rfl (Nat.le_of_ble_eq_true rfl) (fun x6 => ?_)
      refine gg_lstore_n (pc := 33) hC dX6_mixSpans_33 (i := 3) rfl (Nat.le_of_ble_eq_true rfl) (lv' := [(3, .long x6), (0, .ref (A 0)), (5, .int v5)]) rfl ?_
      refine gg_iinc (pc := 34) hC dX6_mixSpans_34 (y := 0) (j := 2) rfl (z := 1) rfl (Nat.le_of_ble_eq_true rfl) (lv' := [(5, .int (v5 + 1)), (3, .long x6), (0, .ref (A 0))]) rfl ?_
      refine gg_goto (pc := 37) hC dX6_mixSpans_37 (tgt := 5) rfl ?_
      exact gg_lv [2, 1, 0] rfl (ih _ _ _)
set_option maxHeartbeats 4000000 in
set_option maxRecDepth 100000 in
theorem lX6_mixSpans_43 {C : zK} {A : Nat → Nat} {cA : Nat → ClassId} (hC : zOK C (wX A cA) cX6_mixSpans RX6 6 8 171) : ∀ (n : Nat) (v3 : Int64) (v5 : Int32) (σ : zS), zG C (wX A cA) 6 (fun q => zW C (wX A cA) 6 73 [(3, .long q.1)] [] q.2) (fX6_mixSpans_43  n v3 v5 σ) 43 [(0, .ref (A 0)), (3, .long v3), (5, .int v5)] [] σ := by
  intro n
  induction n with
  | zero => intro v3 v5 σ; exact gg_none (o := none)
  | succ n ih =>
    intro v3 v5 σ
    rw [fX6_mixSpans_43]
    refine gg_iload (pc := 43) hC dX6_mixSpans_43 2 rfl ?_
    refine gg_aload_n (pc := 45) hC dX6_mixSpans_45 (i := 0) rfl 0 rfl ?_
    refine gg_get (pc := 46) hC dX6_mixSpans_46 fX6_40 0 pX_0 (v := .ref (A 5)) rfl ?_
    refine gg_get (pc := 49) hC dX6_mixSpans_49 fX6_242 5 pX_5 (v := .int (zi σ 13)) rfl ?_
    refine gg_icmp_ge (pc := 52) hC dX6_mixSpans_52 (tgt := 73) rfl (fun _ => ?_) (fun _ => ?_)
    · exact gg_y (fun h => zW_lv [1] rfl h)
    · refine gg_lload_n (pc := 55) hC dX6_mixSpans_55 (i := 3) rfl 1 rfl ?_
      refine gg_aload_n (pc := 56) hC dX6_mixSpans_56 (i := 0) rfl 0 rfl ?_
      refine gg_iload (pc := 57) hC dX6_mixSpans_57 2 rfl ?_
      refine gg_callVI (pc := 59) hC dX6_mixSpans_59 vX6_386 (fun _ h => mX6_rank h) (Nat.le_of_ble_eq_true rfl) (Nat.le_of_ble_eq_true rfl) (As := [.int v5]) (rest := [.long v3]) rfl rfl (Nat.le_of_ble_eq_true rfl) 0 6 pX_0 rfl (fun x1 s2 => ?_)
      refine gg_i2l (pc := 62) hC dX6_mixSpans_62 ?_
      refine gg_callSLr (pc := 63) hC dX6_mixSpans_63 cX6_320 (fun _ h => mX6_mix h) (Nat.le_of_ble_eq_true rfl) (Nat.le_of_ble_eq_true rfl) (As := [.long v3, .long (x1.toInt64)]) (rest := []) rfl rfl (Nat.le_of_ble_eq_true rfl) (fun x3 => ?_)
      refine gg_lstore_n (pc := 66) hC dX6_mixSpans_66 (i := 3) rfl (Nat.le_of_ble_eq_true rfl) (lv' := [(3, .long x3), (0, .ref (A 0)), (5, .int v5)]) rfl ?_
      refine gg_iinc (pc := 67) hC dX6_mixSpans_67 (y := 0) (j := 2) rfl (z := 1) rfl (Nat.le_of_ble_eq_true rfl) (lv' := [(5, .int (v5 + 1)), (3, .long x3), (0, .ref (A 0))]) rfl ?_
      refine gg_goto (pc := 70) hC dX6_mixSpans_70 (tgt := 43) rfl ?_
      exact gg_lv [2, 1, 0] rfl (ih _ _ _)
set_option maxHeartbeats 4000000 in
set_option maxRecDepth 100000 in
theorem mX6_mixSpans {l : Launch} {D : va_G} {A : Nat → Nat} {cA : Nat → ClassId} {v1 : Int64}  {σ : zS} {r : Int64 × zS} (h : fX6_mixSpans v1 σ = some r) : zML l D (wX A cA) yX6_mixSpans (zws yX6_mixSpans cX6_mixSpans 6 (some .long)) 8 171 [.ref (A 0), .long v1] σ r := by
  refine zm_L (lv := [(0, .ref (A 0)), (1, .long v1)]) rfl (sX_ok A) (Nat.le_of_ble_eq_true rfl) rfl (fun C _ _ hC hR => ?_) h
  unfold fX6_mixSpans
  refine gg_lload_n (pc := 0) hC dX6_mixSpans_0 (i := 1) rfl 1 rfl ?_
  refine gg_lstore_n (pc := 1) hC dX6_mixSpans_1 (i := 3) rfl (Nat.le_of_ble_eq_true rfl) (lv' := [(3, .long v1), (0, .ref (A 0)), (1, .long v1)]) rfl ?_
  refine gg_iconst (pc := 2) hC dX6_mixSpans_2 (x := 1) rfl ?_
  refine gg_istore (pc := 3) hC dX6_mixSpans_3 (Nat.le_of_ble_eq_true rfl) (lv' := [(5, .int 1), (3, .long v1), (0, .ref (A 0)), (1, .long v1)]) rfl ?_
  refine gg_join2 (E' := (fun q => zW C (wX A cA) 6 40 [(0, .ref (A 0)), (3, .long q.1)] [] q.2)) (gg_lv [2, 1, 0] rfl (lX6_mixSpans_5 hC  500 _ _ _)) (fun x1 s2 => ?_)
  show zG C (wX A cA) 6 _ _ 40 [(0, .ref (A 0)), (3, .long x1)] [] s2
  refine gg_iconst (pc := 40) hC dX6_mixSpans_40 (x := 0) rfl ?_
  refine gg_istore (pc := 41) hC dX6_mixSpans_41 (Nat.le_of_ble_eq_true rfl) (lv' := [(5, .int 0), (0, .ref (A 0)), (3, .long x1)]) rfl ?_
  refine gg_join2 (E' := (fun q => zW C (wX A cA) 6 73 [(3, .long q.1)] [] q.2)) (gg_lv [1, 2, 0] rfl (lX6_mixSpans_43 hC  500 _ _ _)) (fun x3 s4 => ?_)
  show zG C (wX A cA) 6 _ _ 73 [(3, .long x3)] [] s4
  refine gg_lload_n (pc := 73) hC dX6_mixSpans_73 (i := 3) rfl 0 rfl ?_
  exact gg_lret (pc := 74) hR dX6_mixSpans_74
def fX6_reference (v1 : Int32) (σ : zS) : Option (Int64 × zS) :=
    zy1 (fX6_isHalf v1 σ) (fun x1 =>
    if x1 = 0 then (zy1 (fX6_refusal (-2 : Int32) σ) (fun x2 =>
    some (x2, σ))) else
    (if (zi σ 1) = 0 then (if 2 ≤ (zi σ 5) then (zy1 (fX6_renew σ) (fun s3 =>
    zy1 (fX6_lowest (zl s3 0) ((zi s3 10).toInt64) v1 s3) (fun x4 =>
    some (x4, s3)))) else
    (zy1 (fX6_refusal (-3 : Int32) σ) (fun x5 =>
    some (x5, σ)))) else
    (zy1 (fX6_renew σ) (fun s6 =>
    zy1 (fX6_lowest (zl s6 0) ((zi s6 10).toInt64) v1 s6) (fun x7 =>
    some (x7, s6))))))
set_option maxHeartbeats 4000000 in
set_option maxRecDepth 100000 in
theorem mX6_reference {l : Launch} {D : va_G} {A : Nat → Nat} {cA : Nat → ClassId} {v1 : Int32}  {σ : zS} {r : Int64 × zS} (h : fX6_reference v1 σ = some r) : zML l D (wX A cA) yX6_reference (zws yX6_reference cX6_reference 2 (some .long)) 7 147 [.ref (A 0), .int v1] σ r := by
  refine zm_L (lv := [(0, .ref (A 0)), (1, .int v1)]) rfl (sX_ok A) (Nat.le_of_ble_eq_true rfl) rfl (fun C _ _ hC hR => ?_) h
  unfold fX6_reference
  refine gg_iload_n (pc := 0) hC dX6_reference_0 (i := 1) rfl 1 rfl ?_
  refine gg_callSIr (pc := 1) hC dX6_reference_1 cX6_137 (fun _ h => mX6_isHalf h) (Nat.le_of_ble_eq_true rfl) (Nat.le_of_ble_eq_true rfl) (As := [.int v1]) (rest := []) rfl rfl (Nat.le_of_ble_eq_true rfl) (fun x1 => ?_)
  refine gg_if_ne (pc := 4) hC dX6_reference_4 (tgt := 13) rfl (fun _ => ?_) (fun _ => ?_)
  · refine gg_bipush (pc := 7) hC dX6_reference_7 (x := -2) rfl ?_
    refine gg_callSLr (pc := 9) hC dX6_reference_9 cX6_140 (fun _ h => mX6_refusal h) (Nat.le_of_ble_eq_true rfl) (Nat.le_of_ble_eq_true rfl) (As := [.int (-2 : Int32)]) (rest := []) rfl rfl (Nat.le_of_ble_eq_true rfl) (fun x2 => ?_)
    exact gg_lret (pc := 12) hR dX6_reference_12
  · refine gg_aload_n (pc := 13) hC dX6_reference_13 (i := 0) rfl 0 rfl ?_
    refine gg_get (pc := 14) hC dX6_reference_14 fX6_58 0 pX_0 (v := .int (zi σ 1)) rfl ?_
    refine gg_if_ne (pc := 17) hC dX6_reference_17 (tgt := 37) rfl (fun _ => ?_) (fun _ => ?_)
    · refine gg_aload_n (pc := 20) hC dX6_reference_20 (i := 0) rfl 0 rfl ?_
      refine gg_get (pc := 21) hC dX6_reference_21 fX6_10 0 pX_0 (v := .ref (A 1)) rfl ?_
      refine gg_get (pc := 24) hC dX6_reference_24 fX6_97 1 pX_1 (v := .int (zi σ 5)) rfl ?_
      refine gg_iconst (pc := 27) hC dX6_reference_27 (x := 2) rfl ?_
      refine gg_icmp_ge (pc := 28) hC dX6_reference_28 (tgt := 37) rfl (fun _ => ?_) (fun _ => ?_)
      · refine gg_aload_n (pc := 37) hC dX6_reference_37 (i := 0) rfl 0 rfl ?_
        refine gg_callVV (pc := 38) hC dX6_reference_38 vX6_162 (fun _ h => mX6_renew h) (Nat.le_of_ble_eq_true rfl) (Nat.le_of_ble_eq_true rfl) (As := []) (rest := []) rfl rfl (Nat.le_of_ble_eq_true rfl) 0 6 pX_0 rfl (fun s3 => ?_)
        refine gg_aload_n (pc := 41) hC dX6_reference_41 (i := 0) rfl 0 rfl ?_
        refine gg_get (pc := 42) hC dX6_reference_42 fX6_33 0 pX_0 (v := .ref (A 4)) rfl ?_
        refine gg_get (pc := 45) hC dX6_reference_45 fX6_200 4 pX_4 (v := .long (zl s3 0)) rfl ?_
        refine gg_aload_n (pc := 48) hC dX6_reference_48 (i := 0) rfl 0 rfl ?_
        refine gg_get (pc := 49) hC dX6_reference_49 fX6_33 0 pX_0 (v := .ref (A 4)) rfl ?_
        refine gg_get (pc := 52) hC dX6_reference_52 fX6_197 4 pX_4 (v := .int (zi s3 10)) rfl ?_
        refine gg_i2l (pc := 55) hC dX6_reference_55 ?_
        refine gg_iload_n (pc := 56) hC dX6_reference_56 (i := 1) rfl 1 rfl ?_
        refine gg_callSLr (pc := 57) hC dX6_reference_57 cX6_146 (fun _ h => mX6_lowest h) (Nat.le_of_ble_eq_true rfl) (Nat.le_of_ble_eq_true rfl) (As := [.long (zl s3 0), .long ((zi s3 10).toInt64), .int v1]) (rest := []) rfl rfl (Nat.le_of_ble_eq_true rfl) (fun x4 => ?_)
        exact gg_lret (pc := 60) hR dX6_reference_60
      · refine gg_bipush (pc := 31) hC dX6_reference_31 (x := -3) rfl ?_
        refine gg_callSLr (pc := 33) hC dX6_reference_33 cX6_140 (fun _ h => mX6_refusal h) (Nat.le_of_ble_eq_true rfl) (Nat.le_of_ble_eq_true rfl) (As := [.int (-3 : Int32)]) (rest := []) rfl rfl (Nat.le_of_ble_eq_true rfl) (fun x5 => ?_)
        exact gg_lret (pc := 36) hR dX6_reference_36
    · refine gg_aload_n (pc := 37) hC dX6_reference_37 (i := 0) rfl 0 rfl ?_
      refine gg_callVV (pc := 38) hC dX6_reference_38 vX6_162 (fun _ h => mX6_renew h) (Nat.le_of_ble_eq_true rfl) (Nat.le_of_ble_eq_true rfl) (As := []) (rest := []) rfl rfl (Nat.le_of_ble_eq_true rfl) 0 6 pX_0 rfl (fun s6 => ?_)
      refine gg_aload_n (pc := 41) hC dX6_reference_41 (i := 0) rfl 0 rfl ?_
      refine gg_get (pc := 42) hC dX6_reference_42 fX6_33 0 pX_0 (v := .ref (A 4)) rfl ?_
      refine gg_get (pc := 45) hC dX6_reference_45 fX6_200 4 pX_4 (v := .long (zl s6 0)) rfl ?_
      refine gg_aload_n (pc := 48) hC dX6_reference_48 (i := 0) rfl 0 rfl ?_
      refine gg_get (pc := 49) hC dX6_reference_49 fX6_33 0 pX_0 (v := .ref (A 4)) rfl ?_
      refine gg_get (pc := 52) hC dX6_reference_52 fX6_197 4 pX_4 (v := .int (zi s6 10)) rfl ?_
      refine gg_i2l (pc := 55) hC dX6_reference_55 ?_
      refine gg_iload_n (pc := 56) hC dX6_reference_56 (i := 1) rfl 1 rfl ?_
      refine gg_callSLr (pc := 57) hC dX6_reference_57 cX6_146 (fun _ h => mX6_lowest h) (Nat.le_of_ble_eq_true rfl) (Nat.le_of_ble_eq_true rfl) (As := [.long (zl s6 0), .long ((zi s6 10).toInt64), .int v1]) (rest := []) rfl rfl (Nat.le_of_ble_eq_true rfl) (fun x7 => ?_)
      exact gg_lret (pc := 60) hR dX6_reference_60
def fX6_worst  (σ : zS) : Option (Int32) :=
    if (zi σ 7) = 0 then (some (-3 : Int32)) else
    (zy1 (fX0_farthest σ) (fun x1 =>
    some x1))
set_option maxHeartbeats 4000000 in
set_option maxRecDepth 100000 in
theorem mX6_worst {l : Launch} {D : va_G} {A : Nat → Nat} {cA : Nat → ClassId}   {σ : zS} {r : Int32} (h : fX6_worst  σ = some r) : zMI l D (wX A cA) yX6_worst (zws yX6_worst cX6_worst 1 (some .int)) 3 66 [.ref (A 0)] σ (r, σ) := by
  refine zm_Ir (lv := [(0, .ref (A 0))]) rfl (sX_ok A) (Nat.le_of_ble_eq_true rfl) rfl (fun C _ _ hC hR => ?_) h
  unfold fX6_worst
  refine gg_aload_n (pc := 0) hC dX6_worst_0 (i := 0) rfl 0 rfl ?_
  refine gg_get (pc := 1) hC dX6_worst_1 fX6_19 0 pX_0 (v := .ref (A 2)) rfl ?_
  refine gg_get (pc := 4) hC dX6_worst_4 fX6_118 2 pX_2 (v := .int (zi σ 7)) rfl ?_
  refine gg_if_ne (pc := 7) hC dX6_worst_7 (tgt := 15) rfl (fun _ => ?_) (fun _ => ?_)
  · refine gg_bipush (pc := 10) hC dX6_worst_10 (x := -3) rfl ?_
    refine gg_goto (pc := 12) hC dX6_worst_12 (tgt := 22) rfl ?_
    exact gg_iretr (pc := 22) hR dX6_worst_22
  · refine gg_aload_n (pc := 15) hC dX6_worst_15 (i := 0) rfl 0 rfl ?_
    refine gg_get (pc := 16) hC dX6_worst_16 fX6_19 0 pX_0 (v := .ref (A 2)) rfl ?_
    refine gg_callVIr (pc := 19) hC dX6_worst_19 vX6_150 (fun _ h => mX0_farthest h) (Nat.le_of_ble_eq_true rfl) (Nat.le_of_ble_eq_true rfl) (As := []) (rest := []) rfl rfl (Nat.le_of_ble_eq_true rfl) 2 0 pX_2 rfl (fun x1 => ?_)
    exact gg_iretr (pc := 22) hR dX6_worst_22

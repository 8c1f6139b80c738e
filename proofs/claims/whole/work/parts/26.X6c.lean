def fX6_digest_6 : Nat → Int64 → Int32 → zS → Option (Int64 × zS)
  | 0, _, _, _ => none
  | n + 1, v1, v3, σ =>
    if 7 < v3 then (some (v1, σ)) else
    (zy2 (fX6_count v3 σ) (fun x1 s2 =>
    zy1 (fX6_mix v1 (x1.toInt64) s2) (fun x3 =>
    fX6_digest_6  n x3 (v3 + 1) s2)))
def fX6_digest  (σ : zS) : Option (Int64 × zS) :=
    zy2 (fX6_digest_6  500 (17 : Int64) 0 σ) (fun (x1 : Int64) (s2 : zS) =>
    zy1 (fX6_mode s2) (fun x3 =>
    zy1 (fX6_mix x1 (x3.toInt64) s2) (fun x4 =>
    zy1 (fX6_mixBins x4 s2) (fun x5 =>
    zy1 (fX6_worst s2) (fun x6 =>
    zy1 (fX6_mix x5 (x6.toInt64) s2) (fun x7 =>
    zy2 (fX6_mixEdges x7 s2) (fun x8 s9 =>
    zy2 (fX6_reference 0 s9) (fun x10 s11 =>
    zy1 (fX6_mix x8 x10 s11) (fun x12 =>
    zy2 (fX6_reference 1 s11) (fun x13 s14 =>
    zy1 (fX6_mix x12 x13 s14) (fun x15 =>
    zy2 (fX6_mixGates x15 s14) (fun x16 s17 =>
    zy2 (fX6_mixChains x16 s17) (fun x18 s19 =>
    zy2 (fX6_mixFit x18 s19) (fun x20 s21 =>
    zy1 (fX6_gain 5 0 s21) (fun x22 =>
    zy1 (fX6_mix x20 x22 s21) (fun x23 =>
    zy1 (fX6_gain 5 1 s21) (fun x24 =>
    zy1 (fX6_mix x23 x24 s21) (fun x25 =>
    zy2 (fX6_mixSpans x25 s21) (fun x26 s27 =>
    some (x26, s27))))))))))))))))))))
set_option maxHeartbeats 4000000 in
set_option maxRecDepth 100000 in
theorem lX6_digest_6 {C : zK} {A : Nat → Nat} {cA : Nat → ClassId} (hC : zOK C (wX A cA) cX6_digest RX6 4 9 202) : ∀ (n : Nat) (v1 : Int64) (v3 : Int32) (σ : zS), zG C (wX A cA) 4 (fun q => zW C (wX A cA) 4 29 [(0, .ref (A 0)), (1, .long q.1)] [] q.2) (fX6_digest_6  n v1 v3 σ) 6 [(0, .ref (A 0)), (1, .long v1), (3, .int v3)] [] σ := by
  intro n
  induction n with
  | zero => intro v1 v3 σ; exact gg_none (o := none)
  | succ n ih =>
    intro v1 v3 σ
    rw [fX6_digest_6]
    refine gg_iload_n (pc := 6) hC dX6_digest_6 (i := 3) rfl 2 rfl ?_
    refine gg_bipush (pc := 7) hC dX6_digest_7 (x := 7) rfl ?_
    refine gg_icmp_gt (pc := 9) hC dX6_digest_9 (tgt := 29) rfl (fun _ => ?_) (fun _ => ?_)
    · exact gg_y (fun h => zW_lv [0, 1] rfl h)
    · refine gg_lload_n (pc := 12) hC dX6_digest_12 (i := 1) rfl 1 rfl ?_
      refine gg_aload_n (pc := 13) hC dX6_digest_13 (i := 0) rfl 0 rfl ?_
      refine gg_iload_n (pc := 14) hC dX6_digest_14 (i := 3) rfl 2 rfl ?_
      refine gg_callVI (pc := 15) hC dX6_digest_15 vX6_317 (fun _ h => mX6_count h) (Nat.le_of_ble_eq_true rfl) (Nat.le_of_ble_eq_true rfl) (As := [.int v3]) (rest := [.long v1]) rfl rfl (Nat.le_of_ble_eq_true rfl) 0 6 pX_0 rfl (fun x1 s2 => ?_)
      refine gg_i2l (pc := 18) hC dX6_digest_18 ?_
      refine gg_callSLr (pc := 19) hC dX6_digest_19 cX6_320 (fun _ h => mX6_mix h) (Nat.le_of_ble_eq_true rfl) (Nat.le_of_ble_eq_true rfl) (As := [.long v1, .long (x1.toInt64)]) (rest := []) rfl rfl (Nat.le_of_ble_eq_true rfl) (fun x3 => ?_)
      refine gg_lstore_n (pc := 22) hC dX6_digest_22 (i := 1) rfl (Nat.le_of_ble_eq_true rfl) (lv' := [(1, .long x3), (0, .ref (A 0)), (3, .int v3)]) rfl ?_
      refine gg_iinc (pc := 23) hC dX6_digest_23 (y := 0) (j := 2) rfl (z := 1) rfl (Nat.le_of_ble_eq_true rfl) (lv' := [(3, .int (v3 + 1)), (1, .long x3), (0, .ref (A 0))]) rfl ?_
      refine gg_goto (pc := 26) hC dX6_digest_26 (tgt := 6) rfl ?_
      exact gg_lv [2, 1, 0] rfl (ih _ _ _)
set_option maxHeartbeats 4000000 in
set_option maxRecDepth 100000 in
theorem mX6_digest {l : Launch} {D : va_G} {A : Nat → Nat} {cA : Nat → ClassId}   {σ : zS} {r : Int64 × zS} (h : fX6_digest  σ = some r) : zML l D (wX A cA) yX6_digest (zws yX6_digest cX6_digest 4 (some .long)) 9 202 [.ref (A 0)] σ r := by
  refine zm_L (lv := [(0, .ref (A 0))]) rfl (sX_ok A) (Nat.le_of_ble_eq_true rfl) rfl (fun C _ _ hC hR => ?_) h
  unfold fX6_digest
  refine gg_ldc2 (pc := 0) hC dX6_digest_0 qX6_315 ?_
  refine gg_lstore_n (pc := 3) hC dX6_digest_3 (i := 1) rfl (Nat.le_of_ble_eq_true rfl) (lv' := [(1, .long (17 : Int64)), (0, .ref (A 0))]) rfl ?_
  refine gg_iconst (pc := 4) hC dX6_digest_4 (x := 0) rfl ?_
  refine gg_istore_n (pc := 5) hC dX6_digest_5 (i := 3) rfl (Nat.le_of_ble_eq_true rfl) (lv' := [(3, .int 0), (1, .long (17 : Int64)), (0, .ref (A 0))]) rfl ?_
  refine gg_join2 (E' := (fun q => zW C (wX A cA) 4 29 [(0, .ref (A 0)), (1, .long q.1)] [] q.2)) (gg_lv [2, 1, 0] rfl (lX6_digest_6 hC  500 _ _ _)) (fun x1 s2 => ?_)
  show zG C (wX A cA) 4 _ _ 29 [(0, .ref (A 0)), (1, .long x1)] [] s2
  refine gg_lload_n (pc := 29) hC dX6_digest_29 (i := 1) rfl 1 rfl ?_
  refine gg_aload_n (pc := 30) hC dX6_digest_30 (i := 0) rfl 0 rfl ?_
  refine gg_callVIr (pc := 31) hC dX6_digest_31 vX6_324 (fun _ h => mX6_mode h) (Nat.le_of_ble_eq_true rfl) (Nat.le_of_ble_eq_true rfl) (As := []) (rest := [.long x1]) rfl rfl (Nat.le_of_ble_eq_true rfl) 0 6 pX_0 rfl (fun x3 => ?_)
  refine gg_i2l (pc := 34) hC dX6_digest_34 ?_
  refine gg_callSLr (pc := 35) hC dX6_digest_35 cX6_320 (fun _ h => mX6_mix h) (Nat.le_of_ble_eq_true rfl) (Nat.le_of_ble_eq_true rfl) (As := [.long x1, .long (x3.toInt64)]) (rest := []) rfl rfl (Nat.le_of_ble_eq_true rfl) (fun x4 => ?_)
  refine gg_lstore_n (pc := 38) hC dX6_digest_38 (i := 1) rfl (Nat.le_of_ble_eq_true rfl) (lv' := [(1, .long x4), (0, .ref (A 0))]) rfl ?_
  refine gg_aload_n (pc := 39) hC dX6_digest_39 (i := 0) rfl 1 rfl ?_
  refine gg_lload_n (pc := 40) hC dX6_digest_40 (i := 1) rfl 0 rfl ?_
  refine gg_callVLr (pc := 41) hC dX6_digest_41 vX6_327 (fun _ h => mX6_mixBins h) (Nat.le_of_ble_eq_true rfl) (Nat.le_of_ble_eq_true rfl) (As := [.long x4]) (rest := []) rfl rfl (Nat.le_of_ble_eq_true rfl) 0 6 pX_0 rfl (fun x5 => ?_)
  refine gg_lstore_n (pc := 44) hC dX6_digest_44 (i := 1) rfl (Nat.le_of_ble_eq_true rfl) (lv' := [(1, .long x5), (0, .ref (A 0))]) rfl ?_
  refine gg_lload_n (pc := 45) hC dX6_digest_45 (i := 1) rfl 0 rfl ?_
  refine gg_aload_n (pc := 46) hC dX6_digest_46 (i := 0) rfl 1 rfl ?_
  refine gg_callVIr (pc := 47) hC dX6_digest_47 vX6_331 (fun _ h => mX6_worst h) (Nat.le_of_ble_eq_true rfl) (Nat.le_of_ble_eq_true rfl) (As := []) (rest := [.long x5]) rfl rfl (Nat.le_of_ble_eq_true rfl) 0 6 pX_0 rfl (fun x6 => ?_)
  refine gg_i2l (pc := 50) hC dX6_digest_50 ?_
  refine gg_callSLr (pc := 51) hC dX6_digest_51 cX6_320 (fun _ h => mX6_mix h) (Nat.le_of_ble_eq_true rfl) (Nat.le_of_ble_eq_true rfl) (As := [.long x5, .long (x6.toInt64)]) (rest := []) rfl rfl (Nat.le_of_ble_eq_true rfl) (fun x7 => ?_)
  refine gg_lstore_n (pc := 54) hC dX6_digest_54 (i := 1) rfl (Nat.le_of_ble_eq_true rfl) (lv' := [(1, .long x7), (0, .ref (A 0))]) rfl ?_
  refine gg_aload_n (pc := 55) hC dX6_digest_55 (i := 0) rfl 1 rfl ?_
  refine gg_lload_n (pc := 56) hC dX6_digest_56 (i := 1) rfl 0 rfl ?_
  refine gg_callVL (pc := 57) hC dX6_digest_57 vX6_334 (fun _ h => mX6_mixEdges h) (Nat.le_of_ble_eq_true rfl) (Nat.le_of_ble_eq_true rfl) (As := [.long x7]) (rest := []) rfl rfl (Nat.le_of_ble_eq_true rfl) 0 6 pX_0 rfl (fun x8 s9 => ?_)
  refine gg_lstore_n (pc := 60) hC dX6_digest_60 (i := 1) rfl (Nat.le_of_ble_eq_true rfl) (lv' := [(1, .long x8), (0, .ref (A 0))]) rfl ?_
  refine gg_lload_n (pc := 61) hC dX6_digest_61 (i := 1) rfl 0 rfl ?_
  refine gg_aload_n (pc := 62) hC dX6_digest_62 (i := 0) rfl 1 rfl ?_
  refine gg_iconst (pc := 63) hC dX6_digest_63 (x := 0) rfl ?_
  refine gg_callVL (pc := 64) hC dX6_digest_64 vX6_337 (fun _ h => mX6_reference h) (Nat.le_of_ble_eq_true rfl) (Nat.le_of_ble_eq_true rfl) (As := [.int 0]) (rest := [.long x8]) rfl rfl (Nat.le_of_ble_eq_true rfl) 0 6 pX_0 rfl (fun x10 s11 => ?_)
  refine gg_callSLr (pc := 67) hC dX6_digest_67 cX6_320 (fun _ h => mX6_mix h) (Nat.le_of_ble_eq_true rfl) (Nat.le_of_ble_eq_true rfl) (As := [.long x8, .long x10]) (rest := []) rfl rfl (Nat.le_of_ble_eq_true rfl) (fun x12 => ?_)
  refine gg_aload_n (pc := 70) hC dX6_digest_70 (i := 0) rfl 1 rfl ?_
  refine gg_iconst (pc := 71) hC dX6_digest_71 (x := 1) rfl ?_
  refine gg_callVL (pc := 72) hC dX6_digest_72 vX6_337 (fun _ h => mX6_reference h) (Nat.le_of_ble_eq_true rfl) (Nat.le_of_ble_eq_true rfl) (As := [.int 1]) (rest := [.long x12]) rfl rfl (Nat.le_of_ble_eq_true rfl) 0 6 pX_0 rfl (fun x13 s14 => ?_)
  refine gg_callSLr (pc := 75) hC dX6_digest_75 cX6_320 (fun _ h => mX6_mix h) (Nat.le_of_ble_eq_true rfl) (Nat.le_of_ble_eq_true rfl) (As := [.long x12, .long x13]) (rest := []) rfl rfl (Nat.le_of_ble_eq_true rfl) (fun x15 => ?_)
  refine gg_lstore_n (pc := 78) hC dX6_digest_78 (i := 1) rfl (Nat.le_of_ble_eq_true rfl) (lv' := [(1, .long x15), (0, .ref (A 0))]) rfl ?_
  refine gg_aload_n (pc := 79) hC dX6_digest_79 (i := 0) rfl 1 rfl ?_
  refine gg_lload_n (pc := 80) hC dX6_digest_80 (i := 1) rfl 0 rfl ?_
  refine gg_callVL (pc := 81) hC dX6_digest_81 vX6_339 (fun _ h => mX6_mixGates h) (Nat.le_of_ble_eq_true rfl) (Nat.le_of_ble_eq_true rfl) (As := [.long x15]) (rest := []) rfl rfl (Nat.le_of_ble_eq_true rfl) 0 6 pX_0 rfl (fun x16 s17 => ?_)
  refine gg_lstore_n (pc := 84) hC dX6_digest_84 (i := 1) rfl (Nat.le_of_ble_eq_true rfl) (lv' := [(1, .long x16), (0, .ref (A 0))]) rfl ?_
  refine gg_aload_n (pc := 85) hC dX6_digest_85 (i := 0) rfl 1 rfl ?_
  refine gg_lload_n (pc := 86) hC dX6_digest_86 (i := 1) rfl 0 rfl ?_
  refine gg_callVL (pc := 87) hC dX6_digest_87 vX6_342 (fun _ h => mX6_mixChains h) (Nat.le_of_ble_eq_true rfl) (Nat.le_of_ble_eq_true rfl) (As := [.long x16]) (rest := []) rfl rfl (Nat.le_of_ble_eq_true rfl) 0 6 pX_0 rfl (fun x18 s19 => ?_)
  refine gg_lstore_n (pc := 90) hC dX6_digest_90 (i := 1) rfl (Nat.le_of_ble_eq_true rfl) (lv' := [(1, .long x18), (0, .ref (A 0))]) rfl ?_
  refine gg_aload_n (pc := 91) hC dX6_digest_91 (i := 0) rfl 1 rfl ?_
  refine gg_lload_n (pc := 92) hC dX6_digest_92 (i := 1) rfl 0 rfl ?_
  refine gg_callVL (pc := 93) hC dX6_digest_93 vX6_345 (fun _ h => mX6_mixFit h) (Nat.le_of_ble_eq_true rfl) (Nat.le_of_ble_eq_true rfl) (As := [.long x18]) (rest := []) rfl rfl (Nat.le_of_ble_eq_true rfl) 0 6 pX_0 rfl (fun x20 s21 => ?_)
  refine gg_lstore_n (pc := 96) hC dX6_digest_96 (i := 1) rfl (Nat.le_of_ble_eq_true rfl) (lv' := [(1, .long x20), (0, .ref (A 0))]) rfl ?_
  refine gg_lload_n (pc := 97) hC dX6_digest_97 (i := 1) rfl 0 rfl ?_
  refine gg_aload_n (pc := 98) hC dX6_digest_98 (i := 0) rfl 1 rfl ?_
  refine gg_iconst (pc := 99) hC dX6_digest_99 (x := 5) rfl ?_
  refine gg_iconst (pc := 100) hC dX6_digest_100 (x := 0) rfl ?_
  refine gg_callVLr (pc := 101) hC dX6_digest_101 vX6_348 (fun _ h => mX6_gain h) (Nat.le_of_ble_eq_true rfl) (Nat.le_of_ble_eq_true rfl) (As := [.int 5, .int 0]) (rest := [.long x20]) rfl rfl (Nat.le_of_ble_eq_true rfl) 0 6 pX_0 rfl (fun x22 => ?_)
  refine gg_callSLr (pc := 104) hC dX6_digest_104 cX6_320 (fun _ h => mX6_mix h) (Nat.le_of_ble_eq_true rfl) (Nat.le_of_ble_eq_true rfl) (As := [.long x20, .long x22]) (rest := []) rfl rfl (Nat.le_of_ble_eq_true rfl) (fun x23 => ?_)
  refine gg_aload_n (pc := 107) hC dX6_digest_107 (i := 0) rfl 1 rfl ?_
  refine gg_iconst (pc := 108) hC dX6_digest_108 (x := 5) rfl ?_
  refine gg_iconst (pc := 109) hC dX6_digest_109 (x := 1) rfl ?_
  refine gg_callVLr (pc := 110) hC dX6_digest_110 vX6_348 (fun _ h => mX6_gain h) (Nat.le_of_ble_eq_true rfl) (Nat.le_of_ble_eq_true rfl) (As := [.int 5, .int 1]) (rest := [.long x23]) rfl rfl (Nat.le_of_ble_eq_true rfl) 0 6 pX_0 rfl (fun x24 => ?_)
  refine gg_callSLr (pc := 113) hC dX6_digest_113 cX6_320 (fun _ h => mX6_mix h) (Nat.le_of_ble_eq_true rfl) (Nat.le_of_ble_eq_true rfl) (As := [.long x23, .long x24]) (rest := []) rfl rfl (Nat.le_of_ble_eq_true rfl) (fun x25 => ?_)
  refine gg_lstore_n (pc := 116) hC dX6_digest_116 (i := 1) rfl (Nat.le_of_ble_eq_true rfl) (lv' := [(1, .long x25), (0, .ref (A 0))]) rfl ?_
  refine gg_aload_n (pc := 117) hC dX6_digest_117 (i := 0) rfl 1 rfl ?_
  refine gg_lload_n (pc := 118) hC dX6_digest_118 (i := 1) rfl 0 rfl ?_
  refine gg_callVL (pc := 119) hC dX6_digest_119 vX6_351 (fun _ h => mX6_mixSpans h) (Nat.le_of_ble_eq_true rfl) (Nat.le_of_ble_eq_true rfl) (As := [.long x25]) (rest := []) rfl rfl (Nat.le_of_ble_eq_true rfl) 0 6 pX_0 rfl (fun x26 s27 => ?_)
  exact gg_lret (pc := 122) hR dX6_digest_122
def fX6_isTime (v0 : Int32) (σ : zS) : Option (Int32) :=
    zy1 (fX6_isWithin v0 0 5999 σ) (fun x1 =>
    zg (zz x1) (some x1))
set_option maxHeartbeats 4000000 in
set_option maxRecDepth 100000 in
theorem mX6_isTime {l : Launch} {D : va_G} {A : Nat → Nat} {cA : Nat → ClassId} {v0 : Int32}  {σ : zS} {r : Int32} (h : fX6_isTime v0 σ = some r) : zMI l D (wX A cA) yX6_isTime (zws yX6_isTime cX6_isTime 1 (some .boolean)) 1 22 [.int v0] σ (r, σ) := by
  refine zm_Zr (lv := [(0, .int v0)]) rfl (sX_ok A) (Nat.le_of_ble_eq_true rfl) rfl (fun C _ _ hC hR => ?_) h
  unfold fX6_isTime
  refine gg_iload_n (pc := 0) hC dX6_isTime_0 (i := 0) rfl 0 rfl ?_
  refine gg_iconst (pc := 1) hC dX6_isTime_1 (x := 0) rfl ?_
  refine gg_sipush (pc := 2) hC dX6_isTime_2 (x := 5999) rfl ?_
  refine gg_callSIr (pc := 5) hC dX6_isTime_5 cX6_87 (fun _ h => mX6_isWithin h) (Nat.le_of_ble_eq_true rfl) (Nat.le_of_ble_eq_true rfl) (As := [.int v0, .int 0, .int 5999]) (rest := []) rfl rfl (Nat.le_of_ble_eq_true rfl) (fun x1 => ?_)
  exact gg_zretgr (pc := 8) hR dX6_isTime_8
def fX6_edge (v1 : Int32) (σ : zS) : Option (Int32 × zS) :=
    zy1 (fX6_isTime v1 σ) (fun x1 =>
    if x1 = 0 then (some ((-2 : Int32), σ)) else
    (zy1 (fX5_holds v1 σ) (fun x2 =>
    if x2 = 0 then (zy1 (fX5_isFull σ) (fun x3 =>
    if x3 = 0 then (zv (wi σ 4 1) (fun (s4 : zS) =>
    zy2 (fX5_insert v1 s4) (fun x5 s6 =>
    some (x5, s6)))) else
    (some ((-4 : Int32), σ)))) else
    (some ((-3 : Int32), σ)))))
set_option maxHeartbeats 4000000 in
set_option maxRecDepth 100000 in
theorem mX6_edge {l : Launch} {D : va_G} {A : Nat → Nat} {cA : Nat → ClassId} {v1 : Int32}  {σ : zS} {r : Int32 × zS} (h : fX6_edge v1 σ = some r) : zMI l D (wX A cA) yX6_edge (zws yX6_edge cX6_edge 2 (some .int)) 2 45 [.ref (A 0), .int v1] σ r := by
  refine zm_I (lv := [(0, .ref (A 0)), (1, .int v1)]) rfl (sX_ok A) (Nat.le_of_ble_eq_true rfl) rfl (fun C _ _ hC hR => ?_) h
  unfold fX6_edge
  refine gg_iload_n (pc := 0) hC dX6_edge_0 (i := 1) rfl 1 rfl ?_
  refine gg_callSIr (pc := 1) hC dX6_edge_1 cX6_72 (fun _ h => mX6_isTime h) (Nat.le_of_ble_eq_true rfl) (Nat.le_of_ble_eq_true rfl) (As := [.int v1]) (rest := []) rfl rfl (Nat.le_of_ble_eq_true rfl) (fun x1 => ?_)
  refine gg_if_ne (pc := 4) hC dX6_edge_4 (tgt := 10) rfl (fun _ => ?_) (fun _ => ?_)
  · refine gg_bipush (pc := 7) hC dX6_edge_7 (x := -2) rfl ?_
    exact gg_iret (pc := 9) hR dX6_edge_9
  · refine gg_aload_n (pc := 10) hC dX6_edge_10 (i := 0) rfl 0 rfl ?_
    refine gg_get (pc := 11) hC dX6_edge_11 fX6_10 0 pX_0 (v := .ref (A 1)) rfl ?_
    refine gg_iload_n (pc := 14) hC dX6_edge_14 (i := 1) rfl 1 rfl ?_
    refine gg_callVIr (pc := 15) hC dX6_edge_15 vX6_76 (fun _ h => mX5_holds h) (Nat.le_of_ble_eq_true rfl) (Nat.le_of_ble_eq_true rfl) (As := [.int v1]) (rest := []) rfl rfl (Nat.le_of_ble_eq_true rfl) 1 5 pX_1 rfl (fun x2 => ?_)
    refine gg_if_eq (pc := 18) hC dX6_edge_18 (tgt := 24) rfl (fun _ => ?_) (fun _ => ?_)
    · refine gg_aload_n (pc := 24) hC dX6_edge_24 (i := 0) rfl 0 rfl ?_
      refine gg_get (pc := 25) hC dX6_edge_25 fX6_10 0 pX_0 (v := .ref (A 1)) rfl ?_
      refine gg_callVIr (pc := 28) hC dX6_edge_28 vX6_79 (fun _ h => mX5_isFull h) (Nat.le_of_ble_eq_true rfl) (Nat.le_of_ble_eq_true rfl) (As := []) (rest := []) rfl rfl (Nat.le_of_ble_eq_true rfl) 1 5 pX_1 rfl (fun x3 => ?_)
      refine gg_if_eq (pc := 31) hC dX6_edge_31 (tgt := 37) rfl (fun _ => ?_) (fun _ => ?_)
      · refine gg_aload_n (pc := 37) hC dX6_edge_37 (i := 0) rfl 0 rfl ?_
        refine gg_iconst (pc := 38) hC dX6_edge_38 (x := 1) rfl ?_
        refine gg_put (pc := 39) hC dX6_edge_39 fX6_67 tX6_2 0 pX_0 rfl rfl rfl (Nat.le_of_ble_eq_true rfl) sX_0_11 ?_
        refine gg_zvs (fun s4 => ?_)
        refine gg_aload_n (pc := 42) hC dX6_edge_42 (i := 0) rfl 0 rfl ?_
        refine gg_get (pc := 43) hC dX6_edge_43 fX6_10 0 pX_0 (v := .ref (A 1)) rfl ?_
        refine gg_iload_n (pc := 46) hC dX6_edge_46 (i := 1) rfl 1 rfl ?_
        refine gg_callVI (pc := 47) hC dX6_edge_47 vX6_83 (fun _ h => mX5_insert h) (Nat.le_of_ble_eq_true rfl) (Nat.le_of_ble_eq_true rfl) (As := [.int v1]) (rest := []) rfl rfl (Nat.le_of_ble_eq_true rfl) 1 5 pX_1 rfl (fun x5 s6 => ?_)
        exact gg_iret (pc := 50) hR dX6_edge_50
      · refine gg_bipush (pc := 34) hC dX6_edge_34 (x := -4) rfl ?_
        exact gg_iret (pc := 36) hR dX6_edge_36
    · refine gg_bipush (pc := 21) hC dX6_edge_21 (x := -3) rfl ?_
      exact gg_iret (pc := 23) hR dX6_edge_23
def fX6_edges_39 (v1 : Int32) (v2 : Int32) (v3 : Int32) : Nat → Int32 → zS → Option (Int32 × zS)
  | 0, _, _ => none
  | n + 1, v4, σ =>
    if v3 ≤ v4 then (some (v3, σ)) else
    (zv (v1 + (v4 * v2)) (fun (x1 : Int32) =>
    zy1 (fX5_isFull σ) (fun x2 =>
    if x2 = 0 then (zy1 (fX6_isTime x1 σ) (fun x3 =>
    if x3 = 0 then (some (v4, σ)) else
    (zy1 (fX5_holds x1 σ) (fun x4 =>
    if x4 = 0 then (zy2 (fX5_insert x1 σ) (fun x5 s6 =>
    fX6_edges_39 v1 v2 v3 n (v4 + 1) s6)) else
    (some (v4, σ)))))) else
    (some (v4, σ)))))
def fX6_edges (v1 : Int32) (v2 : Int32) (v3 : Int32) (σ : zS) : Option (Int32 × zS) :=
    zy1 (fX6_isTime v1 σ) (fun x1 =>
    if x1 = 0 then (some ((-2 : Int32), σ)) else
    (zy1 (fX6_isWithin v2 1 600 σ) (fun x2 =>
    if x2 = 0 then (some ((-2 : Int32), σ)) else
    (zy1 (fX6_isWithin v3 1 32 σ) (fun x3 =>
    if x3 = 0 then (some ((-2 : Int32), σ)) else
    (zv (wi σ 4 1) (fun (s4 : zS) =>
    fX6_edges_39 v1 v2 v3 500 0 s4)))))))
set_option maxHeartbeats 4000000 in
set_option maxRecDepth 100000 in
theorem lX6_edges_39 {C : zK} {A : Nat → Nat} {cA : Nat → ClassId} (hC : zOK C (wX A cA) cX6_edges RX6 6 2 45) {v1 : Int32} {v2 : Int32} {v3 : Int32} {r : Int32 × zS} (hR : zRI C (wX A cA) 6 cX6_edges r) : ∀ (n : Nat) (v4 : Int32) (σ : zS), zG C (wX A cA) 6 (fun v => v = r) (fX6_edges_39 v1 v2 v3 n v4 σ) 39 [(0, .ref (A 0)), (1, .int v1), (2, .int v2), (3, .int v3), (4, .int v4)] [] σ := by
  intro n
  induction n with
  | zero => intro v4 σ; exact gg_none (o := none)
  | succ n ih =>
    intro v4 σ
    rw [fX6_edges_39]
    refine gg_iload (pc := 39) hC dX6_edges_39 4 rfl ?_
    refine gg_iload_n (pc := 41) hC dX6_edges_41 (i := 3) rfl 3 rfl ?_
    refine gg_icmp_ge (pc := 42) hC dX6_edges_42 (tgt := 102) rfl (fun _ => ?_) (fun _ => ?_)
    · refine gg_iload_n (pc := 102) hC dX6_edges_102 (i := 3) rfl 3 rfl ?_
      exact gg_iret (pc := 103) hR dX6_edges_103
    · refine gg_iload_n (pc := 45) hC dX6_edges_45 (i := 1) rfl 1 rfl ?_
      refine gg_iload (pc := 46) hC dX6_edges_46 4 rfl ?_
      refine gg_iload_n (pc := 48) hC dX6_edges_48 (i := 2) rfl 2 rfl ?_
      refine gg_imul (pc := 49) hC dX6_edges_49 ?_
      refine gg_iadd (pc := 50) hC dX6_edges_50 ?_
      refine gg_zvi (fun x1 => ?_)
      refine gg_istore (pc := 51) hC dX6_edges_51 (Nat.le_of_ble_eq_true rfl) (lv' := [(5, .int x1), (0, .ref (A 0)), (1, .int v1), (2, .int v2), (3, .int v3), (4, .int v4)]) rfl ?_
      refine gg_aload_n (pc := 53) hC dX6_edges_53 (i := 0) rfl 1 rfl ?_
      refine gg_get (pc := 54) hC dX6_edges_54 fX6_10 0 pX_0 (v := .ref (A 1)) rfl ?_
      refine gg_callVIr (pc := 57) hC dX6_edges_57 vX6_79 (fun _ h => mX5_isFull h) (Nat.le_of_ble_eq_true rfl) (Nat.le_of_ble_eq_true rfl) (As := []) (rest := []) rfl rfl (Nat.le_of_ble_eq_true rfl) 1 5 pX_1 rfl (fun x2 => ?_)
      refine gg_if_ne (pc := 60) hC dX6_edges_60 (tgt := 83) rfl (fun _ => ?_) (fun _ => ?_)
      · refine gg_iload (pc := 63) hC dX6_edges_63 0 rfl ?_
        refine gg_callSIr (pc := 65) hC dX6_edges_65 cX6_72 (fun _ h => mX6_isTime h) (Nat.le_of_ble_eq_true rfl) (Nat.le_of_ble_eq_true rfl) (As := [.int x1]) (rest := []) rfl rfl (Nat.le_of_ble_eq_true rfl) (fun x3 => ?_)
        refine gg_if_eq (pc := 68) hC dX6_edges_68 (tgt := 83) rfl (fun _ => ?_) (fun _ => ?_)
        · refine gg_iload (pc := 83) hC dX6_edges_83 5 rfl ?_
          exact gg_iret (pc := 85) hR dX6_edges_85
        · refine gg_aload_n (pc := 71) hC dX6_edges_71 (i := 0) rfl 1 rfl ?_
          refine gg_get (pc := 72) hC dX6_edges_72 fX6_10 0 pX_0 (v := .ref (A 1)) rfl ?_
          refine gg_iload (pc := 75) hC dX6_edges_75 0 rfl ?_
          refine gg_callVIr (pc := 77) hC dX6_edges_77 vX6_76 (fun _ h => mX5_holds h) (Nat.le_of_ble_eq_true rfl) (Nat.le_of_ble_eq_true rfl) (As := [.int x1]) (rest := []) rfl rfl (Nat.le_of_ble_eq_true rfl) 1 5 pX_1 rfl (fun x4 => ?_)
          refine gg_if_eq (pc := 80) hC dX6_edges_80 (tgt := 86) rfl (fun _ => ?_) (fun _ => ?_)
          · refine gg_aload_n (pc := 86) hC dX6_edges_86 (i := 0) rfl 1 rfl ?_
            refine gg_get (pc := 87) hC dX6_edges_87 fX6_10 0 pX_0 (v := .ref (A 1)) rfl ?_
            refine gg_iload (pc := 90) hC dX6_edges_90 0 rfl ?_
            refine gg_callVI (pc := 92) hC dX6_edges_92 vX6_83 (fun _ h => mX5_insert h) (Nat.le_of_ble_eq_true rfl) (Nat.le_of_ble_eq_true rfl) (As := [.int x1]) (rest := []) rfl rfl (Nat.le_of_ble_eq_true rfl) 1 5 pX_1 rfl (fun x5 s6 => ?_)
            refine gg_pop (pc := 95) hC dX6_edges_95 rfl ?_
            refine gg_iinc (pc := 96) hC dX6_edges_96 (y := 0) (j := 5) rfl (z := 1) rfl (Nat.le_of_ble_eq_true rfl) (lv' := [(4, .int (v4 + 1)), (5, .int x1), (0, .ref (A 0)), (1, .int v1), (2, .int v2), (3, .int v3)]) rfl ?_
            refine gg_goto (pc := 99) hC dX6_edges_99 (tgt := 39) rfl ?_
            exact gg_lv [2, 3, 4, 5, 0] rfl (ih _ _)
          · refine gg_iload (pc := 83) hC dX6_edges_83 5 rfl ?_
            exact gg_iret (pc := 85) hR dX6_edges_85
      · refine gg_iload (pc := 83) hC dX6_edges_83 5 rfl ?_
        exact gg_iret (pc := 85) hR dX6_edges_85
set_option maxHeartbeats 4000000 in
set_option maxRecDepth 100000 in
theorem mX6_edges {l : Launch} {D : va_G} {A : Nat → Nat} {cA : Nat → ClassId} {v1 : Int32} {v2 : Int32} {v3 : Int32}  {σ : zS} {r : Int32 × zS} (h : fX6_edges v1 v2 v3 σ = some r) : zMI l D (wX A cA) yX6_edges (zws yX6_edges cX6_edges 6 (some .int)) 2 45 [.ref (A 0), .int v1, .int v2, .int v3] σ r := by
  refine zm_I (lv := [(0, .ref (A 0)), (1, .int v1), (2, .int v2), (3, .int v3)]) rfl (sX_ok A) (Nat.le_of_ble_eq_true rfl) rfl (fun C _ _ hC hR => ?_) h
  unfold fX6_edges
  refine gg_iload_n (pc := 0) hC dX6_edges_0 (i := 1) rfl 1 rfl ?_
  refine gg_callSIr (pc := 1) hC dX6_edges_1 cX6_72 (fun _ h => mX6_isTime h) (Nat.le_of_ble_eq_true rfl) (Nat.le_of_ble_eq_true rfl) (As := [.int v1]) (rest := []) rfl rfl (Nat.le_of_ble_eq_true rfl) (fun x1 => ?_)
  refine gg_if_eq (pc := 4) hC dX6_edges_4 (tgt := 28) rfl (fun _ => ?_) (fun _ => ?_)
  · refine gg_bipush (pc := 28) hC dX6_edges_28 (x := -2) rfl ?_
    exact gg_iret (pc := 30) hR dX6_edges_30
  · refine gg_iload_n (pc := 7) hC dX6_edges_7 (i := 2) rfl 2 rfl ?_
    refine gg_iconst (pc := 8) hC dX6_edges_8 (x := 1) rfl ?_
    refine gg_sipush (pc := 9) hC dX6_edges_9 (x := 600) rfl ?_
    refine gg_callSIr (pc := 12) hC dX6_edges_12 cX6_87 (fun _ h => mX6_isWithin h) (Nat.le_of_ble_eq_true rfl) (Nat.le_of_ble_eq_true rfl) (As := [.int v2, .int 1, .int 600]) (rest := []) rfl rfl (Nat.le_of_ble_eq_true rfl) (fun x2 => ?_)
    refine gg_if_eq (pc := 15) hC dX6_edges_15 (tgt := 28) rfl (fun _ => ?_) (fun _ => ?_)
    · refine gg_bipush (pc := 28) hC dX6_edges_28 (x := -2) rfl ?_
      exact gg_iret (pc := 30) hR dX6_edges_30
    · refine gg_iload_n (pc := 18) hC dX6_edges_18 (i := 3) rfl 3 rfl ?_
      refine gg_iconst (pc := 19) hC dX6_edges_19 (x := 1) rfl ?_
      refine gg_bipush (pc := 20) hC dX6_edges_20 (x := 32) rfl ?_
      refine gg_callSIr (pc := 22) hC dX6_edges_22 cX6_87 (fun _ h => mX6_isWithin h) (Nat.le_of_ble_eq_true rfl) (Nat.le_of_ble_eq_true rfl) (As := [.int v3, .int 1, .int 32]) (rest := []) rfl rfl (Nat.le_of_ble_eq_true rfl) (fun x3 => ?_)
      refine gg_if_ne (pc := 25) hC dX6_edges_25 (tgt := 31) rfl (fun _ => ?_) (fun _ => ?_)
      · refine gg_bipush (pc := 28) hC dX6_edges_28 (x := -2) rfl ?_
        exact gg_iret (pc := 30) hR dX6_edges_30
      · refine gg_aload_n (pc := 31) hC dX6_edges_31 (i := 0) rfl 0 rfl ?_
        refine gg_iconst (pc := 32) hC dX6_edges_32 (x := 1) rfl ?_
        refine gg_put (pc := 33) hC dX6_edges_33 fX6_67 tX6_2 0 pX_0 rfl rfl rfl (Nat.le_of_ble_eq_true rfl) sX_0_11 ?_
        refine gg_zvs (fun s4 => ?_)
        refine gg_iconst (pc := 36) hC dX6_edges_36 (x := 0) rfl ?_
        refine gg_istore (pc := 37) hC dX6_edges_37 (Nat.le_of_ble_eq_true rfl) (lv' := [(4, .int 0), (0, .ref (A 0)), (1, .int v1), (2, .int v2), (3, .int v3)]) rfl ?_
        exact gg_lv [1, 2, 3, 4, 0] rfl (lX6_edges_39 hC hR 500 _ _)
def fX6_found (v1 : Int32) (v2 : Int32) (σ : zS) : Option (Int32 × zS) :=
    zy1 (fX6_isSheet v1 σ) (fun x1 =>
    if x1 = 0 then (some ((-2 : Int32), σ)) else
    (zy1 (fX6_isWithin v2 0 2 σ) (fun x2 =>
    if x2 = 0 then (some ((-2 : Int32), σ)) else
    (zg (zq v1 4) (zy1 (fX3_isLost v1.toNatClampNeg σ) (fun x4 =>
    if x4 = 0 then (zy1 (fX3_holdsReals v1.toNatClampNeg σ) (fun x5 =>
    if x5 = 0 then (zy2 (fX6_finding 3 σ) (fun x6 s7 =>
    some (x6, s7))) else
    (if v2 = 2 then (zy1 (fX3_countNoNumbers v1.toNatClampNeg σ) (fun x8 =>
    some (x8, σ))) else
    (zy1 (if v2 = 1 then (some 1) else
    (some 0)) (fun (x9 : Int32) =>
    zy1 (fX3_extreme v1.toNatClampNeg x9 σ) (fun x10 =>
    some (x10, σ))))))) else
    (zy2 (fX6_finding 1 σ) (fun x11 s12 =>
    some (x11, s12)))))))))
set_option maxHeartbeats 4000000 in
set_option maxRecDepth 100000 in
theorem mX6_found {l : Launch} {D : va_G} {A : Nat → Nat} {cA : Nat → ClassId} {v1 : Int32} {v2 : Int32}  {σ : zS} {r : Int32 × zS} (h : fX6_found v1 v2 σ = some r) : zMI l D (wX A cA) yX6_found (zws yX6_found cX6_found 4 (some .int)) 2 47 [.ref (A 0), .int v1, .int v2] σ r := by
  refine zm_I (lv := [(0, .ref (A 0)), (1, .int v1), (2, .int v2)]) rfl (sX_ok A) (Nat.le_of_ble_eq_true rfl) rfl (fun C _ _ hC hR => ?_) h
  unfold fX6_found
  refine gg_iload_n (pc := 0) hC dX6_found_0 (i := 1) rfl 1 rfl ?_
  refine gg_callSIr (pc := 1) hC dX6_found_1 cX6_254 (fun _ h => mX6_isSheet h) (Nat.le_of_ble_eq_true rfl) (Nat.le_of_ble_eq_true rfl) (As := [.int v1]) (rest := []) rfl rfl (Nat.le_of_ble_eq_true rfl) (fun x1 => ?_)
  refine gg_if_eq (pc := 4) hC dX6_found_4 (tgt := 16) rfl (fun _ => ?_) (fun _ => ?_)
  · refine gg_bipush (pc := 16) hC dX6_found_16 (x := -2) rfl ?_
    exact gg_iret (pc := 18) hR dX6_found_18
  · refine gg_iload_n (pc := 7) hC dX6_found_7 (i := 2) rfl 2 rfl ?_
    refine gg_iconst (pc := 8) hC dX6_found_8 (x := 0) rfl ?_
    refine gg_iconst (pc := 9) hC dX6_found_9 (x := 2) rfl ?_
    refine gg_callSIr (pc := 10) hC dX6_found_10 cX6_87 (fun _ h => mX6_isWithin h) (Nat.le_of_ble_eq_true rfl) (Nat.le_of_ble_eq_true rfl) (As := [.int v2, .int 0, .int 2]) (rest := []) rfl rfl (Nat.le_of_ble_eq_true rfl) (fun x2 => ?_)
    refine gg_if_ne (pc := 13) hC dX6_found_13 (tgt := 19) rfl (fun _ => ?_) (fun _ => ?_)
    · refine gg_bipush (pc := 16) hC dX6_found_16 (x := -2) rfl ?_
      exact gg_iret (pc := 18) hR dX6_found_18
    · refine gg_aload_n (pc := 19) hC dX6_found_19 (i := 0) rfl 0 rfl ?_
      refine gg_get (pc := 20) hC dX6_found_20 fX6_46 0 pX_0 (v := .ref (A 6)) rfl ?_
      refine gg_iload_n (pc := 23) hC dX6_found_23 (i := 1) rfl 1 rfl ?_
      refine gg_sheets (pc := 24) hC dX6_found_24 (fun hk3 => ?_)
      refine gg_astore_n (pc := 25) hC dX6_found_25 (i := 3) rfl (Nat.le_of_ble_eq_true rfl) (lv' := [(3, .ref (A (23 + v1.toNatClampNeg))), (0, .ref (A 0)), (1, .int v1), (2, .int v2)]) rfl ?_
      refine gg_aload_n (pc := 26) hC dX6_found_26 (i := 3) rfl 0 rfl ?_
      refine gg_callVIr (pc := 27) hC dX6_found_27 vX6_266 (fun _ h => mX3_isLost hk3 h) (Nat.le_of_ble_eq_true rfl) (Nat.le_of_ble_eq_true rfl) (As := []) (rest := []) rfl rfl (Nat.le_of_ble_eq_true rfl) (23 + v1.toNatClampNeg) 3 (pX_cS hk3) rfl (fun x4 => ?_)
      refine gg_if_eq (pc := 30) hC dX6_found_30 (tgt := 39) rfl (fun _ => ?_) (fun _ => ?_)
      · refine gg_aload_n (pc := 39) hC dX6_found_39 (i := 3) rfl 0 rfl ?_
        refine gg_callVIr (pc := 40) hC dX6_found_40 vX6_279 (fun _ h => mX3_holdsReals hk3 h) (Nat.le_of_ble_eq_true rfl) (Nat.le_of_ble_eq_true rfl) (As := []) (rest := []) rfl rfl (Nat.le_of_ble_eq_true rfl) (23 + v1.toNatClampNeg) 3 (pX_cS hk3) rfl (fun x5 => ?_)
        refine gg_if_ne (pc := 43) hC dX6_found_43 (tgt := 52) rfl (fun _ => ?_) (fun _ => ?_)
        · refine gg_aload_n (pc := 46) hC dX6_found_46 (i := 0) rfl 1 rfl ?_
          refine gg_iconst (pc := 47) hC dX6_found_47 (x := 3) rfl ?_
          refine gg_callVI (pc := 48) hC dX6_found_48 vX6_260 (fun _ h => mX6_finding h) (Nat.le_of_ble_eq_true rfl) (Nat.le_of_ble_eq_true rfl) (As := [.int 3]) (rest := []) rfl rfl (Nat.le_of_ble_eq_true rfl) 0 6 pX_0 rfl (fun x6 s7 => ?_)
          exact gg_iret (pc := 51) hR dX6_found_51
        · refine gg_iload_n (pc := 52) hC dX6_found_52 (i := 2) rfl 3 rfl ?_
          refine gg_iconst (pc := 53) hC dX6_found_53 (x := 2) rfl ?_
          refine gg_icmp_ne (pc := 54) hC dX6_found_54 (tgt := 64) rfl (fun _ => ?_) (fun _ => ?_)
          · refine gg_aload_n (pc := 57) hC dX6_found_57 (i := 3) rfl 0 rfl ?_
            refine gg_callVIr (pc := 58) hC dX6_found_58 vX6_302 (fun _ h => mX3_countNoNumbers hk3 h) (Nat.le_of_ble_eq_true rfl) (Nat.le_of_ble_eq_true rfl) (As := []) (rest := []) rfl rfl (Nat.le_of_ble_eq_true rfl) (23 + v1.toNatClampNeg) 3 (pX_cS hk3) rfl (fun x8 => ?_)
            refine gg_goto (pc := 61) hC dX6_found_61 (tgt := 78) rfl ?_
            exact gg_iret (pc := 78) hR dX6_found_78
          · refine gg_aload_n (pc := 64) hC dX6_found_64 (i := 3) rfl 0 rfl ?_
            refine gg_iload_n (pc := 65) hC dX6_found_65 (i := 2) rfl 3 rfl ?_
            refine gg_iconst (pc := 66) hC dX6_found_66 (x := 1) rfl ?_
            refine gg_join1 (E' := (fun q => zW C (wX A cA) 4 75 [] [.int q, .ref (A (23 + v1.toNatClampNeg))] σ)) ?_ (fun x9 => ?_)
            · refine gg_icmp_ne (pc := 67) hC dX6_found_67 (tgt := 74) rfl (fun _ => ?_) (fun _ => ?_)
              · refine gg_iconst (pc := 70) hC dX6_found_70 (x := 1) rfl ?_
                refine gg_goto (pc := 71) hC dX6_found_71 (tgt := 75) rfl ?_
                exact gg_y (fun h => zW_lv [] rfl h)
              · refine gg_iconst (pc := 74) hC dX6_found_74 (x := 0) rfl ?_
                exact gg_y (fun h => zW_lv [] rfl h)
            · show zG C (wX A cA) 4 _ _ 75 [] [.int x9, .ref (A (23 + v1.toNatClampNeg))] σ
              refine gg_callVIr (pc := 75) hC dX6_found_75 vX6_305 (fun _ h => mX3_extreme hk3 h) (Nat.le_of_ble_eq_true rfl) (Nat.le_of_ble_eq_true rfl) (As := [.int x9]) (rest := []) rfl rfl (Nat.le_of_ble_eq_true rfl) (23 + v1.toNatClampNeg) 3 (pX_cS hk3) rfl (fun x10 => ?_)
              exact gg_iret (pc := 78) hR dX6_found_78
      · refine gg_aload_n (pc := 33) hC dX6_found_33 (i := 0) rfl 1 rfl ?_
        refine gg_iconst (pc := 34) hC dX6_found_34 (x := 1) rfl ?_
        refine gg_callVI (pc := 35) hC dX6_found_35 vX6_260 (fun _ h => mX6_finding h) (Nat.le_of_ble_eq_true rfl) (Nat.le_of_ble_eq_true rfl) (As := [.int 1]) (rest := []) rfl rfl (Nat.le_of_ble_eq_true rfl) 0 6 pX_0 rfl (fun x11 s12 => ?_)
        exact gg_iret (pc := 38) hR dX6_found_38
def fX6_fresh  (σ : zS) : Option (Int32 × zS) :=
    zv (zi σ 7) (fun (x1 : Int32) =>
    zy1 (fX0_forgetHits σ) (fun s2 =>
    zv (wi s2 4 1) (fun (s3 : zS) =>
    some (x1, s3))))
set_option maxHeartbeats 4000000 in
set_option maxRecDepth 100000 in
theorem mX6_fresh {l : Launch} {D : va_G} {A : Nat → Nat} {cA : Nat → ClassId}   {σ : zS} {r : Int32 × zS} (h : fX6_fresh  σ = some r) : zMI l D (wX A cA) yX6_fresh (zws yX6_fresh cX6_fresh 2 (some .int)) 1 21 [.ref (A 0)] σ r := by
  refine zm_I (lv := [(0, .ref (A 0))]) rfl (sX_ok A) (Nat.le_of_ble_eq_true rfl) rfl (fun C _ _ hC hR => ?_) h
  unfold fX6_fresh
  refine gg_aload_n (pc := 0) hC dX6_fresh_0 (i := 0) rfl 0 rfl ?_
  refine gg_get (pc := 1) hC dX6_fresh_1 fX6_19 0 pX_0 (v := .ref (A 2)) rfl ?_
  refine gg_get (pc := 4) hC dX6_fresh_4 fX6_118 2 pX_2 (v := .int (zi σ 7)) rfl ?_
  refine gg_zvi (fun x1 => ?_)
  refine gg_istore_n (pc := 7) hC dX6_fresh_7 (i := 1) rfl (Nat.le_of_ble_eq_true rfl) (lv' := [(1, .int x1), (0, .ref (A 0))]) rfl ?_
  refine gg_aload_n (pc := 8) hC dX6_fresh_8 (i := 0) rfl 1 rfl ?_
  refine gg_get (pc := 9) hC dX6_fresh_9 fX6_19 0 pX_0 (v := .ref (A 2)) rfl ?_
  refine gg_callVV (pc := 12) hC dX6_fresh_12 vX6_125 (fun _ h => mX0_forgetHits h) (Nat.le_of_ble_eq_true rfl) (Nat.le_of_ble_eq_true rfl) (As := []) (rest := []) rfl rfl (Nat.le_of_ble_eq_true rfl) 2 0 pX_2 rfl (fun s2 => ?_)
  refine gg_aload_n (pc := 15) hC dX6_fresh_15 (i := 0) rfl 1 rfl ?_
  refine gg_iconst (pc := 16) hC dX6_fresh_16 (x := 1) rfl ?_
  refine gg_put (pc := 17) hC dX6_fresh_17 fX6_67 tX6_2 0 pX_0 rfl rfl rfl (Nat.le_of_ble_eq_true rfl) sX_0_11 ?_
  refine gg_zvs (fun s3 => ?_)
  refine gg_iload_n (pc := 20) hC dX6_fresh_20 (i := 1) rfl 0 rfl ?_
  exact gg_iret (pc := 21) hR dX6_fresh_21
def fX6_gate (v1 : Int32) (v2 : Int32) (σ : zS) : Option (Int32 × zS) :=
    zy1 (fX6_isTime v1 σ) (fun x1 =>
    if x1 = 0 then (some ((-2 : Int32), σ)) else
    (zy1 (fX6_isTime v2 σ) (fun x2 =>
    if x2 = 0 then (some ((-2 : Int32), σ)) else
    (if v1 < v2 then (if (zi σ 8) < 8 then (zv (wi σ 4 1) (fun (s3 : zS) =>
    zy2 (fX1_append v1 v2 s3) (fun x4 s5 =>
    some (x4, s5)))) else
    (some ((-4 : Int32), σ))) else
    (some ((-2 : Int32), σ))))))
set_option maxHeartbeats 4000000 in
set_option maxRecDepth 100000 in
theorem mX6_gate {l : Launch} {D : va_G} {A : Nat → Nat} {cA : Nat → ClassId} {v1 : Int32} {v2 : Int32}  {σ : zS} {r : Int32 × zS} (h : fX6_gate v1 v2 σ = some r) : zMI l D (wX A cA) yX6_gate (zws yX6_gate cX6_gate 3 (some .int)) 2 42 [.ref (A 0), .int v1, .int v2] σ r := by
  refine zm_I (lv := [(0, .ref (A 0)), (1, .int v1), (2, .int v2)]) rfl (sX_ok A) (Nat.le_of_ble_eq_true rfl) rfl (fun C _ _ hC hR => ?_) h
  unfold fX6_gate
  refine gg_iload_n (pc := 0) hC dX6_gate_0 (i := 1) rfl 1 rfl ?_
  refine gg_callSIr (pc := 1) hC dX6_gate_1 cX6_72 (fun _ h => mX6_isTime h) (Nat.le_of_ble_eq_true rfl) (Nat.le_of_ble_eq_true rfl) (As := [.int v1]) (rest := []) rfl rfl (Nat.le_of_ble_eq_true rfl) (fun x1 => ?_)
  refine gg_if_eq (pc := 4) hC dX6_gate_4 (tgt := 19) rfl (fun _ => ?_) (fun _ => ?_)
  · refine gg_bipush (pc := 19) hC dX6_gate_19 (x := -2) rfl ?_
    exact gg_iret (pc := 21) hR dX6_gate_21
  · refine gg_iload_n (pc := 7) hC dX6_gate_7 (i := 2) rfl 2 rfl ?_
    refine gg_callSIr (pc := 8) hC dX6_gate_8 cX6_72 (fun _ h => mX6_isTime h) (Nat.le_of_ble_eq_true rfl) (Nat.le_of_ble_eq_true rfl) (As := [.int v2]) (rest := []) rfl rfl (Nat.le_of_ble_eq_true rfl) (fun x2 => ?_)
    refine gg_if_eq (pc := 11) hC dX6_gate_11 (tgt := 19) rfl (fun _ => ?_) (fun _ => ?_)
    · refine gg_bipush (pc := 19) hC dX6_gate_19 (x := -2) rfl ?_
      exact gg_iret (pc := 21) hR dX6_gate_21
    · refine gg_iload_n (pc := 14) hC dX6_gate_14 (i := 1) rfl 1 rfl ?_
      refine gg_iload_n (pc := 15) hC dX6_gate_15 (i := 2) rfl 2 rfl ?_
      refine gg_icmp_lt (pc := 16) hC dX6_gate_16 (tgt := 22) rfl (fun _ => ?_) (fun _ => ?_)
      · refine gg_aload_n (pc := 22) hC dX6_gate_22 (i := 0) rfl 0 rfl ?_
        refine gg_get (pc := 23) hC dX6_gate_23 fX6_26 0 pX_0 (v := .ref (A 3)) rfl ?_
        refine gg_get (pc := 26) hC dX6_gate_26 fX6_204 3 pX_3 (v := .int (zi σ 8)) rfl ?_
        refine gg_bipush (pc := 29) hC dX6_gate_29 (x := 8) rfl ?_
        refine gg_icmp_lt (pc := 31) hC dX6_gate_31 (tgt := 37) rfl (fun _ => ?_) (fun _ => ?_)
        · refine gg_aload_n (pc := 37) hC dX6_gate_37 (i := 0) rfl 0 rfl ?_
          refine gg_iconst (pc := 38) hC dX6_gate_38 (x := 1) rfl ?_
          refine gg_put (pc := 39) hC dX6_gate_39 fX6_67 tX6_2 0 pX_0 rfl rfl rfl (Nat.le_of_ble_eq_true rfl) sX_0_11 ?_
          refine gg_zvs (fun s3 => ?_)
          refine gg_aload_n (pc := 42) hC dX6_gate_42 (i := 0) rfl 0 rfl ?_
          refine gg_get (pc := 43) hC dX6_gate_43 fX6_26 0 pX_0 (v := .ref (A 3)) rfl ?_
          refine gg_iload_n (pc := 46) hC dX6_gate_46 (i := 1) rfl 1 rfl ?_
          refine gg_iload_n (pc := 47) hC dX6_gate_47 (i := 2) rfl 2 rfl ?_
          refine gg_callVI (pc := 48) hC dX6_gate_48 vX6_205 (fun _ h => mX1_append h) (Nat.le_of_ble_eq_true rfl) (Nat.le_of_ble_eq_true rfl) (As := [.int v1, .int v2]) (rest := []) rfl rfl (Nat.le_of_ble_eq_true rfl) 3 1 pX_3 rfl (fun x4 s5 => ?_)
          exact gg_iret (pc := 51) hR dX6_gate_51
        · refine gg_bipush (pc := 34) hC dX6_gate_34 (x := -4) rfl ?_
          exact gg_iret (pc := 36) hR dX6_gate_36
      · refine gg_bipush (pc := 19) hC dX6_gate_19 (x := -2) rfl ?_
        exact gg_iret (pc := 21) hR dX6_gate_21
def fX6_get (v1 : Int32) (v2 : Int32) (σ : zS) : Option (Int64 × zS) :=
    zy1 (fX6_isSheet v1 σ) (fun x1 =>
    if x1 = 0 then (zy1 (fX6_refusal (-2 : Int32) σ) (fun x2 =>
    some (x2, σ))) else
    (zg (zq v1 4) (zy1 (fX3_isLost v1.toNatClampNeg σ) (fun x4 =>
    if x4 = 0 then (zy1 (fX3_has v1.toNatClampNeg v2 σ) (fun x5 =>
    if x5 = 0 then (zy2 (fX6_finding 2 σ) (fun x6 s7 =>
    zy1 (fX6_refusal x6 s7) (fun x8 =>
    some (x8, s7)))) else
    (zg (zq v2 40) (if (za σ (20 + v1.toNatClampNeg) v2.toNatClampNeg) = 0 then (zy1 (fX3_told v1.toNatClampNeg v2 σ) (fun x9 =>
    some (x9, σ))) else
    (zy1 (fX6_refusal (-1 : Int32) σ) (fun x10 =>
    some (x10, σ))))))) else
    (zy2 (fX6_finding 1 σ) (fun x11 s12 =>
    zy1 (fX6_refusal x11 s12) (fun x13 =>
    some (x13, s12))))))))
set_option maxHeartbeats 4000000 in
set_option maxRecDepth 100000 in
theorem mX6_get {l : Launch} {D : va_G} {A : Nat → Nat} {cA : Nat → ClassId} {v1 : Int32} {v2 : Int32}  {σ : zS} {r : Int64 × zS} (h : fX6_get v1 v2 σ = some r) : zML l D (wX A cA) yX6_get (zws yX6_get cX6_get 4 (some .long)) 2 42 [.ref (A 0), .int v1, .int v2] σ r := by
  refine zm_L (lv := [(0, .ref (A 0)), (1, .int v1), (2, .int v2)]) rfl (sX_ok A) (Nat.le_of_ble_eq_true rfl) rfl (fun C _ _ hC hR => ?_) h
  unfold fX6_get
  refine gg_iload_n (pc := 0) hC dX6_get_0 (i := 1) rfl 1 rfl ?_
  refine gg_callSIr (pc := 1) hC dX6_get_1 cX6_254 (fun _ h => mX6_isSheet h) (Nat.le_of_ble_eq_true rfl) (Nat.le_of_ble_eq_true rfl) (As := [.int v1]) (rest := []) rfl rfl (Nat.le_of_ble_eq_true rfl) (fun x1 => ?_)
  refine gg_if_ne (pc := 4) hC dX6_get_4 (tgt := 13) rfl (fun _ => ?_) (fun _ => ?_)
  · refine gg_bipush (pc := 7) hC dX6_get_7 (x := -2) rfl ?_
    refine gg_callSLr (pc := 9) hC dX6_get_9 cX6_140 (fun _ h => mX6_refusal h) (Nat.le_of_ble_eq_true rfl) (Nat.le_of_ble_eq_true rfl) (As := [.int (-2 : Int32)]) (rest := []) rfl rfl (Nat.le_of_ble_eq_true rfl) (fun x2 => ?_)
    exact gg_lret (pc := 12) hR dX6_get_12
  · refine gg_aload_n (pc := 13) hC dX6_get_13 (i := 0) rfl 0 rfl ?_
    refine gg_get (pc := 14) hC dX6_get_14 fX6_46 0 pX_0 (v := .ref (A 6)) rfl ?_
    refine gg_iload_n (pc := 17) hC dX6_get_17 (i := 1) rfl 1 rfl ?_
    refine gg_sheets (pc := 18) hC dX6_get_18 (fun hk3 => ?_)
    refine gg_astore_n (pc := 19) hC dX6_get_19 (i := 3) rfl (Nat.le_of_ble_eq_true rfl) (lv' := [(3, .ref (A (23 + v1.toNatClampNeg))), (0, .ref (A 0)), (1, .int v1), (2, .int v2)]) rfl ?_
    refine gg_aload_n (pc := 20) hC dX6_get_20 (i := 3) rfl 0 rfl ?_
    refine gg_callVIr (pc := 21) hC dX6_get_21 vX6_266 (fun _ h => mX3_isLost hk3 h) (Nat.le_of_ble_eq_true rfl) (Nat.le_of_ble_eq_true rfl) (As := []) (rest := []) rfl rfl (Nat.le_of_ble_eq_true rfl) (23 + v1.toNatClampNeg) 3 (pX_cS hk3) rfl (fun x4 => ?_)
    refine gg_if_eq (pc := 24) hC dX6_get_24 (tgt := 36) rfl (fun _ => ?_) (fun _ => ?_)
    · refine gg_aload_n (pc := 36) hC dX6_get_36 (i := 3) rfl 0 rfl ?_
      refine gg_iload_n (pc := 37) hC dX6_get_37 (i := 2) rfl 3 rfl ?_
      refine gg_callVIr (pc := 38) hC dX6_get_38 vX6_273 (fun _ h => mX3_has hk3 h) (Nat.le_of_ble_eq_true rfl) (Nat.le_of_ble_eq_true rfl) (As := [.int v2]) (rest := []) rfl rfl (Nat.le_of_ble_eq_true rfl) (23 + v1.toNatClampNeg) 3 (pX_cS hk3) rfl (fun x5 => ?_)
      refine gg_if_ne (pc := 41) hC dX6_get_41 (tgt := 53) rfl (fun _ => ?_) (fun _ => ?_)
      · refine gg_aload_n (pc := 44) hC dX6_get_44 (i := 0) rfl 1 rfl ?_
        refine gg_iconst (pc := 45) hC dX6_get_45 (x := 2) rfl ?_
        refine gg_callVI (pc := 46) hC dX6_get_46 vX6_260 (fun _ h => mX6_finding h) (Nat.le_of_ble_eq_true rfl) (Nat.le_of_ble_eq_true rfl) (As := [.int 2]) (rest := []) rfl rfl (Nat.le_of_ble_eq_true rfl) 0 6 pX_0 rfl (fun x6 s7 => ?_)
        refine gg_callSLr (pc := 49) hC dX6_get_49 cX6_140 (fun _ h => mX6_refusal h) (Nat.le_of_ble_eq_true rfl) (Nat.le_of_ble_eq_true rfl) (As := [.int x6]) (rest := []) rfl rfl (Nat.le_of_ble_eq_true rfl) (fun x8 => ?_)
        exact gg_lret (pc := 52) hR dX6_get_52
      · refine gg_aload_n (pc := 53) hC dX6_get_53 (i := 3) rfl 0 rfl ?_
        refine gg_get (pc := 54) hC dX6_get_54 fX6_282 (23 + v1.toNatClampNeg) (pX_cS hk3) (v := .ref (A (35 + v1.toNatClampNeg))) rfl ?_
        refine gg_iload_n (pc := 57) hC dX6_get_57 (i := 2) rfl 3 rfl ?_
        refine gg_zald (pc := 58) hC dX6_get_58 (35 + v1.toNatClampNeg) 2 (pX_cN hk3) rfl ?_
        refine gg_if_eq (pc := 59) hC dX6_get_59 (tgt := 69) rfl (fun _ => ?_) (fun _ => ?_)
        · refine gg_aload_n (pc := 69) hC dX6_get_69 (i := 3) rfl 0 rfl ?_
          refine gg_iload_n (pc := 70) hC dX6_get_70 (i := 2) rfl 3 rfl ?_
          refine gg_callVLr (pc := 71) hC dX6_get_71 vX6_285 (fun _ h => mX3_told hk3 h) (Nat.le_of_ble_eq_true rfl) (Nat.le_of_ble_eq_true rfl) (As := [.int v2]) (rest := []) rfl rfl (Nat.le_of_ble_eq_true rfl) (23 + v1.toNatClampNeg) 3 (pX_cS hk3) rfl (fun x9 => ?_)
          exact gg_lret (pc := 74) hR dX6_get_74
        · refine gg_iconst (pc := 62) hC dX6_get_62 (x := -1) rfl ?_
          refine gg_callSLr (pc := 63) hC dX6_get_63 cX6_140 (fun _ h => mX6_refusal h) (Nat.le_of_ble_eq_true rfl) (Nat.le_of_ble_eq_true rfl) (As := [.int (-1 : Int32)]) (rest := []) rfl rfl (Nat.le_of_ble_eq_true rfl) (fun x10 => ?_)
          refine gg_goto (pc := 66) hC dX6_get_66 (tgt := 74) rfl ?_
          exact gg_lret (pc := 74) hR dX6_get_74
    · refine gg_aload_n (pc := 27) hC dX6_get_27 (i := 0) rfl 1 rfl ?_
      refine gg_iconst (pc := 28) hC dX6_get_28 (x := 1) rfl ?_
      refine gg_callVI (pc := 29) hC dX6_get_29 vX6_260 (fun _ h => mX6_finding h) (Nat.le_of_ble_eq_true rfl) (Nat.le_of_ble_eq_true rfl) (As := [.int 1]) (rest := []) rfl rfl (Nat.le_of_ble_eq_true rfl) 0 6 pX_0 rfl (fun x11 s12 => ?_)
      refine gg_callSLr (pc := 32) hC dX6_get_32 cX6_140 (fun _ h => mX6_refusal h) (Nat.le_of_ble_eq_true rfl) (Nat.le_of_ble_eq_true rfl) (As := [.int x11]) (rest := []) rfl rfl (Nat.le_of_ble_eq_true rfl) (fun x13 => ?_)
      exact gg_lret (pc := 35) hR dX6_get_35
def fX6_gone (v1 : Int32) (σ : zS) : Option (Int32 × zS) :=
    zy1 (fX6_isEdge v1 σ) (fun x1 =>
    if x1 = 0 then (some ((-2 : Int32), σ)) else
    (zv (wi σ 4 1) (fun (s2 : zS) =>
    zy2 (fX5_removeAt v1 s2) (fun x3 s4 =>
    some (x3, s4)))))
set_option maxHeartbeats 4000000 in
set_option maxRecDepth 100000 in
theorem mX6_gone {l : Launch} {D : va_G} {A : Nat → Nat} {cA : Nat → ClassId} {v1 : Int32}  {σ : zS} {r : Int32 × zS} (h : fX6_gone v1 σ = some r) : zMI l D (wX A cA) yX6_gone (zws yX6_gone cX6_gone 2 (some .int)) 2 43 [.ref (A 0), .int v1] σ r := by
  refine zm_I (lv := [(0, .ref (A 0)), (1, .int v1)]) rfl (sX_ok A) (Nat.le_of_ble_eq_true rfl) rfl (fun C _ _ hC hR => ?_) h
  unfold fX6_gone
  refine gg_aload_n (pc := 0) hC dX6_gone_0 (i := 0) rfl 0 rfl ?_
  refine gg_iload_n (pc := 1) hC dX6_gone_1 (i := 1) rfl 1 rfl ?_
  refine gg_callVIr (pc := 2) hC dX6_gone_2 vX6_91 (fun _ h => mX6_isEdge h) (Nat.le_of_ble_eq_true rfl) (Nat.le_of_ble_eq_true rfl) (As := [.int v1]) (rest := []) rfl rfl (Nat.le_of_ble_eq_true rfl) 0 6 pX_0 rfl (fun x1 => ?_)
  refine gg_if_ne (pc := 5) hC dX6_gone_5 (tgt := 11) rfl (fun _ => ?_) (fun _ => ?_)
  · refine gg_bipush (pc := 8) hC dX6_gone_8 (x := -2) rfl ?_
    exact gg_iret (pc := 10) hR dX6_gone_10
  · refine gg_aload_n (pc := 11) hC dX6_gone_11 (i := 0) rfl 0 rfl ?_
    refine gg_iconst (pc := 12) hC dX6_gone_12 (x := 1) rfl ?_
    refine gg_put (pc := 13) hC dX6_gone_13 fX6_67 tX6_2 0 pX_0 rfl rfl rfl (Nat.le_of_ble_eq_true rfl) sX_0_11 ?_
    refine gg_zvs (fun s2 => ?_)
    refine gg_aload_n (pc := 16) hC dX6_gone_16 (i := 0) rfl 0 rfl ?_
    refine gg_get (pc := 17) hC dX6_gone_17 fX6_10 0 pX_0 (v := .ref (A 1)) rfl ?_
    refine gg_iload_n (pc := 20) hC dX6_gone_20 (i := 1) rfl 1 rfl ?_
    refine gg_callVI (pc := 21) hC dX6_gone_21 vX6_94 (fun _ h => mX5_removeAt h) (Nat.le_of_ble_eq_true rfl) (Nat.le_of_ble_eq_true rfl) (As := [.int v1]) (rest := []) rfl rfl (Nat.le_of_ble_eq_true rfl) 1 5 pX_1 rfl (fun x3 s4 => ?_)
    exact gg_iret (pc := 24) hR dX6_gone_24
def fX6_isFine (v0 : Int32) (σ : zS) : Option (Int32) :=
    zy1 (fX6_isWithin v0 0 59 σ) (fun x1 =>
    zg (zz x1) (some x1))
set_option maxHeartbeats 4000000 in
set_option maxRecDepth 100000 in
theorem mX6_isFine {l : Launch} {D : va_G} {A : Nat → Nat} {cA : Nat → ClassId} {v0 : Int32}  {σ : zS} {r : Int32} (h : fX6_isFine v0 σ = some r) : zMI l D (wX A cA) yX6_isFine (zws yX6_isFine cX6_isFine 1 (some .boolean)) 1 22 [.int v0] σ (r, σ) := by
  refine zm_Zr (lv := [(0, .int v0)]) rfl (sX_ok A) (Nat.le_of_ble_eq_true rfl) rfl (fun C _ _ hC hR => ?_) h
  unfold fX6_isFine
  refine gg_iload_n (pc := 0) hC dX6_isFine_0 (i := 0) rfl 0 rfl ?_
  refine gg_iconst (pc := 1) hC dX6_isFine_1 (x := 0) rfl ?_
  refine gg_bipush (pc := 2) hC dX6_isFine_2 (x := 59) rfl ?_
  refine gg_callSIr (pc := 4) hC dX6_isFine_4 cX6_87 (fun _ h => mX6_isWithin h) (Nat.le_of_ble_eq_true rfl) (Nat.le_of_ble_eq_true rfl) (As := [.int v0, .int 0, .int 59]) (rest := []) rfl rfl (Nat.le_of_ble_eq_true rfl) (fun x1 => ?_)
  exact gg_zretgr (pc := 7) hR dX6_isFine_7
def fX6_hit (v1 : Int32) (v2 : Int32) (σ : zS) : Option (Int32 × zS) :=
    zy1 (fX6_isFine v1 σ) (fun x1 =>
    if x1 = 0 then (some ((-2 : Int32), σ)) else
    (zy1 (fX6_isWithin v2 1 99 σ) (fun x2 =>
    if x2 = 0 then (some ((-2 : Int32), σ)) else
    (if ((zi σ 7) + v2) ≤ 400 then (zv (wi σ 4 1) (fun (s3 : zS) =>
    zy2 (fX0_addHits v1 v2 s3) (fun x4 s5 =>
    some (x4, s5)))) else
    (some ((-4 : Int32), σ))))))
set_option maxHeartbeats 4000000 in
set_option maxRecDepth 100000 in
theorem mX6_hit {l : Launch} {D : va_G} {A : Nat → Nat} {cA : Nat → ClassId} {v1 : Int32} {v2 : Int32}  {σ : zS} {r : Int32 × zS} (h : fX6_hit v1 v2 σ = some r) : zMI l D (wX A cA) yX6_hit (zws yX6_hit cX6_hit 3 (some .int)) 2 46 [.ref (A 0), .int v1, .int v2] σ r := by
  refine zm_I (lv := [(0, .ref (A 0)), (1, .int v1), (2, .int v2)]) rfl (sX_ok A) (Nat.le_of_ble_eq_true rfl) rfl (fun C _ _ hC hR => ?_) h
  unfold fX6_hit
  refine gg_iload_n (pc := 0) hC dX6_hit_0 (i := 1) rfl 1 rfl ?_
  refine gg_callSIr (pc := 1) hC dX6_hit_1 cX6_115 (fun _ h => mX6_isFine h) (Nat.le_of_ble_eq_true rfl) (Nat.le_of_ble_eq_true rfl) (As := [.int v1]) (rest := []) rfl rfl (Nat.le_of_ble_eq_true rfl) (fun x1 => ?_)
  refine gg_if_eq (pc := 4) hC dX6_hit_4 (tgt := 17) rfl (fun _ => ?_) (fun _ => ?_)
  · refine gg_bipush (pc := 17) hC dX6_hit_17 (x := -2) rfl ?_
    exact gg_iret (pc := 19) hR dX6_hit_19
  · refine gg_iload_n (pc := 7) hC dX6_hit_7 (i := 2) rfl 2 rfl ?_
    refine gg_iconst (pc := 8) hC dX6_hit_8 (x := 1) rfl ?_
    refine gg_bipush (pc := 9) hC dX6_hit_9 (x := 99) rfl ?_
    refine gg_callSIr (pc := 11) hC dX6_hit_11 cX6_87 (fun _ h => mX6_isWithin h) (Nat.le_of_ble_eq_true rfl) (Nat.le_of_ble_eq_true rfl) (As := [.int v2, .int 1, .int 99]) (rest := []) rfl rfl (Nat.le_of_ble_eq_true rfl) (fun x2 => ?_)
    refine gg_if_ne (pc := 14) hC dX6_hit_14 (tgt := 20) rfl (fun _ => ?_) (fun _ => ?_)
    · refine gg_bipush (pc := 17) hC dX6_hit_17 (x := -2) rfl ?_
      exact gg_iret (pc := 19) hR dX6_hit_19
    · refine gg_aload_n (pc := 20) hC dX6_hit_20 (i := 0) rfl 0 rfl ?_
      refine gg_get (pc := 21) hC dX6_hit_21 fX6_19 0 pX_0 (v := .ref (A 2)) rfl ?_
      refine gg_get (pc := 24) hC dX6_hit_24 fX6_118 2 pX_2 (v := .int (zi σ 7)) rfl ?_
      refine gg_iload_n (pc := 27) hC dX6_hit_27 (i := 2) rfl 2 rfl ?_
      refine gg_iadd (pc := 28) hC dX6_hit_28 ?_
      refine gg_sipush (pc := 29) hC dX6_hit_29 (x := 400) rfl ?_
      refine gg_icmp_le (pc := 32) hC dX6_hit_32 (tgt := 38) rfl (fun _ => ?_) (fun _ => ?_)
      · refine gg_aload_n (pc := 38) hC dX6_hit_38 (i := 0) rfl 0 rfl ?_
        refine gg_iconst (pc := 39) hC dX6_hit_39 (x := 1) rfl ?_
        refine gg_put (pc := 40) hC dX6_hit_40 fX6_67 tX6_2 0 pX_0 rfl rfl rfl (Nat.le_of_ble_eq_true rfl) sX_0_11 ?_
        refine gg_zvs (fun s3 => ?_)
        refine gg_aload_n (pc := 43) hC dX6_hit_43 (i := 0) rfl 0 rfl ?_
        refine gg_get (pc := 44) hC dX6_hit_44 fX6_19 0 pX_0 (v := .ref (A 2)) rfl ?_
        refine gg_iload_n (pc := 47) hC dX6_hit_47 (i := 1) rfl 1 rfl ?_
        refine gg_iload_n (pc := 48) hC dX6_hit_48 (i := 2) rfl 2 rfl ?_
        refine gg_callVI (pc := 49) hC dX6_hit_49 vX6_121 (fun _ h => mX0_addHits h) (Nat.le_of_ble_eq_true rfl) (Nat.le_of_ble_eq_true rfl) (As := [.int v1, .int v2]) (rest := []) rfl rfl (Nat.le_of_ble_eq_true rfl) 2 0 pX_2 rfl (fun x4 s5 => ?_)
        exact gg_iret (pc := 52) hR dX6_hit_52
      · refine gg_bipush (pc := 35) hC dX6_hit_35 (x := -4) rfl ?_
        exact gg_iret (pc := 37) hR dX6_hit_37
def fX6_isForm (v0 : Int32) (σ : zS) : Option (Int32) :=
    zy1 (fX6_isWithin v0 0 3 σ) (fun x1 =>
    zg (zz x1) (some x1))
set_option maxHeartbeats 4000000 in
set_option maxRecDepth 100000 in
theorem mX6_isForm {l : Launch} {D : va_G} {A : Nat → Nat} {cA : Nat → ClassId} {v0 : Int32}  {σ : zS} {r : Int32} (h : fX6_isForm v0 σ = some r) : zMI l D (wX A cA) yX6_isForm (zws yX6_isForm cX6_isForm 1 (some .boolean)) 1 22 [.int v0] σ (r, σ) := by
  refine zm_Zr (lv := [(0, .int v0)]) rfl (sX_ok A) (Nat.le_of_ble_eq_true rfl) rfl (fun C _ _ hC hR => ?_) h
  unfold fX6_isForm
  refine gg_iload_n (pc := 0) hC dX6_isForm_0 (i := 0) rfl 0 rfl ?_
  refine gg_iconst (pc := 1) hC dX6_isForm_1 (x := 0) rfl ?_
  refine gg_iconst (pc := 2) hC dX6_isForm_2 (x := 3) rfl ?_
  refine gg_callSIr (pc := 3) hC dX6_isForm_3 cX6_87 (fun _ h => mX6_isWithin h) (Nat.le_of_ble_eq_true rfl) (Nat.le_of_ble_eq_true rfl) (As := [.int v0, .int 0, .int 3]) (rest := []) rfl rfl (Nat.le_of_ble_eq_true rfl) (fun x1 => ?_)
  exact gg_zretgr (pc := 6) hR dX6_isForm_6
def fX6_lose (v1 : Int32) (σ : zS) : Option (Int32 × zS) :=
    zy1 (fX6_isSheet v1 σ) (fun x1 =>
    if x1 = 0 then (some ((-2 : Int32), σ)) else
    (zg (zq v1 4) (zy1 (fX3_isLost v1.toNatClampNeg σ) (fun x3 =>
    if x3 = 0 then (zv (wi σ (20 + v1.toNatClampNeg) (-1 : Int32)) (fun (s4 : zS) =>
    some ((zi s4 (30 + v1.toNatClampNeg)), s4))) else
    (zy2 (fX6_finding 1 σ) (fun x5 s6 =>
    some (x5, s6)))))))
set_option maxHeartbeats 4000000 in
set_option maxRecDepth 100000 in
theorem mX6_lose {l : Launch} {D : va_G} {A : Nat → Nat} {cA : Nat → ClassId} {v1 : Int32}  {σ : zS} {r : Int32 × zS} (h : fX6_lose v1 σ = some r) : zMI l D (wX A cA) yX6_lose (zws yX6_lose cX6_lose 3 (some .int)) 2 42 [.ref (A 0), .int v1] σ r := by
  refine zm_I (lv := [(0, .ref (A 0)), (1, .int v1)]) rfl (sX_ok A) (Nat.le_of_ble_eq_true rfl) rfl (fun C _ _ hC hR => ?_) h
  unfold fX6_lose
  refine gg_iload_n (pc := 0) hC dX6_lose_0 (i := 1) rfl 1 rfl ?_
  refine gg_callSIr (pc := 1) hC dX6_lose_1 cX6_254 (fun _ h => mX6_isSheet h) (Nat.le_of_ble_eq_true rfl) (Nat.le_of_ble_eq_true rfl) (As := [.int v1]) (rest := []) rfl rfl (Nat.le_of_ble_eq_true rfl) (fun x1 => ?_)
  refine gg_if_ne (pc := 4) hC dX6_lose_4 (tgt := 10) rfl (fun _ => ?_) (fun _ => ?_)
  · refine gg_bipush (pc := 7) hC dX6_lose_7 (x := -2) rfl ?_
    exact gg_iret (pc := 9) hR dX6_lose_9
  · refine gg_aload_n (pc := 10) hC dX6_lose_10 (i := 0) rfl 0 rfl ?_
    refine gg_get (pc := 11) hC dX6_lose_11 fX6_46 0 pX_0 (v := .ref (A 6)) rfl ?_
    refine gg_iload_n (pc := 14) hC dX6_lose_14 (i := 1) rfl 1 rfl ?_
    refine gg_sheets (pc := 15) hC dX6_lose_15 (fun hk2 => ?_)
    refine gg_astore_n (pc := 16) hC dX6_lose_16 (i := 2) rfl (Nat.le_of_ble_eq_true rfl) (lv' := [(2, .ref (A (23 + v1.toNatClampNeg))), (0, .ref (A 0)), (1, .int v1)]) rfl ?_
    refine gg_aload_n (pc := 17) hC dX6_lose_17 (i := 2) rfl 0 rfl ?_
    refine gg_callVIr (pc := 18) hC dX6_lose_18 vX6_266 (fun _ h => mX3_isLost hk2 h) (Nat.le_of_ble_eq_true rfl) (Nat.le_of_ble_eq_true rfl) (As := []) (rest := []) rfl rfl (Nat.le_of_ble_eq_true rfl) (23 + v1.toNatClampNeg) 3 (pX_cS hk2) rfl (fun x3 => ?_)
    refine gg_if_eq (pc := 21) hC dX6_lose_21 (tgt := 30) rfl (fun _ => ?_) (fun _ => ?_)
    · refine gg_aload_n (pc := 30) hC dX6_lose_30 (i := 2) rfl 0 rfl ?_
      refine gg_iconst (pc := 31) hC dX6_lose_31 (x := -1) rfl ?_
      refine gg_put (pc := 32) hC dX6_lose_32 fX6_269 tX3_2 (23 + v1.toNatClampNeg) (pX_cS hk2) rfl rfl rfl (Nat.le_of_ble_eq_true rfl) (sX_cS_3 hk2) ?_
      refine gg_zvs (fun s4 => ?_)
      refine gg_aload_n (pc := 35) hC dX6_lose_35 (i := 2) rfl 0 rfl ?_
      refine gg_get (pc := 36) hC dX6_lose_36 fX6_272 (23 + v1.toNatClampNeg) (pX_cS hk2) (v := .int (zi s4 (30 + v1.toNatClampNeg))) rfl ?_
      exact gg_iret (pc := 39) hR dX6_lose_39
    · refine gg_aload_n (pc := 24) hC dX6_lose_24 (i := 0) rfl 1 rfl ?_
      refine gg_iconst (pc := 25) hC dX6_lose_25 (x := 1) rfl ?_
      refine gg_callVI (pc := 26) hC dX6_lose_26 vX6_260 (fun _ h => mX6_finding h) (Nat.le_of_ble_eq_true rfl) (Nat.le_of_ble_eq_true rfl) (As := [.int 1]) (rest := []) rfl rfl (Nat.le_of_ble_eq_true rfl) 0 6 pX_0 rfl (fun x5 s6 => ?_)
      exact gg_iret (pc := 29) hR dX6_lose_29
def fX6_mend (v1 : Int32) (σ : zS) : Option (Int32 × zS) :=
    zy1 (fX6_isWithin v1 0 1 σ) (fun x1 =>
    if x1 = 0 then (some ((-2 : Int32), σ)) else
    (zv (zi σ 2) (fun (x2 : Int32) =>
    zv (wi σ 2 v1) (fun (s3 : zS) =>
    zv (wi s3 4 1) (fun (s4 : zS) =>
    some (x2, s4))))))
set_option maxHeartbeats 4000000 in
set_option maxRecDepth 100000 in
theorem mX6_mend {l : Launch} {D : va_G} {A : Nat → Nat} {cA : Nat → ClassId} {v1 : Int32}  {σ : zS} {r : Int32 × zS} (h : fX6_mend v1 σ = some r) : zMI l D (wX A cA) yX6_mend (zws yX6_mend cX6_mend 3 (some .int)) 1 22 [.ref (A 0), .int v1] σ r := by
  refine zm_I (lv := [(0, .ref (A 0)), (1, .int v1)]) rfl (sX_ok A) (Nat.le_of_ble_eq_true rfl) rfl (fun C _ _ hC hR => ?_) h
  unfold fX6_mend
  refine gg_iload_n (pc := 0) hC dX6_mend_0 (i := 1) rfl 1 rfl ?_
  refine gg_iconst (pc := 1) hC dX6_mend_1 (x := 0) rfl ?_
  refine gg_iconst (pc := 2) hC dX6_mend_2 (x := 1) rfl ?_
  refine gg_callSIr (pc := 3) hC dX6_mend_3 cX6_87 (fun _ h => mX6_isWithin h) (Nat.le_of_ble_eq_true rfl) (Nat.le_of_ble_eq_true rfl) (As := [.int v1, .int 0, .int 1]) (rest := []) rfl rfl (Nat.le_of_ble_eq_true rfl) (fun x1 => ?_)
  refine gg_if_ne (pc := 6) hC dX6_mend_6 (tgt := 12) rfl (fun _ => ?_) (fun _ => ?_)
  · refine gg_bipush (pc := 9) hC dX6_mend_9 (x := -2) rfl ?_
    exact gg_iret (pc := 11) hR dX6_mend_11
  · refine gg_aload_n (pc := 12) hC dX6_mend_12 (i := 0) rfl 0 rfl ?_
    refine gg_get (pc := 13) hC dX6_mend_13 fX6_61 0 pX_0 (v := .int (zi σ 2)) rfl ?_
    refine gg_zvi (fun x2 => ?_)
    refine gg_istore_n (pc := 16) hC dX6_mend_16 (i := 2) rfl (Nat.le_of_ble_eq_true rfl) (lv' := [(2, .int x2), (0, .ref (A 0)), (1, .int v1)]) rfl ?_
    refine gg_aload_n (pc := 17) hC dX6_mend_17 (i := 0) rfl 1 rfl ?_
    refine gg_iload_n (pc := 18) hC dX6_mend_18 (i := 1) rfl 2 rfl ?_
    refine gg_put (pc := 19) hC dX6_mend_19 fX6_61 tX6_2 0 pX_0 rfl rfl rfl (Nat.le_of_ble_eq_true rfl) sX_0_9 ?_
    refine gg_zvs (fun s3 => ?_)
    refine gg_aload_n (pc := 22) hC dX6_mend_22 (i := 0) rfl 1 rfl ?_
    refine gg_iconst (pc := 23) hC dX6_mend_23 (x := 1) rfl ?_
    refine gg_put (pc := 24) hC dX6_mend_24 fX6_67 tX6_2 0 pX_0 rfl rfl rfl (Nat.le_of_ble_eq_true rfl) sX_0_11 ?_
    refine gg_zvs (fun s4 => ?_)
    refine gg_iload_n (pc := 27) hC dX6_mend_27 (i := 2) rfl 0 rfl ?_
    exact gg_iret (pc := 28) hR dX6_mend_28
def fX6_nominal (v1 : Int32) (σ : zS) : Option (Int32 × zS) :=
    zy1 (fX6_isWithin v1 0 600 σ) (fun x1 =>
    if x1 = 0 then (some ((-2 : Int32), σ)) else
    (zv (zi σ 1) (fun (x2 : Int32) =>
    zv (wi σ 1 v1) (fun (s3 : zS) =>
    zv (wi s3 4 1) (fun (s4 : zS) =>
    some (x2, s4))))))
set_option maxHeartbeats 4000000 in
set_option maxRecDepth 100000 in
theorem mX6_nominal {l : Launch} {D : va_G} {A : Nat → Nat} {cA : Nat → ClassId} {v1 : Int32}  {σ : zS} {r : Int32 × zS} (h : fX6_nominal v1 σ = some r) : zMI l D (wX A cA) yX6_nominal (zws yX6_nominal cX6_nominal 3 (some .int)) 1 22 [.ref (A 0), .int v1] σ r := by
  refine zm_I (lv := [(0, .ref (A 0)), (1, .int v1)]) rfl (sX_ok A) (Nat.le_of_ble_eq_true rfl) rfl (fun C _ _ hC hR => ?_) h
  unfold fX6_nominal
  refine gg_iload_n (pc := 0) hC dX6_nominal_0 (i := 1) rfl 1 rfl ?_
  refine gg_iconst (pc := 1) hC dX6_nominal_1 (x := 0) rfl ?_
  refine gg_sipush (pc := 2) hC dX6_nominal_2 (x := 600) rfl ?_
  refine gg_callSIr (pc := 5) hC dX6_nominal_5 cX6_87 (fun _ h => mX6_isWithin h) (Nat.le_of_ble_eq_true rfl) (Nat.le_of_ble_eq_true rfl) (As := [.int v1, .int 0, .int 600]) (rest := []) rfl rfl (Nat.le_of_ble_eq_true rfl) (fun x1 => ?_)
  refine gg_if_ne (pc := 8) hC dX6_nominal_8 (tgt := 14) rfl (fun _ => ?_) (fun _ => ?_)
  · refine gg_bipush (pc := 11) hC dX6_nominal_11 (x := -2) rfl ?_
    exact gg_iret (pc := 13) hR dX6_nominal_13
  · refine gg_aload_n (pc := 14) hC dX6_nominal_14 (i := 0) rfl 0 rfl ?_
    refine gg_get (pc := 15) hC dX6_nominal_15 fX6_58 0 pX_0 (v := .int (zi σ 1)) rfl ?_
    refine gg_zvi (fun x2 => ?_)
    refine gg_istore_n (pc := 18) hC dX6_nominal_18 (i := 2) rfl (Nat.le_of_ble_eq_true rfl) (lv' := [(2, .int x2), (0, .ref (A 0)), (1, .int v1)]) rfl ?_
    refine gg_aload_n (pc := 19) hC dX6_nominal_19 (i := 0) rfl 1 rfl ?_
    refine gg_iload_n (pc := 20) hC dX6_nominal_20 (i := 1) rfl 2 rfl ?_
    refine gg_put (pc := 21) hC dX6_nominal_21 fX6_58 tX6_2 0 pX_0 rfl rfl rfl (Nat.le_of_ble_eq_true rfl) sX_0_8 ?_
    refine gg_zvs (fun s3 => ?_)
    refine gg_aload_n (pc := 24) hC dX6_nominal_24 (i := 0) rfl 1 rfl ?_
    refine gg_iconst (pc := 25) hC dX6_nominal_25 (x := 1) rfl ?_
    refine gg_put (pc := 26) hC dX6_nominal_26 fX6_67 tX6_2 0 pX_0 rfl rfl rfl (Nat.le_of_ble_eq_true rfl) sX_0_11 ?_
    refine gg_zvs (fun s4 => ?_)
    refine gg_iload_n (pc := 29) hC dX6_nominal_29 (i := 2) rfl 0 rfl ?_
    exact gg_iret (pc := 30) hR dX6_nominal_30
def fX6_put (v1 : Int32) (v2 : Int32) (v3 : Int32) (v4 : Int32) (σ : zS) : Option (Int32 × zS) :=
    zy1 (fX6_isSheet v1 σ) (fun x1 =>
    if x1 = 0 then (some ((-2 : Int32), σ)) else
    (zy1 (fX6_isForm v2 σ) (fun x2 =>
    if x2 = 0 then (some ((-2 : Int32), σ)) else
    (zg (zq v1 4) (zy1 (fX3_isLost v1.toNatClampNeg σ) (fun x4 =>
    if x4 = 0 then (if (zi σ (20 + v1.toNatClampNeg)) = v2 then (zy1 (fX3_has v1.toNatClampNeg v3 σ) (fun x5 =>
    if x5 = 0 then (zy2 (fX6_finding 2 σ) (fun x6 s7 =>
    some (x6, s7))) else
    (zy1 (fX3_store v1.toNatClampNeg v3 v4 σ) (fun s8 =>
    some (1, s8))))) else
    (zy2 (fX6_finding 3 σ) (fun x9 s10 =>
    some (x9, s10)))) else
    (zy2 (fX6_finding 1 σ) (fun x11 s12 =>
    some (x11, s12)))))))))
set_option maxHeartbeats 4000000 in
set_option maxRecDepth 100000 in
theorem mX6_put {l : Launch} {D : va_G} {A : Nat → Nat} {cA : Nat → ClassId} {v1 : Int32} {v2 : Int32} {v3 : Int32} {v4 : Int32}  {σ : zS} {r : Int32 × zS} (h : fX6_put v1 v2 v3 v4 σ = some r) : zMI l D (wX A cA) yX6_put (zws yX6_put cX6_put 6 (some .int)) 2 42 [.ref (A 0), .int v1, .int v2, .int v3, .int v4] σ r := by
  refine zm_I (lv := [(0, .ref (A 0)), (1, .int v1), (2, .int v2), (3, .int v3), (4, .int v4)]) rfl (sX_ok A) (Nat.le_of_ble_eq_true rfl) rfl (fun C _ _ hC hR => ?_) h
  unfold fX6_put
  refine gg_iload_n (pc := 0) hC dX6_put_0 (i := 1) rfl 1 rfl ?_
  refine gg_callSIr (pc := 1) hC dX6_put_1 cX6_254 (fun _ h => mX6_isSheet h) (Nat.le_of_ble_eq_true rfl) (Nat.le_of_ble_eq_true rfl) (As := [.int v1]) (rest := []) rfl rfl (Nat.le_of_ble_eq_true rfl) (fun x1 => ?_)
  refine gg_if_eq (pc := 4) hC dX6_put_4 (tgt := 14) rfl (fun _ => ?_) (fun _ => ?_)
  · refine gg_bipush (pc := 14) hC dX6_put_14 (x := -2) rfl ?_
    exact gg_iret (pc := 16) hR dX6_put_16
  · refine gg_iload_n (pc := 7) hC dX6_put_7 (i := 2) rfl 2 rfl ?_
    refine gg_callSIr (pc := 8) hC dX6_put_8 cX6_257 (fun _ h => mX6_isForm h) (Nat.le_of_ble_eq_true rfl) (Nat.le_of_ble_eq_true rfl) (As := [.int v2]) (rest := []) rfl rfl (Nat.le_of_ble_eq_true rfl) (fun x2 => ?_)
    refine gg_if_ne (pc := 11) hC dX6_put_11 (tgt := 17) rfl (fun _ => ?_) (fun _ => ?_)
    · refine gg_bipush (pc := 14) hC dX6_put_14 (x := -2) rfl ?_
      exact gg_iret (pc := 16) hR dX6_put_16
    · refine gg_aload_n (pc := 17) hC dX6_put_17 (i := 0) rfl 0 rfl ?_
      refine gg_get (pc := 18) hC dX6_put_18 fX6_46 0 pX_0 (v := .ref (A 6)) rfl ?_
      refine gg_iload_n (pc := 21) hC dX6_put_21 (i := 1) rfl 1 rfl ?_
      refine gg_sheets (pc := 22) hC dX6_put_22 (fun hk3 => ?_)
      refine gg_astore (pc := 23) hC dX6_put_23 (Nat.le_of_ble_eq_true rfl) (lv' := [(5, .ref (A (23 + v1.toNatClampNeg))), (0, .ref (A 0)), (1, .int v1), (2, .int v2), (3, .int v3), (4, .int v4)]) rfl ?_
      refine gg_aload (pc := 25) hC dX6_put_25 0 rfl ?_
      refine gg_callVIr (pc := 27) hC dX6_put_27 vX6_266 (fun _ h => mX3_isLost hk3 h) (Nat.le_of_ble_eq_true rfl) (Nat.le_of_ble_eq_true rfl) (As := []) (rest := []) rfl rfl (Nat.le_of_ble_eq_true rfl) (23 + v1.toNatClampNeg) 3 (pX_cS hk3) rfl (fun x4 => ?_)
      refine gg_if_eq (pc := 30) hC dX6_put_30 (tgt := 39) rfl (fun _ => ?_) (fun _ => ?_)
      · refine gg_aload (pc := 39) hC dX6_put_39 0 rfl ?_
        refine gg_get (pc := 41) hC dX6_put_41 fX6_269 (23 + v1.toNatClampNeg) (pX_cS hk3) (v := .int (zi σ (20 + v1.toNatClampNeg))) rfl ?_
        refine gg_iload_n (pc := 44) hC dX6_put_44 (i := 2) rfl 3 rfl ?_
        refine gg_icmp_eq (pc := 45) hC dX6_put_45 (tgt := 54) rfl (fun _ => ?_) (fun _ => ?_)
        · refine gg_aload (pc := 54) hC dX6_put_54 0 rfl ?_
          refine gg_iload_n (pc := 56) hC dX6_put_56 (i := 3) rfl 4 rfl ?_
          refine gg_callVIr (pc := 57) hC dX6_put_57 vX6_273 (fun _ h => mX3_has hk3 h) (Nat.le_of_ble_eq_true rfl) (Nat.le_of_ble_eq_true rfl) (As := [.int v3]) (rest := []) rfl rfl (Nat.le_of_ble_eq_true rfl) (23 + v1.toNatClampNeg) 3 (pX_cS hk3) rfl (fun x5 => ?_)
          refine gg_if_ne (pc := 60) hC dX6_put_60 (tgt := 69) rfl (fun _ => ?_) (fun _ => ?_)
          · refine gg_aload_n (pc := 63) hC dX6_put_63 (i := 0) rfl 1 rfl ?_
            refine gg_iconst (pc := 64) hC dX6_put_64 (x := 2) rfl ?_
            refine gg_callVI (pc := 65) hC dX6_put_65 vX6_260 (fun _ h => mX6_finding h) (Nat.le_of_ble_eq_true rfl) (Nat.le_of_ble_eq_true rfl) (As := [.int 2]) (rest := []) rfl rfl (Nat.le_of_ble_eq_true rfl) 0 6 pX_0 rfl (fun x6 s7 => ?_)
            exact gg_iret (pc := 68) hR dX6_put_68
          · refine gg_aload (pc := 69) hC dX6_put_69 0 rfl ?_
            refine gg_iload_n (pc := 71) hC dX6_put_71 (i := 3) rfl 4 rfl ?_
            refine gg_iload (pc := 72) hC dX6_put_72 5 rfl ?_
            refine gg_callVV (pc := 74) hC dX6_put_74 vX6_276 (fun _ h => mX3_store hk3 h) (Nat.le_of_ble_eq_true rfl) (Nat.le_of_ble_eq_true rfl) (As := [.int v3, .int v4]) (rest := []) rfl rfl (Nat.le_of_ble_eq_true rfl) (23 + v1.toNatClampNeg) 3 (pX_cS hk3) rfl (fun s8 => ?_)
            refine gg_iconst (pc := 77) hC dX6_put_77 (x := 1) rfl ?_
            exact gg_iret (pc := 78) hR dX6_put_78
        · refine gg_aload_n (pc := 48) hC dX6_put_48 (i := 0) rfl 1 rfl ?_
          refine gg_iconst (pc := 49) hC dX6_put_49 (x := 3) rfl ?_
          refine gg_callVI (pc := 50) hC dX6_put_50 vX6_260 (fun _ h => mX6_finding h) (Nat.le_of_ble_eq_true rfl) (Nat.le_of_ble_eq_true rfl) (As := [.int 3]) (rest := []) rfl rfl (Nat.le_of_ble_eq_true rfl) 0 6 pX_0 rfl (fun x9 s10 => ?_)
          exact gg_iret (pc := 53) hR dX6_put_53
      · refine gg_aload_n (pc := 33) hC dX6_put_33 (i := 0) rfl 1 rfl ?_
        refine gg_iconst (pc := 34) hC dX6_put_34 (x := 1) rfl ?_
        refine gg_callVI (pc := 35) hC dX6_put_35 vX6_260 (fun _ h => mX6_finding h) (Nat.le_of_ble_eq_true rfl) (Nat.le_of_ble_eq_true rfl) (As := [.int 1]) (rest := []) rfl rfl (Nat.le_of_ble_eq_true rfl) 0 6 pX_0 rfl (fun x11 s12 => ?_)
        exact gg_iret (pc := 38) hR dX6_put_38
def fX6_sheet (v1 : Int32) (v2 : Int32) (v3 : Int32) (σ : zS) : Option (Int32 × zS) :=
    zy1 (fX6_isSheet v1 σ) (fun x1 =>
    if x1 = 0 then (some ((-2 : Int32), σ)) else
    (zy1 (fX6_isForm v2 σ) (fun x2 =>
    if x2 = 0 then (some ((-2 : Int32), σ)) else
    (if v3 ≤ 40 then (if 0 ≤ v3 then (zg (zq v1 4) (zy1 (fX3_begin v1.toNatClampNeg v2 v3 σ) (fun s4 =>
    some (v3, s4)))) else
    (zy2 (fX6_finding 5 σ) (fun x5 s6 =>
    some (x5, s6)))) else
    (some ((-2 : Int32), σ))))))
set_option maxHeartbeats 4000000 in
set_option maxRecDepth 100000 in
theorem mX6_sheet {l : Launch} {D : va_G} {A : Nat → Nat} {cA : Nat → ClassId} {v1 : Int32} {v2 : Int32} {v3 : Int32}  {σ : zS} {r : Int32 × zS} (h : fX6_sheet v1 v2 v3 σ = some r) : zMI l D (wX A cA) yX6_sheet (zws yX6_sheet cX6_sheet 4 (some .int)) 2 42 [.ref (A 0), .int v1, .int v2, .int v3] σ r := by
  refine zm_I (lv := [(0, .ref (A 0)), (1, .int v1), (2, .int v2), (3, .int v3)]) rfl (sX_ok A) (Nat.le_of_ble_eq_true rfl) rfl (fun C _ _ hC hR => ?_) h
  unfold fX6_sheet
  refine gg_iload_n (pc := 0) hC dX6_sheet_0 (i := 1) rfl 1 rfl ?_
  refine gg_callSIr (pc := 1) hC dX6_sheet_1 cX6_254 (fun _ h => mX6_isSheet h) (Nat.le_of_ble_eq_true rfl) (Nat.le_of_ble_eq_true rfl) (As := [.int v1]) (rest := []) rfl rfl (Nat.le_of_ble_eq_true rfl) (fun x1 => ?_)
  refine gg_if_eq (pc := 4) hC dX6_sheet_4 (tgt := 20) rfl (fun _ => ?_) (fun _ => ?_)
  · refine gg_bipush (pc := 20) hC dX6_sheet_20 (x := -2) rfl ?_
    exact gg_iret (pc := 22) hR dX6_sheet_22
  · refine gg_iload_n (pc := 7) hC dX6_sheet_7 (i := 2) rfl 2 rfl ?_
    refine gg_callSIr (pc := 8) hC dX6_sheet_8 cX6_257 (fun _ h => mX6_isForm h) (Nat.le_of_ble_eq_true rfl) (Nat.le_of_ble_eq_true rfl) (As := [.int v2]) (rest := []) rfl rfl (Nat.le_of_ble_eq_true rfl) (fun x2 => ?_)
    refine gg_if_eq (pc := 11) hC dX6_sheet_11 (tgt := 20) rfl (fun _ => ?_) (fun _ => ?_)
    · refine gg_bipush (pc := 20) hC dX6_sheet_20 (x := -2) rfl ?_
      exact gg_iret (pc := 22) hR dX6_sheet_22
    · refine gg_iload_n (pc := 14) hC dX6_sheet_14 (i := 3) rfl 3 rfl ?_
      refine gg_bipush (pc := 15) hC dX6_sheet_15 (x := 40) rfl ?_
      refine gg_icmp_le (pc := 17) hC dX6_sheet_17 (tgt := 23) rfl (fun _ => ?_) (fun _ => ?_)
      · refine gg_iload_n (pc := 23) hC dX6_sheet_23 (i := 3) rfl 3 rfl ?_
        refine gg_if_ge (pc := 24) hC dX6_sheet_24 (tgt := 33) rfl (fun _ => ?_) (fun _ => ?_)
        · refine gg_aload_n (pc := 33) hC dX6_sheet_33 (i := 0) rfl 0 rfl ?_
          refine gg_get (pc := 34) hC dX6_sheet_34 fX6_46 0 pX_0 (v := .ref (A 6)) rfl ?_
          refine gg_iload_n (pc := 37) hC dX6_sheet_37 (i := 1) rfl 1 rfl ?_
          refine gg_sheets (pc := 38) hC dX6_sheet_38 (fun hk3 => ?_)
          refine gg_iload_n (pc := 39) hC dX6_sheet_39 (i := 2) rfl 2 rfl ?_
          refine gg_iload_n (pc := 40) hC dX6_sheet_40 (i := 3) rfl 3 rfl ?_
          refine gg_callVV (pc := 41) hC dX6_sheet_41 vX6_263 (fun _ h => mX3_begin hk3 h) (Nat.le_of_ble_eq_true rfl) (Nat.le_of_ble_eq_true rfl) (As := [.int v2, .int v3]) (rest := []) rfl rfl (Nat.le_of_ble_eq_true rfl) (23 + v1.toNatClampNeg) 3 (pX_cS hk3) rfl (fun s4 => ?_)
          refine gg_iload_n (pc := 44) hC dX6_sheet_44 (i := 3) rfl 3 rfl ?_
          exact gg_iret (pc := 45) hR dX6_sheet_45
        · refine gg_aload_n (pc := 27) hC dX6_sheet_27 (i := 0) rfl 0 rfl ?_
          refine gg_iconst (pc := 28) hC dX6_sheet_28 (x := 5) rfl ?_
          refine gg_callVI (pc := 29) hC dX6_sheet_29 vX6_260 (fun _ h => mX6_finding h) (Nat.le_of_ble_eq_true rfl) (Nat.le_of_ble_eq_true rfl) (As := [.int 5]) (rest := []) rfl rfl (Nat.le_of_ble_eq_true rfl) 0 6 pX_0 rfl (fun x5 s6 => ?_)
          exact gg_iret (pc := 32) hR dX6_sheet_32
      · refine gg_bipush (pc := 20) hC dX6_sheet_20 (x := -2) rfl ?_
        exact gg_iret (pc := 22) hR dX6_sheet_22
def fX6_sweep_49 (v1 : Int32) (v2 : Int32) : Nat → Int32 → zS → Option (zS)
  | 0, _, _ => none
  | n + 1, v3, σ =>
    if v2 ≤ v3 then (some σ) else
    (zy2 (fX0_addHits ((v3 * v1) - (v3 * v1) / 60 * 60) 1 σ) (fun x1 s2 =>
    fX6_sweep_49 v1 v2 n (v3 + 1) s2))
def fX6_sweep (v1 : Int32) (v2 : Int32) (σ : zS) : Option (Int32 × zS) :=
    zy1 (fX6_isWithin v1 1 59 σ) (fun x1 =>
    if x1 = 0 then (some ((-2 : Int32), σ)) else
    (zy1 (fX6_isWithin v2 1 400 σ) (fun x2 =>
    if x2 = 0 then (some ((-2 : Int32), σ)) else
    (if ((zi σ 7) + v2) ≤ 400 then (zv (wi σ 4 1) (fun (s3 : zS) =>
    zy1 (fX6_sweep_49 v1 v2 500 0 s3) (fun (s4 : zS) =>
    some ((zi s4 7), s4)))) else
    (some ((-4 : Int32), σ))))))
set_option maxHeartbeats 4000000 in
set_option maxRecDepth 100000 in
theorem lX6_sweep_49 {C : zK} {A : Nat → Nat} {cA : Nat → ClassId} (hC : zOK C (wX A cA) cX6_sweep RX6 4 2 46) {v1 : Int32} {v2 : Int32} : ∀ (n : Nat) (v3 : Int32) (σ : zS), zG C (wX A cA) 4 (fun q => zW C (wX A cA) 4 75 [(0, .ref (A 0))] [] q) (fX6_sweep_49 v1 v2 n v3 σ) 49 [(0, .ref (A 0)), (1, .int v1), (2, .int v2), (3, .int v3)] [] σ := by
  intro n
  induction n with
  | zero => intro v3 σ; exact gg_none (o := none)
  | succ n ih =>
    intro v3 σ
    rw [fX6_sweep_49]
    refine gg_iload_n (pc := 49) hC dX6_sweep_49 (i := 3) rfl 3 rfl ?_
    refine gg_iload_n (pc := 50) hC dX6_sweep_50 (i := 2) rfl 2 rfl ?_
    refine gg_icmp_ge (pc := 51) hC dX6_sweep_51 (tgt := 75) rfl (fun _ => ?_) (fun _ => ?_)
    · exact gg_y (fun h => zW_lv [0] rfl h)
    · refine gg_aload_n (pc := 54) hC dX6_sweep_54 (i := 0) rfl 0 rfl ?_
      refine gg_get (pc := 55) hC dX6_sweep_55 fX6_19 0 pX_0 (v := .ref (A 2)) rfl ?_
      refine gg_iload_n (pc := 58) hC dX6_sweep_58 (i := 3) rfl 3 rfl ?_
      refine gg_iload_n (pc := 59) hC dX6_sweep_59 (i := 1) rfl 1 rfl ?_
      refine gg_imul (pc := 60) hC dX6_sweep_60 ?_
      refine gg_bipush (pc := 61) hC dX6_sweep_61 (x := 60) rfl ?_
      refine gg_irem (pc := 63) hC dX6_sweep_63 (by decide) ?_
      refine gg_iconst (pc := 64) hC dX6_sweep_64 (x := 1) rfl ?_
      refine gg_callVI (pc := 65) hC dX6_sweep_65 vX6_121 (fun _ h => mX0_addHits h) (Nat.le_of_ble_eq_true rfl) (Nat.le_of_ble_eq_true rfl) (As := [.int ((v3 * v1) - (v3 * v1) / 60 * 60), .int 1]) (rest := []) rfl rfl (Nat.le_of_ble_eq_true rfl) 2 0 pX_2 rfl (fun x1 s2 => ?_)
      refine gg_pop (pc := 68) hC dX6_sweep_68 rfl ?_
      refine gg_iinc (pc := 69) hC dX6_sweep_69 (y := 0) (j := 3) rfl (z := 1) rfl (Nat.le_of_ble_eq_true rfl) (lv' := [(3, .int (v3 + 1)), (0, .ref (A 0)), (1, .int v1), (2, .int v2)]) rfl ?_
      refine gg_goto (pc := 72) hC dX6_sweep_72 (tgt := 49) rfl ?_
      exact gg_lv [1, 2, 3, 0] rfl (ih _ _)
set_option maxHeartbeats 4000000 in
set_option maxRecDepth 100000 in
theorem mX6_sweep {l : Launch} {D : va_G} {A : Nat → Nat} {cA : Nat → ClassId} {v1 : Int32} {v2 : Int32}  {σ : zS} {r : Int32 × zS} (h : fX6_sweep v1 v2 σ = some r) : zMI l D (wX A cA) yX6_sweep (zws yX6_sweep cX6_sweep 4 (some .int)) 2 46 [.ref (A 0), .int v1, .int v2] σ r := by
  refine zm_I (lv := [(0, .ref (A 0)), (1, .int v1), (2, .int v2)]) rfl (sX_ok A) (Nat.le_of_ble_eq_true rfl) rfl (fun C _ _ hC hR => ?_) h
  unfold fX6_sweep
  refine gg_iload_n (pc := 0) hC dX6_sweep_0 (i := 1) rfl 1 rfl ?_
  refine gg_iconst (pc := 1) hC dX6_sweep_1 (x := 1) rfl ?_
  refine gg_bipush (pc := 2) hC dX6_sweep_2 (x := 59) rfl ?_
  refine gg_callSIr (pc := 4) hC dX6_sweep_4 cX6_87 (fun _ h => mX6_isWithin h) (Nat.le_of_ble_eq_true rfl) (Nat.le_of_ble_eq_true rfl) (As := [.int v1, .int 1, .int 59]) (rest := []) rfl rfl (Nat.le_of_ble_eq_true rfl) (fun x1 => ?_)
  refine gg_if_eq (pc := 7) hC dX6_sweep_7 (tgt := 21) rfl (fun _ => ?_) (fun _ => ?_)
  · refine gg_bipush (pc := 21) hC dX6_sweep_21 (x := -2) rfl ?_
    exact gg_iret (pc := 23) hR dX6_sweep_23
  · refine gg_iload_n (pc := 10) hC dX6_sweep_10 (i := 2) rfl 2 rfl ?_
    refine gg_iconst (pc := 11) hC dX6_sweep_11 (x := 1) rfl ?_
    refine gg_sipush (pc := 12) hC dX6_sweep_12 (x := 400) rfl ?_
    refine gg_callSIr (pc := 15) hC dX6_sweep_15 cX6_87 (fun _ h => mX6_isWithin h) (Nat.le_of_ble_eq_true rfl) (Nat.le_of_ble_eq_true rfl) (As := [.int v2, .int 1, .int 400]) (rest := []) rfl rfl (Nat.le_of_ble_eq_true rfl) (fun x2 => ?_)
    refine gg_if_ne (pc := 18) hC dX6_sweep_18 (tgt := 24) rfl (fun _ => ?_) (fun _ => ?_)
    · refine gg_bipush (pc := 21) hC dX6_sweep_21 (x := -2) rfl ?_
      exact gg_iret (pc := 23) hR dX6_sweep_23
    · refine gg_aload_n (pc := 24) hC dX6_sweep_24 (i := 0) rfl 0 rfl ?_
      refine gg_get (pc := 25) hC dX6_sweep_25 fX6_19 0 pX_0 (v := .ref (A 2)) rfl ?_
      refine gg_get (pc := 28) hC dX6_sweep_28 fX6_118 2 pX_2 (v := .int (zi σ 7)) rfl ?_
      refine gg_iload_n (pc := 31) hC dX6_sweep_31 (i := 2) rfl 2 rfl ?_
      refine gg_iadd (pc := 32) hC dX6_sweep_32 ?_
      refine gg_sipush (pc := 33) hC dX6_sweep_33 (x := 400) rfl ?_
      refine gg_icmp_le (pc := 36) hC dX6_sweep_36 (tgt := 42) rfl (fun _ => ?_) (fun _ => ?_)
      · refine gg_aload_n (pc := 42) hC dX6_sweep_42 (i := 0) rfl 0 rfl ?_
        refine gg_iconst (pc := 43) hC dX6_sweep_43 (x := 1) rfl ?_
        refine gg_put (pc := 44) hC dX6_sweep_44 fX6_67 tX6_2 0 pX_0 rfl rfl rfl (Nat.le_of_ble_eq_true rfl) sX_0_11 ?_
        refine gg_zvs (fun s3 => ?_)
        refine gg_iconst (pc := 47) hC dX6_sweep_47 (x := 0) rfl ?_
        refine gg_istore_n (pc := 48) hC dX6_sweep_48 (i := 3) rfl (Nat.le_of_ble_eq_true rfl) (lv' := [(3, .int 0), (0, .ref (A 0)), (1, .int v1), (2, .int v2)]) rfl ?_
        refine gg_join1 (E' := (fun q => zW C (wX A cA) 4 75 [(0, .ref (A 0))] [] q)) (gg_lv [1, 2, 3, 0] rfl (lX6_sweep_49 hC  500 _ _)) (fun s4 => ?_)
        show zG C (wX A cA) 4 _ _ 75 [(0, .ref (A 0))] [] s4
        refine gg_aload_n (pc := 75) hC dX6_sweep_75 (i := 0) rfl 0 rfl ?_
        refine gg_get (pc := 76) hC dX6_sweep_76 fX6_19 0 pX_0 (v := .ref (A 2)) rfl ?_
        refine gg_get (pc := 79) hC dX6_sweep_79 fX6_118 2 pX_2 (v := .int (zi s4 7)) rfl ?_
        exact gg_iret (pc := 82) hR dX6_sweep_82
      · refine gg_bipush (pc := 39) hC dX6_sweep_39 (x := -4) rfl ?_
        exact gg_iret (pc := 41) hR dX6_sweep_41
def fX6_type (v1 : Int32) (σ : zS) : Option (Int32 × zS) :=
    zy1 (fX6_isWithin v1 0 255 σ) (fun x1 =>
    if x1 = 0 then (some ((-2 : Int32), σ)) else
    (if (zi σ 0) < 5 then (zg (zq (zi σ 0) 5) (zv (wa σ 0 (zi σ 0).toNatClampNeg v1) (fun (s2 : zS) =>
    zv (wi s2 0 ((zi s2 0) + 1)) (fun (s3 : zS) =>
    zv (wi s3 4 1) (fun (s4 : zS) =>
    some ((zi s4 0), s4)))))) else
    (some ((-4 : Int32), σ))))
set_option maxHeartbeats 4000000 in
set_option maxRecDepth 100000 in
theorem mX6_type {l : Launch} {D : va_G} {A : Nat → Nat} {cA : Nat → ClassId} {v1 : Int32}  {σ : zS} {r : Int32 × zS} (h : fX6_type v1 σ = some r) : zMI l D (wX A cA) yX6_type (zws yX6_type cX6_type 2 (some .int)) 1 22 [.ref (A 0), .int v1] σ r := by
  refine zm_I (lv := [(0, .ref (A 0)), (1, .int v1)]) rfl (sX_ok A) (Nat.le_of_ble_eq_true rfl) rfl (fun C _ _ hC hR => ?_) h
  unfold fX6_type
  refine gg_iload_n (pc := 0) hC dX6_type_0 (i := 1) rfl 1 rfl ?_
  refine gg_iconst (pc := 1) hC dX6_type_1 (x := 0) rfl ?_
  refine gg_sipush (pc := 2) hC dX6_type_2 (x := 255) rfl ?_
  refine gg_callSIr (pc := 5) hC dX6_type_5 cX6_87 (fun _ h => mX6_isWithin h) (Nat.le_of_ble_eq_true rfl) (Nat.le_of_ble_eq_true rfl) (As := [.int v1, .int 0, .int 255]) (rest := []) rfl rfl (Nat.le_of_ble_eq_true rfl) (fun x1 => ?_)
  refine gg_if_ne (pc := 8) hC dX6_type_8 (tgt := 14) rfl (fun _ => ?_) (fun _ => ?_)
  · refine gg_bipush (pc := 11) hC dX6_type_11 (x := -2) rfl ?_
    exact gg_iret (pc := 13) hR dX6_type_13
  · refine gg_aload_n (pc := 14) hC dX6_type_14 (i := 0) rfl 0 rfl ?_
    refine gg_get (pc := 15) hC dX6_type_15 fX6_54 0 pX_0 (v := .int (zi σ 0)) rfl ?_
    refine gg_iconst (pc := 18) hC dX6_type_18 (x := 5) rfl ?_
    refine gg_icmp_lt (pc := 19) hC dX6_type_19 (tgt := 25) rfl (fun _ => ?_) (fun _ => ?_)
    · refine gg_aload_n (pc := 25) hC dX6_type_25 (i := 0) rfl 0 rfl ?_
      refine gg_get (pc := 26) hC dX6_type_26 fX6_50 0 pX_0 (v := .ref (A 7)) rfl ?_
      refine gg_aload_n (pc := 29) hC dX6_type_29 (i := 0) rfl 0 rfl ?_
      refine gg_get (pc := 30) hC dX6_type_30 fX6_54 0 pX_0 (v := .int (zi σ 0)) rfl ?_
      refine gg_iload_n (pc := 33) hC dX6_type_33 (i := 1) rfl 1 rfl ?_
      refine gg_iast (pc := 34) hC dX6_type_34 7 0 pX_7 rfl sX_7 ?_
      refine gg_zvs (fun s2 => ?_)
      refine gg_aload_n (pc := 35) hC dX6_type_35 (i := 0) rfl 0 rfl ?_
      refine gg_dup (pc := 36) hC dX6_type_36 rfl ?_
      refine gg_get (pc := 37) hC dX6_type_37 fX6_54 0 pX_0 (v := .int (zi s2 0)) rfl ?_
      refine gg_iconst (pc := 40) hC dX6_type_40 (x := 1) rfl ?_
      refine gg_iadd (pc := 41) hC dX6_type_41 ?_
      refine gg_put (pc := 42) hC dX6_type_42 fX6_54 tX6_2 0 pX_0 rfl rfl rfl (Nat.le_of_ble_eq_true rfl) sX_0_7 ?_
      refine gg_zvs (fun s3 => ?_)
      refine gg_aload_n (pc := 45) hC dX6_type_45 (i := 0) rfl 0 rfl ?_
      refine gg_iconst (pc := 46) hC dX6_type_46 (x := 1) rfl ?_
      refine gg_put (pc := 47) hC dX6_type_47 fX6_67 tX6_2 0 pX_0 rfl rfl rfl (Nat.le_of_ble_eq_true rfl) sX_0_11 ?_
      refine gg_zvs (fun s4 => ?_)
      refine gg_aload_n (pc := 50) hC dX6_type_50 (i := 0) rfl 0 rfl ?_
      refine gg_get (pc := 51) hC dX6_type_51 fX6_54 0 pX_0 (v := .int (zi s4 0)) rfl ?_
      exact gg_iret (pc := 54) hR dX6_type_54
    · refine gg_bipush (pc := 22) hC dX6_type_22 (x := -4) rfl ?_
      exact gg_iret (pc := 24) hR dX6_type_24
def fX6_wipe  (σ : zS) : Option (Int32 × zS) :=
    zv (zi σ 0) (fun (x1 : Int32) =>
    zv (wi σ 0 0) (fun (s2 : zS) =>
    zv (wi s2 4 1) (fun (s3 : zS) =>
    some (x1, s3))))
set_option maxHeartbeats 4000000 in
set_option maxRecDepth 100000 in
theorem mX6_wipe {l : Launch} {D : va_G} {A : Nat → Nat} {cA : Nat → ClassId}   {σ : zS} {r : Int32 × zS} (h : fX6_wipe  σ = some r) : zMI l D (wX A cA) yX6_wipe (zws yX6_wipe cX6_wipe 2 (some .int)) 0 0 [.ref (A 0)] σ r := by
  refine zm_I (lv := [(0, .ref (A 0))]) rfl (sX_ok A) (Nat.le_of_ble_eq_true rfl) rfl (fun C _ _ hC hR => ?_) h
  unfold fX6_wipe
  refine gg_aload_n (pc := 0) hC dX6_wipe_0 (i := 0) rfl 0 rfl ?_
  refine gg_get (pc := 1) hC dX6_wipe_1 fX6_54 0 pX_0 (v := .int (zi σ 0)) rfl ?_
  refine gg_zvi (fun x1 => ?_)
  refine gg_istore_n (pc := 4) hC dX6_wipe_4 (i := 1) rfl (Nat.le_of_ble_eq_true rfl) (lv' := [(1, .int x1), (0, .ref (A 0))]) rfl ?_
  refine gg_aload_n (pc := 5) hC dX6_wipe_5 (i := 0) rfl 1 rfl ?_
  refine gg_iconst (pc := 6) hC dX6_wipe_6 (x := 0) rfl ?_
  refine gg_put (pc := 7) hC dX6_wipe_7 fX6_54 tX6_2 0 pX_0 rfl rfl rfl (Nat.le_of_ble_eq_true rfl) sX_0_7 ?_
  refine gg_zvs (fun s2 => ?_)
  refine gg_aload_n (pc := 10) hC dX6_wipe_10 (i := 0) rfl 1 rfl ?_
  refine gg_iconst (pc := 11) hC dX6_wipe_11 (x := 1) rfl ?_
  refine gg_put (pc := 12) hC dX6_wipe_12 fX6_67 tX6_2 0 pX_0 rfl rfl rfl (Nat.le_of_ble_eq_true rfl) sX_0_11 ?_
  refine gg_zvs (fun s3 => ?_)
  refine gg_iload_n (pc := 15) hC dX6_wipe_15 (i := 1) rfl 0 rfl ?_
  exact gg_iret (pc := 16) hR dX6_wipe_16
def fX6_write_53 (k0 : Nat) : Nat → Int32 → Int32 → zS → Option (Int32 × zS)
  | 0, _, _, _ => none
  | n + 1, v3, v4, σ =>
    if 15 < v4 then (some (v3, σ)) else
    (if (zi σ (30 + k0)) < v4 then (some (v3, σ)) else
    (zy1 (if (zi σ 13) < v4 then (some 0) else
    (some 1)) (fun (x1 : Int32) =>
    zy1 (if x1 = 0 then (some 1) else
    (some 0)) (fun (x2 : Int32) =>
    zg (zq (v4 - 1) 40) (zv (wa σ (20 + k0) (v4 - 1).toNatClampNeg (vp_nar .boolean x2)) (fun (s3 : zS) =>
    zy2 (if x1 = 0 then (some (v3, s3)) else
    (zy2 (fX6_variance v4 0 s3) (fun x4 s5 =>
    zy2 (fX6_variance v4 1 s5) (fun x6 s7 =>
    zg (zn64 (FP.ddiv (FP.l2d x4) (FP.l2d x6))) (zg (zq (v4 - 1) 40) (zv (wd s7 (0 + k0) (v4 - 1).toNatClampNeg (FP.ddiv (FP.l2d x4) (FP.l2d x6))) (fun (s8 : zS) =>
    some (v3 + 1, s8)))))))) (fun (x9 : Int32) (s10 : zS) =>
    fX6_write_53 k0 n x9 (v4 + 1) s10)))))))
def fX6_write (v1 : Int32) (σ : zS) : Option (Int32 × zS) :=
    zy1 (fX6_isSheet v1 σ) (fun x1 =>
    if x1 = 0 then (some ((-2 : Int32), σ)) else
    (zg (zq v1 4) (zy1 (fX3_isLost v1.toNatClampNeg σ) (fun x3 =>
    if x3 = 0 then (if (zi σ (20 + v1.toNatClampNeg)) = 3 then (zy1 (fX6_renew σ) (fun s4 =>
    zy2 (fX6_write_53 v1.toNatClampNeg 500 0 1 s4) (fun (x5 : Int32) (s6 : zS) =>
    some (x5, s6)))) else
    (zy2 (fX6_finding 3 σ) (fun x7 s8 =>
    some (x7, s8)))) else
    (zy2 (fX6_finding 1 σ) (fun x9 s10 =>
    some (x9, s10)))))))
set_option maxHeartbeats 4000000 in
set_option maxRecDepth 100000 in
theorem lX6_write_53 {C : zK} {A : Nat → Nat} {cA : Nat → ClassId} (hC : zOK C (wX A cA) cX6_write RX6 6 8 171) {k0 : Nat} (hk0_ : k0 < 4) : ∀ (n : Nat) (v3 : Int32) (v4 : Int32) (σ : zS), zG C (wX A cA) 6 (fun q => zW C (wX A cA) 6 147 [(3, .int q.1)] [] q.2) (fX6_write_53 k0 n v3 v4 σ) 53 [(0, .ref (A 0)), (2, .ref (A (23 + k0))), (3, .int v3), (4, .int v4)] [] σ := by
  intro n
  induction n with
  | zero => intro v3 v4 σ; exact gg_none (o := none)
  | succ n ih =>
    intro v3 v4 σ
    rw [fX6_write_53]
    refine gg_iload (pc := 53) hC dX6_write_53 3 rfl ?_
    refine gg_bipush (pc := 55) hC dX6_write_55 (x := 15) rfl ?_
    refine gg_icmp_gt (pc := 57) hC dX6_write_57 (tgt := 147) rfl (fun _ => ?_) (fun _ => ?_)
    · exact gg_y (fun h => zW_lv [2] rfl h)
    · refine gg_iload (pc := 60) hC dX6_write_60 3 rfl ?_
      refine gg_aload_n (pc := 62) hC dX6_write_62 (i := 2) rfl 1 rfl ?_
      refine gg_get (pc := 63) hC dX6_write_63 fX6_272 (23 + k0) (pX_cS hk0_) (v := .int (zi σ (30 + k0))) rfl ?_
      refine gg_icmp_gt (pc := 66) hC dX6_write_66 (tgt := 147) rfl (fun _ => ?_) (fun _ => ?_)
      · exact gg_y (fun h => zW_lv [2] rfl h)
      · refine gg_iload (pc := 69) hC dX6_write_69 3 rfl ?_
        refine gg_aload_n (pc := 71) hC dX6_write_71 (i := 0) rfl 0 rfl ?_
        refine gg_get (pc := 72) hC dX6_write_72 fX6_40 0 pX_0 (v := .ref (A 5)) rfl ?_
        refine gg_get (pc := 75) hC dX6_write_75 fX6_242 5 pX_5 (v := .int (zi σ 13)) rfl ?_
        refine gg_join1 (E' := (fun q => zW C (wX A cA) 6 86 [(0, .ref (A 0)), (2, .ref (A (23 + k0))), (3, .int v3), (4, .int v4)] [.int q] σ)) ?_ (fun x1 => ?_)
        · refine gg_icmp_gt (pc := 78) hC dX6_write_78 (tgt := 85) rfl (fun _ => ?_) (fun _ => ?_)
          · refine gg_iconst (pc := 85) hC dX6_write_85 (x := 0) rfl ?_
            exact gg_y (fun h => zW_lv [0, 1, 2, 3] rfl h)
          · refine gg_iconst (pc := 81) hC dX6_write_81 (x := 1) rfl ?_
            refine gg_goto (pc := 82) hC dX6_write_82 (tgt := 86) rfl ?_
            exact gg_y (fun h => zW_lv [0, 1, 2, 3] rfl h)
        · show zG C (wX A cA) 6 _ _ 86 [(0, .ref (A 0)), (2, .ref (A (23 + k0))), (3, .int v3), (4, .int v4)] [.int x1] σ
          refine gg_istore (pc := 86) hC dX6_write_86 (Nat.le_of_ble_eq_true rfl) (lv' := [(5, .int x1), (0, .ref (A 0)), (2, .ref (A (23 + k0))), (3, .int v3), (4, .int v4)]) rfl ?_
          refine gg_aload_n (pc := 88) hC dX6_write_88 (i := 2) rfl 2 rfl ?_
          refine gg_get (pc := 89) hC dX6_write_89 fX6_282 (23 + k0) (pX_cS hk0_) (v := .ref (A (35 + k0))) rfl ?_
          refine gg_iload (pc := 92) hC dX6_write_92 4 rfl ?_
          refine gg_iconst (pc := 94) hC dX6_write_94 (x := 1) rfl ?_
          refine gg_isub (pc := 95) hC dX6_write_95 ?_
          refine gg_iload (pc := 96) hC dX6_write_96 0 rfl ?_
          refine gg_join1 (E' := (fun q => zW C (wX A cA) 6 106 [(0, .ref (A 0)), (2, .ref (A (23 + k0))), (3, .int v3), (4, .int v4), (5, .int x1)] [.int q, .int (v4 - 1), .ref (A (35 + k0))] σ)) ?_ (fun x2 => ?_)
          · refine gg_if_ne (pc := 98) hC dX6_write_98 (tgt := 105) rfl (fun _ => ?_) (fun _ => ?_)
            · refine gg_iconst (pc := 101) hC dX6_write_101 (x := 1) rfl ?_
              refine gg_goto (pc := 102) hC dX6_write_102 (tgt := 106) rfl ?_
              exact gg_y (fun h => zW_lv [1, 2, 3, 4, 0] rfl h)
            · refine gg_iconst (pc := 105) hC dX6_write_105 (x := 0) rfl ?_
              exact gg_y (fun h => zW_lv [1, 2, 3, 4, 0] rfl h)
          · show zG C (wX A cA) 6 _ _ 106 [(0, .ref (A 0)), (2, .ref (A (23 + k0))), (3, .int v3), (4, .int v4), (5, .int x1)] [.int x2, .int (v4 - 1), .ref (A (35 + k0))] σ
            refine gg_zast (pc := 106) hC dX6_write_106 (35 + k0) 2 (pX_cN hk0_) rfl (sX_cN hk0_) ?_
            refine gg_zvs (fun s3 => ?_)
            refine gg_iload (pc := 107) hC dX6_write_107 4 rfl ?_
            refine gg_join2 (E' := (fun q => zW C (wX A cA) 6 141 [(0, .ref (A 0)), (2, .ref (A (23 + k0))), (3, .int q.1), (4, .int v4)] [] q.2)) ?_ (fun x9 s10 => ?_)
            · refine gg_if_eq (pc := 109) hC dX6_write_109 (tgt := 141) rfl (fun _ => ?_) (fun _ => ?_)
              · exact gg_y (fun h => zW_lv [0, 1, 2, 3] rfl h)
              · refine gg_aload_n (pc := 112) hC dX6_write_112 (i := 2) rfl 1 rfl ?_
                refine gg_get (pc := 113) hC dX6_write_113 fX6_295 (23 + k0) (pX_cS hk0_) (v := .ref (A (31 + k0))) rfl ?_
                refine gg_iload (pc := 116) hC dX6_write_116 3 rfl ?_
                refine gg_iconst (pc := 118) hC dX6_write_118 (x := 1) rfl ?_
                refine gg_isub (pc := 119) hC dX6_write_119 ?_
                refine gg_aload_n (pc := 120) hC dX6_write_120 (i := 0) rfl 0 rfl ?_
                refine gg_iload (pc := 121) hC dX6_write_121 3 rfl ?_
                refine gg_iconst (pc := 123) hC dX6_write_123 (x := 0) rfl ?_
                refine gg_callVL (pc := 124) hC dX6_write_124 vX6_299 (fun _ h => mX6_variance h) (Nat.le_of_ble_eq_true rfl) (Nat.le_of_ble_eq_true rfl) (As := [.int v4, .int 0]) (rest := [.int (v4 - 1), .ref (A (31 + k0))]) rfl rfl (Nat.le_of_ble_eq_true rfl) 0 6 pX_0 rfl (fun x4 s5 => ?_)
                refine gg_l2d (pc := 127) hC dX6_write_127 ?_
                refine gg_aload_n (pc := 128) hC dX6_write_128 (i := 0) rfl 0 rfl ?_
                refine gg_iload (pc := 129) hC dX6_write_129 3 rfl ?_
                refine gg_iconst (pc := 131) hC dX6_write_131 (x := 1) rfl ?_
                refine gg_callVL (pc := 132) hC dX6_write_132 vX6_299 (fun _ h => mX6_variance h) (Nat.le_of_ble_eq_true rfl) (Nat.le_of_ble_eq_true rfl) (As := [.int v4, .int 1]) (rest := [.double (FP.l2d x4), .int (v4 - 1), .ref (A (31 + k0))]) rfl rfl (Nat.le_of_ble_eq_true rfl) 0 6 pX_0 rfl (fun x6 s7 => ?_)
                refine gg_l2d (pc := 135) hC dX6_write_135 ?_
                refine gg_ddiv (pc := 136) hC dX6_write_136 ?_
                refine gg_dast (pc := 137) hC dX6_write_137 (31 + k0) 3 (pX_cR hk0_) rfl (sX_cR hk0_) ?_
                refine gg_zvs (fun s8 => ?_)
                refine gg_iinc (pc := 138) hC dX6_write_138 (y := 0) (j := 2) rfl (z := 1) rfl (Nat.le_of_ble_eq_true rfl) (lv' := [(3, .int (v3 + 1)), (0, .ref (A 0)), (2, .ref (A (23 + k0))), (4, .int v4), (5, .int x1)]) rfl ?_
                exact gg_y (fun h => zW_lv [1, 2, 0, 3] rfl h)
            · show zG C (wX A cA) 6 _ _ 141 [(0, .ref (A 0)), (2, .ref (A (23 + k0))), (3, .int x9), (4, .int v4)] [] s10
              refine gg_iinc (pc := 141) hC dX6_write_141 (y := 0) (j := 3) rfl (z := 1) rfl (Nat.le_of_ble_eq_true rfl) (lv' := [(4, .int (v4 + 1)), (0, .ref (A 0)), (2, .ref (A (23 + k0))), (3, .int x9)]) rfl ?_
              refine gg_goto (pc := 144) hC dX6_write_144 (tgt := 53) rfl ?_
              exact gg_lv [1, 2, 3, 0] rfl (ih _ _ _)
set_option maxHeartbeats 4000000 in
set_option maxRecDepth 100000 in
theorem mX6_write {l : Launch} {D : va_G} {A : Nat → Nat} {cA : Nat → ClassId} {v1 : Int32}  {σ : zS} {r : Int32 × zS} (h : fX6_write v1 σ = some r) : zMI l D (wX A cA) yX6_write (zws yX6_write cX6_write 6 (some .int)) 8 171 [.ref (A 0), .int v1] σ r := by
  refine zm_I (lv := [(0, .ref (A 0)), (1, .int v1)]) rfl (sX_ok A) (Nat.le_of_ble_eq_true rfl) rfl (fun C _ _ hC hR => ?_) h
  unfold fX6_write
  refine gg_iload_n (pc := 0) hC dX6_write_0 (i := 1) rfl 1 rfl ?_
  refine gg_callSIr (pc := 1) hC dX6_write_1 cX6_254 (fun _ h => mX6_isSheet h) (Nat.le_of_ble_eq_true rfl) (Nat.le_of_ble_eq_true rfl) (As := [.int v1]) (rest := []) rfl rfl (Nat.le_of_ble_eq_true rfl) (fun x1 => ?_)
  refine gg_if_ne (pc := 4) hC dX6_write_4 (tgt := 10) rfl (fun _ => ?_) (fun _ => ?_)
  · refine gg_bipush (pc := 7) hC dX6_write_7 (x := -2) rfl ?_
    exact gg_iret (pc := 9) hR dX6_write_9
  · refine gg_aload_n (pc := 10) hC dX6_write_10 (i := 0) rfl 0 rfl ?_
    refine gg_get (pc := 11) hC dX6_write_11 fX6_46 0 pX_0 (v := .ref (A 6)) rfl ?_
    refine gg_iload_n (pc := 14) hC dX6_write_14 (i := 1) rfl 1 rfl ?_
    refine gg_sheets (pc := 15) hC dX6_write_15 (fun hk2 => ?_)
    refine gg_astore_n (pc := 16) hC dX6_write_16 (i := 2) rfl (Nat.le_of_ble_eq_true rfl) (lv' := [(2, .ref (A (23 + v1.toNatClampNeg))), (0, .ref (A 0)), (1, .int v1)]) rfl ?_
    refine gg_aload_n (pc := 17) hC dX6_write_17 (i := 2) rfl 0 rfl ?_
    refine gg_callVIr (pc := 18) hC dX6_write_18 vX6_266 (fun _ h => mX3_isLost hk2 h) (Nat.le_of_ble_eq_true rfl) (Nat.le_of_ble_eq_true rfl) (As := []) (rest := []) rfl rfl (Nat.le_of_ble_eq_true rfl) (23 + v1.toNatClampNeg) 3 (pX_cS hk2) rfl (fun x3 => ?_)
    refine gg_if_eq (pc := 21) hC dX6_write_21 (tgt := 30) rfl (fun _ => ?_) (fun _ => ?_)
    · refine gg_aload_n (pc := 30) hC dX6_write_30 (i := 2) rfl 0 rfl ?_
      refine gg_get (pc := 31) hC dX6_write_31 fX6_269 (23 + v1.toNatClampNeg) (pX_cS hk2) (v := .int (zi σ (20 + v1.toNatClampNeg))) rfl ?_
      refine gg_iconst (pc := 34) hC dX6_write_34 (x := 3) rfl ?_
      refine gg_icmp_eq (pc := 35) hC dX6_write_35 (tgt := 44) rfl (fun _ => ?_) (fun _ => ?_)
      · refine gg_aload_n (pc := 44) hC dX6_write_44 (i := 0) rfl 1 rfl ?_
        refine gg_callVV (pc := 45) hC dX6_write_45 vX6_162 (fun _ h => mX6_renew h) (Nat.le_of_ble_eq_true rfl) (Nat.le_of_ble_eq_true rfl) (As := []) (rest := []) rfl rfl (Nat.le_of_ble_eq_true rfl) 0 6 pX_0 rfl (fun s4 => ?_)
        refine gg_iconst (pc := 48) hC dX6_write_48 (x := 0) rfl ?_
        refine gg_istore_n (pc := 49) hC dX6_write_49 (i := 3) rfl (Nat.le_of_ble_eq_true rfl) (lv' := [(3, .int 0), (2, .ref (A (23 + v1.toNatClampNeg))), (0, .ref (A 0)), (1, .int v1)]) rfl ?_
        refine gg_iconst (pc := 50) hC dX6_write_50 (x := 1) rfl ?_
        refine gg_istore (pc := 51) hC dX6_write_51 (Nat.le_of_ble_eq_true rfl) (lv' := [(4, .int 1), (3, .int 0), (2, .ref (A (23 + v1.toNatClampNeg))), (0, .ref (A 0)), (1, .int v1)]) rfl ?_
        refine gg_join2 (E' := (fun q => zW C (wX A cA) 6 147 [(3, .int q.1)] [] q.2)) (gg_lv [3, 2, 1, 0] rfl (lX6_write_53 hC hk2 500 _ _ _)) (fun x5 s6 => ?_)
        show zG C (wX A cA) 6 _ _ 147 [(3, .int x5)] [] s6
        refine gg_iload_n (pc := 147) hC dX6_write_147 (i := 3) rfl 0 rfl ?_
        exact gg_iret (pc := 148) hR dX6_write_148
      · refine gg_aload_n (pc := 38) hC dX6_write_38 (i := 0) rfl 1 rfl ?_
        refine gg_iconst (pc := 39) hC dX6_write_39 (x := 3) rfl ?_
        refine gg_callVI (pc := 40) hC dX6_write_40 vX6_260 (fun _ h => mX6_finding h) (Nat.le_of_ble_eq_true rfl) (Nat.le_of_ble_eq_true rfl) (As := [.int 3]) (rest := []) rfl rfl (Nat.le_of_ble_eq_true rfl) 0 6 pX_0 rfl (fun x7 s8 => ?_)
        exact gg_iret (pc := 43) hR dX6_write_43
    · refine gg_aload_n (pc := 24) hC dX6_write_24 (i := 0) rfl 1 rfl ?_
      refine gg_iconst (pc := 25) hC dX6_write_25 (x := 1) rfl ?_
      refine gg_callVI (pc := 26) hC dX6_write_26 vX6_260 (fun _ h => mX6_finding h) (Nat.le_of_ble_eq_true rfl) (Nat.le_of_ble_eq_true rfl) (As := [.int 1]) (rest := []) rfl rfl (Nat.le_of_ble_eq_true rfl) 0 6 pX_0 rfl (fun x9 s10 => ?_)
      exact gg_iret (pc := 29) hR dX6_write_29

def fX2_sumOfPlaces_5 (v2 : Int32) (σ : zS) : Nat → Int64 → Int32 → Option (Int64)
  | 0, _, _ => none
  | n + 1, v3, v5 =>
    if v2 < v5 then (some v3) else
    (zg (zq v5 32) (zv (v3 + ((za σ 10 v5.toNatClampNeg).toInt64)) (fun (x1 : Int64) =>
    fX2_sumOfPlaces_5 v2 σ n x1 (v5 + 1))))
def fX2_sumOfPlaces (v1 : Int32) (v2 : Int32) (σ : zS) : Option (Int64) :=
    zy1 (fX2_sumOfPlaces_5 v2 σ 500 (0 : Int64) v1) (fun (x1 : Int64) =>
    some x1)
set_option maxHeartbeats 4000000 in
set_option maxRecDepth 100000 in
theorem lX2_sumOfPlaces_5 {C : zK} {A : Nat → Nat} {cA : Nat → ClassId} (hC : zOK C (wX A cA) cX2_sumOfPlaces RX2 6 0 0) {v2 : Int32} {σ : zS} : ∀ (n : Nat) (v3 : Int64) (v5 : Int32), zG C (wX A cA) 6 (fun q => zW C (wX A cA) 6 28 [(3, .long q)] [] σ) (fX2_sumOfPlaces_5 v2 σ n v3 v5) 5 [(0, .ref (A 4)), (2, .int v2), (3, .long v3), (5, .int v5)] [] σ := by
  intro n
  induction n with
  | zero => intro v3 v5; exact gg_none (o := none)
  | succ n ih =>
    intro v3 v5
    rw [fX2_sumOfPlaces_5]
    refine gg_iload (pc := 5) hC dX2_sumOfPlaces_5 3 rfl ?_
    refine gg_iload_n (pc := 7) hC dX2_sumOfPlaces_7 (i := 2) rfl 1 rfl ?_
    refine gg_icmp_gt (pc := 8) hC dX2_sumOfPlaces_8 (tgt := 28) rfl (fun _ => ?_) (fun _ => ?_)
    · exact gg_y (fun h => zW_lv [2] rfl h)
    · refine gg_lload_n (pc := 11) hC dX2_sumOfPlaces_11 (i := 3) rfl 2 rfl ?_
      refine gg_aload_n (pc := 12) hC dX2_sumOfPlaces_12 (i := 0) rfl 0 rfl ?_
      refine gg_get (pc := 13) hC dX2_sumOfPlaces_13 fX2_23 4 pX_4 (v := .ref (A 18)) rfl ?_
      refine gg_iload (pc := 16) hC dX2_sumOfPlaces_16 3 rfl ?_
      refine gg_iald (pc := 18) hC dX2_sumOfPlaces_18 18 0 pX_18 rfl ?_
      refine gg_i2l (pc := 19) hC dX2_sumOfPlaces_19 ?_
      refine gg_ladd (pc := 20) hC dX2_sumOfPlaces_20 ?_
      refine gg_zvl (fun x1 => ?_)
      refine gg_lstore_n (pc := 21) hC dX2_sumOfPlaces_21 (i := 3) rfl (Nat.le_of_ble_eq_true rfl) (lv' := [(3, .long x1), (0, .ref (A 4)), (2, .int v2), (5, .int v5)]) rfl ?_
      refine gg_iinc (pc := 22) hC dX2_sumOfPlaces_22 (y := 0) (j := 3) rfl (z := 1) rfl (Nat.le_of_ble_eq_true rfl) (lv' := [(5, .int (v5 + 1)), (3, .long x1), (0, .ref (A 4)), (2, .int v2)]) rfl ?_
      refine gg_goto (pc := 25) hC dX2_sumOfPlaces_25 (tgt := 5) rfl ?_
      exact gg_lv [2, 3, 1, 0] rfl (ih _ _)
set_option maxHeartbeats 4000000 in
set_option maxRecDepth 100000 in
theorem mX2_sumOfPlaces {l : Launch} {D : va_G} {A : Nat → Nat} {cA : Nat → ClassId} {v1 : Int32} {v2 : Int32}  {σ : zS} {r : Int64} (h : fX2_sumOfPlaces v1 v2 σ = some r) : zML l D (wX A cA) yX2_sumOfPlaces (zws yX2_sumOfPlaces cX2_sumOfPlaces 6 (some .long)) 0 0 [.ref (A 4), .int v1, .int v2] σ (r, σ) := by
  refine zm_Lr (lv := [(0, .ref (A 4)), (1, .int v1), (2, .int v2)]) rfl (sX_ok A) (Nat.le_of_ble_eq_true rfl) rfl (fun C _ _ hC hR => ?_) h
  unfold fX2_sumOfPlaces
  refine gg_lconst (pc := 0) hC dX2_sumOfPlaces_0 (x := 0) rfl ?_
  refine gg_lstore_n (pc := 1) hC dX2_sumOfPlaces_1 (i := 3) rfl (Nat.le_of_ble_eq_true rfl) (lv' := [(3, .long (0 : Int64)), (0, .ref (A 4)), (1, .int v1), (2, .int v2)]) rfl ?_
  refine gg_iload_n (pc := 2) hC dX2_sumOfPlaces_2 (i := 1) rfl 2 rfl ?_
  refine gg_istore (pc := 3) hC dX2_sumOfPlaces_3 (Nat.le_of_ble_eq_true rfl) (lv' := [(5, .int v1), (3, .long (0 : Int64)), (0, .ref (A 4)), (1, .int v1), (2, .int v2)]) rfl ?_
  refine gg_join1 (E' := (fun q => zW C (wX A cA) 6 28 [(3, .long q)] [] σ)) (gg_lv [2, 4, 1, 0] rfl (lX2_sumOfPlaces_5 hC  500 _ _)) (fun x1 => ?_)
  show zG C (wX A cA) 6 _ _ 28 [(3, .long x1)] [] σ
  refine gg_lload_n (pc := 28) hC dX2_sumOfPlaces_28 (i := 3) rfl 0 rfl ?_
  exact gg_lretr (pc := 29) hR dX2_sumOfPlaces_29
def fX2_sumOfStamps_5 (v2 : Int32) (σ : zS) : Nat → Int64 → Int32 → Option (Int64)
  | 0, _, _ => none
  | n + 1, v3, v5 =>
    if v2 < v5 then (some v3) else
    (zg (zq v5 32) (zv (v3 + (zj σ 0 v5.toNatClampNeg)) (fun (x1 : Int64) =>
    fX2_sumOfStamps_5 v2 σ n x1 (v5 + 1))))
def fX2_sumOfStamps (v1 : Int32) (v2 : Int32) (σ : zS) : Option (Int64) :=
    zy1 (fX2_sumOfStamps_5 v2 σ 500 (0 : Int64) v1) (fun (x1 : Int64) =>
    some x1)
set_option maxHeartbeats 4000000 in
set_option maxRecDepth 100000 in
theorem lX2_sumOfStamps_5 {C : zK} {A : Nat → Nat} {cA : Nat → ClassId} (hC : zOK C (wX A cA) cX2_sumOfStamps RX2 6 0 0) {v2 : Int32} {σ : zS} : ∀ (n : Nat) (v3 : Int64) (v5 : Int32), zG C (wX A cA) 6 (fun q => zW C (wX A cA) 6 27 [(3, .long q)] [] σ) (fX2_sumOfStamps_5 v2 σ n v3 v5) 5 [(0, .ref (A 4)), (2, .int v2), (3, .long v3), (5, .int v5)] [] σ := by
  intro n
  induction n with
  | zero => intro v3 v5; exact gg_none (o := none)
  | succ n ih =>
    intro v3 v5
    rw [fX2_sumOfStamps_5]
    refine gg_iload (pc := 5) hC dX2_sumOfStamps_5 3 rfl ?_
    refine gg_iload_n (pc := 7) hC dX2_sumOfStamps_7 (i := 2) rfl 1 rfl ?_
    refine gg_icmp_gt (pc := 8) hC dX2_sumOfStamps_8 (tgt := 27) rfl (fun _ => ?_) (fun _ => ?_)
    · exact gg_y (fun h => zW_lv [2] rfl h)
    · refine gg_lload_n (pc := 11) hC dX2_sumOfStamps_11 (i := 3) rfl 2 rfl ?_
      refine gg_aload_n (pc := 12) hC dX2_sumOfStamps_12 (i := 0) rfl 0 rfl ?_
      refine gg_get (pc := 13) hC dX2_sumOfStamps_13 fX2_9 4 pX_4 (v := .ref (A 15)) rfl ?_
      refine gg_iload (pc := 16) hC dX2_sumOfStamps_16 3 rfl ?_
      refine gg_lald (pc := 18) hC dX2_sumOfStamps_18 15 1 pX_15 rfl ?_
      refine gg_ladd (pc := 19) hC dX2_sumOfStamps_19 ?_
      refine gg_zvl (fun x1 => ?_)
      refine gg_lstore_n (pc := 20) hC dX2_sumOfStamps_20 (i := 3) rfl (Nat.le_of_ble_eq_true rfl) (lv' := [(3, .long x1), (0, .ref (A 4)), (2, .int v2), (5, .int v5)]) rfl ?_
      refine gg_iinc (pc := 21) hC dX2_sumOfStamps_21 (y := 0) (j := 3) rfl (z := 1) rfl (Nat.le_of_ble_eq_true rfl) (lv' := [(5, .int (v5 + 1)), (3, .long x1), (0, .ref (A 4)), (2, .int v2)]) rfl ?_
      refine gg_goto (pc := 24) hC dX2_sumOfStamps_24 (tgt := 5) rfl ?_
      exact gg_lv [2, 3, 1, 0] rfl (ih _ _)
set_option maxHeartbeats 4000000 in
set_option maxRecDepth 100000 in
theorem mX2_sumOfStamps {l : Launch} {D : va_G} {A : Nat → Nat} {cA : Nat → ClassId} {v1 : Int32} {v2 : Int32}  {σ : zS} {r : Int64} (h : fX2_sumOfStamps v1 v2 σ = some r) : zML l D (wX A cA) yX2_sumOfStamps (zws yX2_sumOfStamps cX2_sumOfStamps 6 (some .long)) 0 0 [.ref (A 4), .int v1, .int v2] σ (r, σ) := by
  refine zm_Lr (lv := [(0, .ref (A 4)), (1, .int v1), (2, .int v2)]) rfl (sX_ok A) (Nat.le_of_ble_eq_true rfl) rfl (fun C _ _ hC hR => ?_) h
  unfold fX2_sumOfStamps
  refine gg_lconst (pc := 0) hC dX2_sumOfStamps_0 (x := 0) rfl ?_
  refine gg_lstore_n (pc := 1) hC dX2_sumOfStamps_1 (i := 3) rfl (Nat.le_of_ble_eq_true rfl) (lv' := [(3, .long (0 : Int64)), (0, .ref (A 4)), (1, .int v1), (2, .int v2)]) rfl ?_
  refine gg_iload_n (pc := 2) hC dX2_sumOfStamps_2 (i := 1) rfl 2 rfl ?_
  refine gg_istore (pc := 3) hC dX2_sumOfStamps_3 (Nat.le_of_ble_eq_true rfl) (lv' := [(5, .int v1), (3, .long (0 : Int64)), (0, .ref (A 4)), (1, .int v1), (2, .int v2)]) rfl ?_
  refine gg_join1 (E' := (fun q => zW C (wX A cA) 6 27 [(3, .long q)] [] σ)) (gg_lv [2, 4, 1, 0] rfl (lX2_sumOfStamps_5 hC  500 _ _)) (fun x1 => ?_)
  show zG C (wX A cA) 6 _ _ 27 [(3, .long x1)] [] σ
  refine gg_lload_n (pc := 27) hC dX2_sumOfStamps_27 (i := 3) rfl 0 rfl ?_
  exact gg_lretr (pc := 28) hR dX2_sumOfStamps_28
def fX2_fitAbove_5 (v1 : Int32) (v2 : Int32) (σ : zS) : Nat → Int64 → Int32 → Option (Int64)
  | 0, _, _ => none
  | n + 1, v3, v5 =>
    if v2 < v5 then (some v3) else
    (zg (zq v5 32) (zg (zq v5 32) (zv (v3 + (((za σ 10 v5.toNatClampNeg).toInt64) * (zj σ 0 v5.toNatClampNeg))) (fun (x1 : Int64) =>
    fX2_fitAbove_5 v1 v2 σ n x1 (v5 + 1)))))
def fX2_fitAbove (v1 : Int32) (v2 : Int32) (σ : zS) : Option (Int64) :=
    zy1 (fX2_fitAbove_5 v1 v2 σ 500 (0 : Int64) v1) (fun (x1 : Int64) =>
    zy1 (fX2_sumOfPlaces v1 v2 σ) (fun x2 =>
    zy1 (fX2_sumOfStamps v1 v2 σ) (fun x3 =>
    some (((((v2 - v1) + 1).toInt64) * x1) - (x2 * x3)))))
set_option maxHeartbeats 4000000 in
set_option maxRecDepth 100000 in
theorem lX2_fitAbove_5 {C : zK} {A : Nat → Nat} {cA : Nat → ClassId} (hC : zOK C (wX A cA) cX2_fitAbove RX2 6 1 25) {v1 : Int32} {v2 : Int32} {σ : zS} : ∀ (n : Nat) (v3 : Int64) (v5 : Int32), zG C (wX A cA) 6 (fun q => zW C (wX A cA) 6 36 [(0, .ref (A 4)), (1, .int v1), (2, .int v2), (3, .long q)] [] σ) (fX2_fitAbove_5 v1 v2 σ n v3 v5) 5 [(0, .ref (A 4)), (1, .int v1), (2, .int v2), (3, .long v3), (5, .int v5)] [] σ := by
  intro n
  induction n with
  | zero => intro v3 v5; exact gg_none (o := none)
  | succ n ih =>
    intro v3 v5
    rw [fX2_fitAbove_5]
    refine gg_iload (pc := 5) hC dX2_fitAbove_5 4 rfl ?_
    refine gg_iload_n (pc := 7) hC dX2_fitAbove_7 (i := 2) rfl 2 rfl ?_
    refine gg_icmp_gt (pc := 8) hC dX2_fitAbove_8 (tgt := 36) rfl (fun _ => ?_) (fun _ => ?_)
    · exact gg_y (fun h => zW_lv [0, 1, 2, 3] rfl h)
    · refine gg_lload_n (pc := 11) hC dX2_fitAbove_11 (i := 3) rfl 3 rfl ?_
      refine gg_aload_n (pc := 12) hC dX2_fitAbove_12 (i := 0) rfl 0 rfl ?_
      refine gg_get (pc := 13) hC dX2_fitAbove_13 fX2_23 4 pX_4 (v := .ref (A 18)) rfl ?_
      refine gg_iload (pc := 16) hC dX2_fitAbove_16 4 rfl ?_
      refine gg_iald (pc := 18) hC dX2_fitAbove_18 18 0 pX_18 rfl ?_
      refine gg_i2l (pc := 19) hC dX2_fitAbove_19 ?_
      refine gg_aload_n (pc := 20) hC dX2_fitAbove_20 (i := 0) rfl 0 rfl ?_
      refine gg_get (pc := 21) hC dX2_fitAbove_21 fX2_9 4 pX_4 (v := .ref (A 15)) rfl ?_
      refine gg_iload (pc := 24) hC dX2_fitAbove_24 4 rfl ?_
      refine gg_lald (pc := 26) hC dX2_fitAbove_26 15 1 pX_15 rfl ?_
      refine gg_lmul (pc := 27) hC dX2_fitAbove_27 ?_
      refine gg_ladd (pc := 28) hC dX2_fitAbove_28 ?_
      refine gg_zvl (fun x1 => ?_)
      refine gg_lstore_n (pc := 29) hC dX2_fitAbove_29 (i := 3) rfl (Nat.le_of_ble_eq_true rfl) (lv' := [(3, .long x1), (0, .ref (A 4)), (1, .int v1), (2, .int v2), (5, .int v5)]) rfl ?_
      refine gg_iinc (pc := 30) hC dX2_fitAbove_30 (y := 0) (j := 4) rfl (z := 1) rfl (Nat.le_of_ble_eq_true rfl) (lv' := [(5, .int (v5 + 1)), (3, .long x1), (0, .ref (A 4)), (1, .int v1), (2, .int v2)]) rfl ?_
      refine gg_goto (pc := 33) hC dX2_fitAbove_33 (tgt := 5) rfl ?_
      exact gg_lv [2, 3, 4, 1, 0] rfl (ih _ _)
set_option maxHeartbeats 4000000 in
set_option maxRecDepth 100000 in
theorem mX2_fitAbove {l : Launch} {D : va_G} {A : Nat → Nat} {cA : Nat → ClassId} {v1 : Int32} {v2 : Int32}  {σ : zS} {r : Int64} (h : fX2_fitAbove v1 v2 σ = some r) : zML l D (wX A cA) yX2_fitAbove (zws yX2_fitAbove cX2_fitAbove 6 (some .long)) 1 25 [.ref (A 4), .int v1, .int v2] σ (r, σ) := by
  refine zm_Lr (lv := [(0, .ref (A 4)), (1, .int v1), (2, .int v2)]) rfl (sX_ok A) (Nat.le_of_ble_eq_true rfl) rfl (fun C _ _ hC hR => ?_) h
  unfold fX2_fitAbove
  refine gg_lconst (pc := 0) hC dX2_fitAbove_0 (x := 0) rfl ?_
  refine gg_lstore_n (pc := 1) hC dX2_fitAbove_1 (i := 3) rfl (Nat.le_of_ble_eq_true rfl) (lv' := [(3, .long (0 : Int64)), (0, .ref (A 4)), (1, .int v1), (2, .int v2)]) rfl ?_
  refine gg_iload_n (pc := 2) hC dX2_fitAbove_2 (i := 1) rfl 2 rfl ?_
  refine gg_istore (pc := 3) hC dX2_fitAbove_3 (Nat.le_of_ble_eq_true rfl) (lv' := [(5, .int v1), (3, .long (0 : Int64)), (0, .ref (A 4)), (1, .int v1), (2, .int v2)]) rfl ?_
  refine gg_join1 (E' := (fun q => zW C (wX A cA) 6 36 [(0, .ref (A 4)), (1, .int v1), (2, .int v2), (3, .long q)] [] σ)) (gg_lv [2, 3, 4, 1, 0] rfl (lX2_fitAbove_5 hC  500 _ _)) (fun x1 => ?_)
  show zG C (wX A cA) 6 _ _ 36 [(0, .ref (A 4)), (1, .int v1), (2, .int v2), (3, .long x1)] [] σ
  refine gg_iload_n (pc := 36) hC dX2_fitAbove_36 (i := 2) rfl 2 rfl ?_
  refine gg_iload_n (pc := 37) hC dX2_fitAbove_37 (i := 1) rfl 1 rfl ?_
  refine gg_isub (pc := 38) hC dX2_fitAbove_38 ?_
  refine gg_iconst (pc := 39) hC dX2_fitAbove_39 (x := 1) rfl ?_
  refine gg_iadd (pc := 40) hC dX2_fitAbove_40 ?_
  refine gg_i2l (pc := 41) hC dX2_fitAbove_41 ?_
  refine gg_lload_n (pc := 42) hC dX2_fitAbove_42 (i := 3) rfl 3 rfl ?_
  refine gg_lmul (pc := 43) hC dX2_fitAbove_43 ?_
  refine gg_aload_n (pc := 44) hC dX2_fitAbove_44 (i := 0) rfl 0 rfl ?_
  refine gg_iload_n (pc := 45) hC dX2_fitAbove_45 (i := 1) rfl 1 rfl ?_
  refine gg_iload_n (pc := 46) hC dX2_fitAbove_46 (i := 2) rfl 2 rfl ?_
  refine gg_callVLr (pc := 47) hC dX2_fitAbove_47 vX2_108 (fun _ h => mX2_sumOfPlaces h) (Nat.le_of_ble_eq_true rfl) (Nat.le_of_ble_eq_true rfl) (As := [.int v1, .int v2]) (rest := [.long ((((v2 - v1) + 1).toInt64) * x1)]) rfl rfl (Nat.le_of_ble_eq_true rfl) 4 2 pX_4 rfl (fun x2 => ?_)
  refine gg_aload_n (pc := 50) hC dX2_fitAbove_50 (i := 0) rfl 0 rfl ?_
  refine gg_iload_n (pc := 51) hC dX2_fitAbove_51 (i := 1) rfl 1 rfl ?_
  refine gg_iload_n (pc := 52) hC dX2_fitAbove_52 (i := 2) rfl 2 rfl ?_
  refine gg_callVLr (pc := 53) hC dX2_fitAbove_53 vX2_112 (fun _ h => mX2_sumOfStamps h) (Nat.le_of_ble_eq_true rfl) (Nat.le_of_ble_eq_true rfl) (As := [.int v1, .int v2]) (rest := [.long x2, .long ((((v2 - v1) + 1).toInt64) * x1)]) rfl rfl (Nat.le_of_ble_eq_true rfl) 4 2 pX_4 rfl (fun x3 => ?_)
  refine gg_lmul (pc := 56) hC dX2_fitAbove_56 ?_
  refine gg_lsub (pc := 57) hC dX2_fitAbove_57 ?_
  exact gg_lretr (pc := 58) hR dX2_fitAbove_58
def fX2_fitBelow_5 (v1 : Int32) (v2 : Int32) (σ : zS) : Nat → Int64 → Int32 → Option (Int64)
  | 0, _, _ => none
  | n + 1, v3, v5 =>
    if v2 < v5 then (some v3) else
    (zg (zq v5 32) (zg (zq v5 32) (zv (v3 + (((za σ 10 v5.toNatClampNeg).toInt64) * ((za σ 10 v5.toNatClampNeg).toInt64))) (fun (x1 : Int64) =>
    fX2_fitBelow_5 v1 v2 σ n x1 (v5 + 1)))))
def fX2_fitBelow (v1 : Int32) (v2 : Int32) (σ : zS) : Option (Int64) :=
    zy1 (fX2_fitBelow_5 v1 v2 σ 500 (0 : Int64) v1) (fun (x1 : Int64) =>
    zy1 (fX2_sumOfPlaces v1 v2 σ) (fun x2 =>
    some (((((v2 - v1) + 1).toInt64) * x1) - (x2 * x2))))
set_option maxHeartbeats 4000000 in
set_option maxRecDepth 100000 in
theorem lX2_fitBelow_5 {C : zK} {A : Nat → Nat} {cA : Nat → ClassId} (hC : zOK C (wX A cA) cX2_fitBelow RX2 7 1 25) {v1 : Int32} {v2 : Int32} {σ : zS} : ∀ (n : Nat) (v3 : Int64) (v5 : Int32), zG C (wX A cA) 7 (fun q => zW C (wX A cA) 7 37 [(0, .ref (A 4)), (1, .int v1), (2, .int v2), (3, .long q)] [] σ) (fX2_fitBelow_5 v1 v2 σ n v3 v5) 5 [(0, .ref (A 4)), (1, .int v1), (2, .int v2), (3, .long v3), (5, .int v5)] [] σ := by
  intro n
  induction n with
  | zero => intro v3 v5; exact gg_none (o := none)
  | succ n ih =>
    intro v3 v5
    rw [fX2_fitBelow_5]
    refine gg_iload (pc := 5) hC dX2_fitBelow_5 4 rfl ?_
    refine gg_iload_n (pc := 7) hC dX2_fitBelow_7 (i := 2) rfl 2 rfl ?_
    refine gg_icmp_gt (pc := 8) hC dX2_fitBelow_8 (tgt := 37) rfl (fun _ => ?_) (fun _ => ?_)
    · exact gg_y (fun h => zW_lv [0, 1, 2, 3] rfl h)
    · refine gg_lload_n (pc := 11) hC dX2_fitBelow_11 (i := 3) rfl 3 rfl ?_
      refine gg_aload_n (pc := 12) hC dX2_fitBelow_12 (i := 0) rfl 0 rfl ?_
      refine gg_get (pc := 13) hC dX2_fitBelow_13 fX2_23 4 pX_4 (v := .ref (A 18)) rfl ?_
      refine gg_iload (pc := 16) hC dX2_fitBelow_16 4 rfl ?_
      refine gg_iald (pc := 18) hC dX2_fitBelow_18 18 0 pX_18 rfl ?_
      refine gg_i2l (pc := 19) hC dX2_fitBelow_19 ?_
      refine gg_aload_n (pc := 20) hC dX2_fitBelow_20 (i := 0) rfl 0 rfl ?_
      refine gg_get (pc := 21) hC dX2_fitBelow_21 fX2_23 4 pX_4 (v := .ref (A 18)) rfl ?_
      refine gg_iload (pc := 24) hC dX2_fitBelow_24 4 rfl ?_
      refine gg_iald (pc := 26) hC dX2_fitBelow_26 18 0 pX_18 rfl ?_
      refine gg_i2l (pc := 27) hC dX2_fitBelow_27 ?_
      refine gg_lmul (pc := 28) hC dX2_fitBelow_28 ?_
      refine gg_ladd (pc := 29) hC dX2_fitBelow_29 ?_
      refine gg_zvl (fun x1 => ?_)
      refine gg_lstore_n (pc := 30) hC dX2_fitBelow_30 (i := 3) rfl (Nat.le_of_ble_eq_true rfl) (lv' := [(3, .long x1), (0, .ref (A 4)), (1, .int v1), (2, .int v2), (5, .int v5)]) rfl ?_
      refine gg_iinc (pc := 31) hC dX2_fitBelow_31 (y := 0) (j := 4) rfl (z := 1) rfl (Nat.le_of_ble_eq_true rfl) (lv' := [(5, .int (v5 + 1)), (3, .long x1), (0, .ref (A 4)), (1, .int v1), (2, .int v2)]) rfl ?_
      refine gg_goto (pc := 34) hC dX2_fitBelow_34 (tgt := 5) rfl ?_
      exact gg_lv [2, 3, 4, 1, 0] rfl (ih _ _)
set_option maxHeartbeats 4000000 in
set_option maxRecDepth 100000 in
theorem mX2_fitBelow {l : Launch} {D : va_G} {A : Nat → Nat} {cA : Nat → ClassId} {v1 : Int32} {v2 : Int32}  {σ : zS} {r : Int64} (h : fX2_fitBelow v1 v2 σ = some r) : zML l D (wX A cA) yX2_fitBelow (zws yX2_fitBelow cX2_fitBelow 7 (some .long)) 1 25 [.ref (A 4), .int v1, .int v2] σ (r, σ) := by
  refine zm_Lr (lv := [(0, .ref (A 4)), (1, .int v1), (2, .int v2)]) rfl (sX_ok A) (Nat.le_of_ble_eq_true rfl) rfl (fun C _ _ hC hR => ?_) h
  unfold fX2_fitBelow
  refine gg_lconst (pc := 0) hC dX2_fitBelow_0 (x := 0) rfl ?_
  refine gg_lstore_n (pc := 1) hC dX2_fitBelow_1 (i := 3) rfl (Nat.le_of_ble_eq_true rfl) (lv' := [(3, .long (0 : Int64)), (0, .ref (A 4)), (1, .int v1), (2, .int v2)]) rfl ?_
  refine gg_iload_n (pc := 2) hC dX2_fitBelow_2 (i := 1) rfl 2 rfl ?_
  refine gg_istore (pc := 3) hC dX2_fitBelow_3 (Nat.le_of_ble_eq_true rfl) (lv' := [(5, .int v1), (3, .long (0 : Int64)), (0, .ref (A 4)), (1, .int v1), (2, .int v2)]) rfl ?_
  refine gg_join1 (E' := (fun q => zW C (wX A cA) 7 37 [(0, .ref (A 4)), (1, .int v1), (2, .int v2), (3, .long q)] [] σ)) (gg_lv [2, 3, 4, 1, 0] rfl (lX2_fitBelow_5 hC  500 _ _)) (fun x1 => ?_)
  show zG C (wX A cA) 7 _ _ 37 [(0, .ref (A 4)), (1, .int v1), (2, .int v2), (3, .long x1)] [] σ
  refine gg_aload_n (pc := 37) hC dX2_fitBelow_37 (i := 0) rfl 0 rfl ?_
  refine gg_iload_n (pc := 38) hC dX2_fitBelow_38 (i := 1) rfl 1 rfl ?_
  refine gg_iload_n (pc := 39) hC dX2_fitBelow_39 (i := 2) rfl 2 rfl ?_
  refine gg_callVLr (pc := 40) hC dX2_fitBelow_40 vX2_108 (fun _ h => mX2_sumOfPlaces h) (Nat.le_of_ble_eq_true rfl) (Nat.le_of_ble_eq_true rfl) (As := [.int v1, .int v2]) (rest := []) rfl rfl (Nat.le_of_ble_eq_true rfl) 4 2 pX_4 rfl (fun x2 => ?_)
  refine gg_lstore (pc := 43) hC dX2_fitBelow_43 (Nat.le_of_ble_eq_true rfl) (lv' := [(5, .long x2), (0, .ref (A 4)), (1, .int v1), (2, .int v2), (3, .long x1)]) rfl ?_
  refine gg_iload_n (pc := 45) hC dX2_fitBelow_45 (i := 2) rfl 3 rfl ?_
  refine gg_iload_n (pc := 46) hC dX2_fitBelow_46 (i := 1) rfl 2 rfl ?_
  refine gg_isub (pc := 47) hC dX2_fitBelow_47 ?_
  refine gg_iconst (pc := 48) hC dX2_fitBelow_48 (x := 1) rfl ?_
  refine gg_iadd (pc := 49) hC dX2_fitBelow_49 ?_
  refine gg_i2l (pc := 50) hC dX2_fitBelow_50 ?_
  refine gg_lload_n (pc := 51) hC dX2_fitBelow_51 (i := 3) rfl 4 rfl ?_
  refine gg_lmul (pc := 52) hC dX2_fitBelow_52 ?_
  refine gg_lload (pc := 53) hC dX2_fitBelow_53 0 rfl ?_
  refine gg_lload (pc := 55) hC dX2_fitBelow_55 0 rfl ?_
  refine gg_lmul (pc := 57) hC dX2_fitBelow_57 ?_
  refine gg_lsub (pc := 58) hC dX2_fitBelow_58 ?_
  exact gg_lretr (pc := 59) hR dX2_fitBelow_59
def fX2_farthest_50 (v2 : Int32) (v3 : Int64) (v5 : Int64) (v7 : Int64) (v9 : Int64) (v11 : Int64) (σ : zS) : Nat → Int32 → Int64 → Int32 → Option (Int32)
  | 0, _, _, _ => none
  | n + 1, v13, v14, v16 =>
    if v2 < v16 then (some v13) else
    (zg (zq v16 32) (zv (v5 * ((v3 * ((za σ 10 v16.toNatClampNeg).toInt64)) - v9)) (fun (x1 : Int64) =>
    zg (zq v16 32) (zv (if 0 < ((v7 * ((v3 * (zj σ 0 v16.toNatClampNeg)) - v11)) - x1) then ((v7 * ((v3 * (zj σ 0 v16.toNatClampNeg)) - v11)) - x1) else -((v7 * ((v3 * (zj σ 0 v16.toNatClampNeg)) - v11)) - x1)) (fun (x2 : Int64) =>
    zy2 (if x2 ≤ v14 then (some (v13, v14)) else
    (some (v16, x2))) (fun (x3 : Int32) (x4 : Int64) =>
    fX2_farthest_50 v2 v3 v5 v7 v9 v11 σ n x3 x4 (v16 + 1)))))))
def fX2_farthest (v1 : Int32) (v2 : Int32) (σ : zS) : Option (Int32) :=
    zv (((v2 - v1) + 1).toInt64) (fun (x1 : Int64) =>
    zy1 (fX2_fitAbove v1 v2 σ) (fun x2 =>
    zy1 (fX2_fitBelow v1 v2 σ) (fun x3 =>
    zy1 (fX2_sumOfPlaces v1 v2 σ) (fun x4 =>
    zy1 (fX2_sumOfStamps v1 v2 σ) (fun x5 =>
    zy1 (fX2_farthest_50 v2 x1 x2 x3 x4 x5 σ 500 v1 (-1 : Int64) v1) (fun (x6 : Int32) =>
    some x6))))))
set_option maxHeartbeats 4000000 in
set_option maxRecDepth 100000 in
theorem lX2_farthest_50 {C : zK} {A : Nat → Nat} {cA : Nat → ClassId} (hC : zOK C (wX A cA) cX2_farthest RX2 21 2 51) {v2 : Int32} {v3 : Int64} {v5 : Int64} {v7 : Int64} {v9 : Int64} {v11 : Int64} {σ : zS} : ∀ (n : Nat) (v13 : Int32) (v14 : Int64) (v16 : Int32), zG C (wX A cA) 21 (fun q => zW C (wX A cA) 21 119 [(13, .int q)] [] σ) (fX2_farthest_50 v2 v3 v5 v7 v9 v11 σ n v13 v14 v16) 50 [(0, .ref (A 4)), (2, .int v2), (3, .long v3), (5, .long v5), (7, .long v7), (9, .long v9), (11, .long v11), (13, .int v13), (14, .long v14), (16, .int v16)] [] σ := by
  intro n
  induction n with
  | zero => intro v13 v14 v16; exact gg_none (o := none)
  | succ n ih =>
    intro v13 v14 v16
    rw [fX2_farthest_50]
    refine gg_iload (pc := 50) hC dX2_farthest_50 9 rfl ?_
    refine gg_iload_n (pc := 52) hC dX2_farthest_52 (i := 2) rfl 1 rfl ?_
    refine gg_icmp_gt (pc := 53) hC dX2_farthest_53 (tgt := 119) rfl (fun _ => ?_) (fun _ => ?_)
    · exact gg_y (fun h => zW_lv [7] rfl h)
    · refine gg_lload (pc := 56) hC dX2_farthest_56 3 rfl ?_
      refine gg_lload_n (pc := 58) hC dX2_farthest_58 (i := 3) rfl 2 rfl ?_
      refine gg_aload_n (pc := 59) hC dX2_farthest_59 (i := 0) rfl 0 rfl ?_
      refine gg_get (pc := 60) hC dX2_farthest_60 fX2_23 4 pX_4 (v := .ref (A 18)) rfl ?_
      refine gg_iload (pc := 63) hC dX2_farthest_63 9 rfl ?_
      refine gg_iald (pc := 65) hC dX2_farthest_65 18 0 pX_18 rfl ?_
      refine gg_i2l (pc := 66) hC dX2_farthest_66 ?_
      refine gg_lmul (pc := 67) hC dX2_farthest_67 ?_
      refine gg_lload (pc := 68) hC dX2_farthest_68 5 rfl ?_
      refine gg_lsub (pc := 70) hC dX2_farthest_70 ?_
      refine gg_lmul (pc := 71) hC dX2_farthest_71 ?_
      refine gg_zvl (fun x1 => ?_)
      refine gg_lstore (pc := 72) hC dX2_farthest_72 (Nat.le_of_ble_eq_true rfl) (lv' := [(17, .long x1), (0, .ref (A 4)), (2, .int v2), (3, .long v3), (5, .long v5), (7, .long v7), (9, .long v9), (11, .long v11), (13, .int v13), (14, .long v14), (16, .int v16)]) rfl ?_
      refine gg_lload (pc := 74) hC dX2_farthest_74 5 rfl ?_
      refine gg_lload_n (pc := 76) hC dX2_farthest_76 (i := 3) rfl 3 rfl ?_
      refine gg_aload_n (pc := 77) hC dX2_farthest_77 (i := 0) rfl 1 rfl ?_
      refine gg_get (pc := 78) hC dX2_farthest_78 fX2_9 4 pX_4 (v := .ref (A 15)) rfl ?_
      refine gg_iload (pc := 81) hC dX2_farthest_81 10 rfl ?_
      refine gg_lald (pc := 83) hC dX2_farthest_83 15 1 pX_15 rfl ?_
      refine gg_lmul (pc := 84) hC dX2_farthest_84 ?_
      refine gg_lload (pc := 85) hC dX2_farthest_85 7 rfl ?_
      refine gg_lsub (pc := 87) hC dX2_farthest_87 ?_
      refine gg_lmul (pc := 88) hC dX2_farthest_88 ?_
      refine gg_lload (pc := 89) hC dX2_farthest_89 0 rfl ?_
      refine gg_lsub (pc := 91) hC dX2_farthest_91 ?_
      refine gg_mabsl (pc := 92) hC dX2_farthest_92 aX2_123 (Nat.le_of_ble_eq_true rfl) (Nat.le_of_ble_eq_true rfl) ?_
      refine gg_zvl (fun x2 => ?_)
      refine gg_lstore (pc := 95) hC dX2_farthest_95 (Nat.le_of_ble_eq_true rfl) (lv' := [(19, .long x2), (17, .long x1), (0, .ref (A 4)), (2, .int v2), (3, .long v3), (5, .long v5), (7, .long v7), (9, .long v9), (11, .long v11), (13, .int v13), (14, .long v14), (16, .int v16)]) rfl ?_
      refine gg_lload (pc := 97) hC dX2_farthest_97 0 rfl ?_
      refine gg_lload (pc := 99) hC dX2_farthest_99 10 rfl ?_
      refine gg_join2 (E' := (fun q => zW C (wX A cA) 21 113 [(0, .ref (A 4)), (2, .int v2), (3, .long v3), (5, .long v5), (7, .long v7), (9, .long v9), (11, .long v11), (13, .int q.1), (14, .long q.2), (16, .int v16)] [] σ)) ?_ (fun x3 x4 => ?_)
      · refine gg_lcmp_le (pc := 101) hC dX2_farthest_101 dX2_farthest_102 (tgt := 113) rfl (fun _ => ?_) (fun _ => ?_)
        · exact gg_y (fun h => zW_lv [2, 3, 4, 5, 6, 7, 8, 9, 10, 11] rfl h)
        · refine gg_lload (pc := 105) hC dX2_farthest_105 0 rfl ?_
          refine gg_lstore (pc := 107) hC dX2_farthest_107 (Nat.le_of_ble_eq_true rfl) (lv' := [(14, .long x2), (19, .long x2), (17, .long x1), (0, .ref (A 4)), (2, .int v2), (3, .long v3), (5, .long v5), (7, .long v7), (9, .long v9), (11, .long v11), (13, .int v13), (16, .int v16)]) rfl ?_
          refine gg_iload (pc := 109) hC dX2_farthest_109 11 rfl ?_
          refine gg_istore (pc := 111) hC dX2_farthest_111 (Nat.le_of_ble_eq_true rfl) (lv' := [(13, .int v16), (14, .long x2), (19, .long x2), (17, .long x1), (0, .ref (A 4)), (2, .int v2), (3, .long v3), (5, .long v5), (7, .long v7), (9, .long v9), (11, .long v11), (16, .int v16)]) rfl ?_
          exact gg_y (fun h => zW_lv [4, 5, 6, 7, 8, 9, 10, 0, 1, 11] rfl h)
      · show zG C (wX A cA) 21 _ _ 113 [(0, .ref (A 4)), (2, .int v2), (3, .long v3), (5, .long v5), (7, .long v7), (9, .long v9), (11, .long v11), (13, .int x3), (14, .long x4), (16, .int v16)] [] σ
        refine gg_iinc (pc := 113) hC dX2_farthest_113 (y := 0) (j := 9) rfl (z := 1) rfl (Nat.le_of_ble_eq_true rfl) (lv' := [(16, .int (v16 + 1)), (0, .ref (A 4)), (2, .int v2), (3, .long v3), (5, .long v5), (7, .long v7), (9, .long v9), (11, .long v11), (13, .int x3), (14, .long x4)]) rfl ?_
        refine gg_goto (pc := 116) hC dX2_farthest_116 (tgt := 50) rfl ?_
        exact gg_lv [1, 2, 3, 4, 5, 6, 7, 8, 9, 0] rfl (ih _ _ _)
set_option maxHeartbeats 4000000 in
set_option maxRecDepth 100000 in
theorem mX2_farthest {l : Launch} {D : va_G} {A : Nat → Nat} {cA : Nat → ClassId} {v1 : Int32} {v2 : Int32}  {σ : zS} {r : Int32} (h : fX2_farthest v1 v2 σ = some r) : zMI l D (wX A cA) yX2_farthest (zws yX2_farthest cX2_farthest 21 (some .int)) 2 51 [.ref (A 4), .int v1, .int v2] σ (r, σ) := by
  refine zm_Ir (lv := [(0, .ref (A 4)), (1, .int v1), (2, .int v2)]) rfl (sX_ok A) (Nat.le_of_ble_eq_true rfl) rfl (fun C _ _ hC hR => ?_) h
  unfold fX2_farthest
  refine gg_iload_n (pc := 0) hC dX2_farthest_0 (i := 2) rfl 2 rfl ?_
  refine gg_iload_n (pc := 1) hC dX2_farthest_1 (i := 1) rfl 1 rfl ?_
  refine gg_isub (pc := 2) hC dX2_farthest_2 ?_
  refine gg_iconst (pc := 3) hC dX2_farthest_3 (x := 1) rfl ?_
  refine gg_iadd (pc := 4) hC dX2_farthest_4 ?_
  refine gg_i2l (pc := 5) hC dX2_farthest_5 ?_
  refine gg_zvl (fun x1 => ?_)
  refine gg_lstore_n (pc := 6) hC dX2_farthest_6 (i := 3) rfl (Nat.le_of_ble_eq_true rfl) (lv' := [(3, .long x1), (0, .ref (A 4)), (1, .int v1), (2, .int v2)]) rfl ?_
  refine gg_aload_n (pc := 7) hC dX2_farthest_7 (i := 0) rfl 1 rfl ?_
  refine gg_iload_n (pc := 8) hC dX2_farthest_8 (i := 1) rfl 2 rfl ?_
  refine gg_iload_n (pc := 9) hC dX2_farthest_9 (i := 2) rfl 3 rfl ?_
  refine gg_callVLr (pc := 10) hC dX2_farthest_10 vX2_115 (fun _ h => mX2_fitAbove h) (Nat.le_of_ble_eq_true rfl) (Nat.le_of_ble_eq_true rfl) (As := [.int v1, .int v2]) (rest := []) rfl rfl (Nat.le_of_ble_eq_true rfl) 4 2 pX_4 rfl (fun x2 => ?_)
  refine gg_lstore (pc := 13) hC dX2_farthest_13 (Nat.le_of_ble_eq_true rfl) (lv' := [(5, .long x2), (3, .long x1), (0, .ref (A 4)), (1, .int v1), (2, .int v2)]) rfl ?_
  refine gg_aload_n (pc := 15) hC dX2_farthest_15 (i := 0) rfl 2 rfl ?_
  refine gg_iload_n (pc := 16) hC dX2_farthest_16 (i := 1) rfl 3 rfl ?_
  refine gg_iload_n (pc := 17) hC dX2_farthest_17 (i := 2) rfl 4 rfl ?_
  refine gg_callVLr (pc := 18) hC dX2_farthest_18 vX2_118 (fun _ h => mX2_fitBelow h) (Nat.le_of_ble_eq_true rfl) (Nat.le_of_ble_eq_true rfl) (As := [.int v1, .int v2]) (rest := []) rfl rfl (Nat.le_of_ble_eq_true rfl) 4 2 pX_4 rfl (fun x3 => ?_)
  refine gg_lstore (pc := 21) hC dX2_farthest_21 (Nat.le_of_ble_eq_true rfl) (lv' := [(7, .long x3), (5, .long x2), (3, .long x1), (0, .ref (A 4)), (1, .int v1), (2, .int v2)]) rfl ?_
  refine gg_aload_n (pc := 23) hC dX2_farthest_23 (i := 0) rfl 3 rfl ?_
  refine gg_iload_n (pc := 24) hC dX2_farthest_24 (i := 1) rfl 4 rfl ?_
  refine gg_iload_n (pc := 25) hC dX2_farthest_25 (i := 2) rfl 5 rfl ?_
  refine gg_callVLr (pc := 26) hC dX2_farthest_26 vX2_108 (fun _ h => mX2_sumOfPlaces h) (Nat.le_of_ble_eq_true rfl) (Nat.le_of_ble_eq_true rfl) (As := [.int v1, .int v2]) (rest := []) rfl rfl (Nat.le_of_ble_eq_true rfl) 4 2 pX_4 rfl (fun x4 => ?_)
  refine gg_lstore (pc := 29) hC dX2_farthest_29 (Nat.le_of_ble_eq_true rfl) (lv' := [(9, .long x4), (7, .long x3), (5, .long x2), (3, .long x1), (0, .ref (A 4)), (1, .int v1), (2, .int v2)]) rfl ?_
  refine gg_aload_n (pc := 31) hC dX2_farthest_31 (i := 0) rfl 4 rfl ?_
  refine gg_iload_n (pc := 32) hC dX2_farthest_32 (i := 1) rfl 5 rfl ?_
  refine gg_iload_n (pc := 33) hC dX2_farthest_33 (i := 2) rfl 6 rfl ?_
  refine gg_callVLr (pc := 34) hC dX2_farthest_34 vX2_112 (fun _ h => mX2_sumOfStamps h) (Nat.le_of_ble_eq_true rfl) (Nat.le_of_ble_eq_true rfl) (As := [.int v1, .int v2]) (rest := []) rfl rfl (Nat.le_of_ble_eq_true rfl) 4 2 pX_4 rfl (fun x5 => ?_)
  refine gg_lstore (pc := 37) hC dX2_farthest_37 (Nat.le_of_ble_eq_true rfl) (lv' := [(11, .long x5), (9, .long x4), (7, .long x3), (5, .long x2), (3, .long x1), (0, .ref (A 4)), (1, .int v1), (2, .int v2)]) rfl ?_
  refine gg_iload_n (pc := 39) hC dX2_farthest_39 (i := 1) rfl 6 rfl ?_
  refine gg_istore (pc := 40) hC dX2_farthest_40 (Nat.le_of_ble_eq_true rfl) (lv' := [(13, .int v1), (11, .long x5), (9, .long x4), (7, .long x3), (5, .long x2), (3, .long x1), (0, .ref (A 4)), (1, .int v1), (2, .int v2)]) rfl ?_
  refine gg_ldc2 (pc := 42) hC dX2_farthest_42 qX2_121 ?_
  refine gg_lstore (pc := 45) hC dX2_farthest_45 (Nat.le_of_ble_eq_true rfl) (lv' := [(14, .long (-1 : Int64)), (13, .int v1), (11, .long x5), (9, .long x4), (7, .long x3), (5, .long x2), (3, .long x1), (0, .ref (A 4)), (1, .int v1), (2, .int v2)]) rfl ?_
  refine gg_iload_n (pc := 47) hC dX2_farthest_47 (i := 1) rfl 8 rfl ?_
  refine gg_istore (pc := 48) hC dX2_farthest_48 (Nat.le_of_ble_eq_true rfl) (lv' := [(16, .int v1), (14, .long (-1 : Int64)), (13, .int v1), (11, .long x5), (9, .long x4), (7, .long x3), (5, .long x2), (3, .long x1), (0, .ref (A 4)), (1, .int v1), (2, .int v2)]) rfl ?_
  refine gg_join1 (E' := (fun q => zW C (wX A cA) 21 119 [(13, .int q)] [] σ)) (gg_lv [8, 10, 7, 6, 5, 4, 3, 2, 1, 0] rfl (lX2_farthest_50 hC  500 _ _ _)) (fun x6 => ?_)
  show zG C (wX A cA) 21 _ _ 119 [(13, .int x6)] [] σ
  refine gg_iload (pc := 119) hC dX2_farthest_119 0 rfl ?_
  exact gg_iretr (pc := 121) hR dX2_farthest_121
def fX2_gapBehind (v1 : Int32) (σ : zS) : Option (Int64) :=
    zg (zq (v1 + 1) 32) (zg (zq v1 32) (some ((zj σ 0 (v1 + 1).toNatClampNeg) - (zj σ 0 v1.toNatClampNeg))))
set_option maxHeartbeats 4000000 in
set_option maxRecDepth 100000 in
theorem mX2_gapBehind {l : Launch} {D : va_G} {A : Nat → Nat} {cA : Nat → ClassId} {v1 : Int32}  {σ : zS} {r : Int64} (h : fX2_gapBehind v1 σ = some r) : zML l D (wX A cA) yX2_gapBehind (zws yX2_gapBehind cX2_gapBehind 2 (some .long)) 0 0 [.ref (A 4), .int v1] σ (r, σ) := by
  refine zm_Lr (lv := [(0, .ref (A 4)), (1, .int v1)]) rfl (sX_ok A) (Nat.le_of_ble_eq_true rfl) rfl (fun C _ _ hC hR => ?_) h
  unfold fX2_gapBehind
  refine gg_aload_n (pc := 0) hC dX2_gapBehind_0 (i := 0) rfl 0 rfl ?_
  refine gg_get (pc := 1) hC dX2_gapBehind_1 fX2_9 4 pX_4 (v := .ref (A 15)) rfl ?_
  refine gg_iload_n (pc := 4) hC dX2_gapBehind_4 (i := 1) rfl 1 rfl ?_
  refine gg_iconst (pc := 5) hC dX2_gapBehind_5 (x := 1) rfl ?_
  refine gg_iadd (pc := 6) hC dX2_gapBehind_6 ?_
  refine gg_lald (pc := 7) hC dX2_gapBehind_7 15 1 pX_15 rfl ?_
  refine gg_aload_n (pc := 8) hC dX2_gapBehind_8 (i := 0) rfl 0 rfl ?_
  refine gg_get (pc := 9) hC dX2_gapBehind_9 fX2_9 4 pX_4 (v := .ref (A 15)) rfl ?_
  refine gg_iload_n (pc := 12) hC dX2_gapBehind_12 (i := 1) rfl 1 rfl ?_
  refine gg_lald (pc := 13) hC dX2_gapBehind_13 15 1 pX_15 rfl ?_
  refine gg_lsub (pc := 14) hC dX2_gapBehind_14 ?_
  exact gg_lretr (pc := 15) hR dX2_gapBehind_15
def fX2_judgeGap (v1 : Int32) (σ : zS) : Option (zS) :=
    zy1 (if (zl σ 0) ≤ (0 : Int64) then (some (0 : Int64)) else
    (zy1 (fX2_gapBehind v1 σ) (fun x1 =>
    zg (decide (¬ ((2 : Int64) * (zl σ 0)) = 0)) (zv (((((2 : Int64) * x1) + (zl σ 0)) / ((2 : Int64) * (zl σ 0))) - (1 : Int64)) (fun (x2 : Int64) =>
    some x2))))) (fun (x3 : Int64) =>
    zy1 (if x3 ≤ (9 : Int64) then (some 0) else
    (some 1)) (fun (x4 : Int32) =>
    zg (zq v1 32) (zv (wa σ 9 v1.toNatClampNeg (vp_nar .boolean x4)) (fun (s5 : zS) =>
    zg (zq v1 32) (zv (wa s5 8 v1.toNatClampNeg ((if (if x3 < (9 : Int64) then x3 else (9 : Int64)) < (0 : Int64) then (0 : Int64) else (if x3 < (9 : Int64) then x3 else (9 : Int64))).toInt32)) (fun (s6 : zS) =>
    zg (zq v1 32) (zv (wi s6 11 ((zi s6 11) + (za s6 8 v1.toNatClampNeg))) (fun (s7 : zS) =>
    zg (zq v1 32) (if (za s7 9 v1.toNatClampNeg) = 0 then (zv (wi s7 12 ((zi s7 12) + 0)) (fun (s8 : zS) =>
    some s8)) else
    (zv (wi s7 12 ((zi s7 12) + 1)) (fun (s9 : zS) =>
    some s9)))))))))))
set_option maxHeartbeats 4000000 in
set_option maxRecDepth 100000 in
theorem mX2_judgeGap {l : Launch} {D : va_G} {A : Nat → Nat} {cA : Nat → ClassId} {v1 : Int32}  {σ : zS} {r : zS} (h : fX2_judgeGap v1 σ = some r) : zMV l D (wX A cA) yX2_judgeGap (zws yX2_judgeGap cX2_judgeGap 4 none) 1 23 [.ref (A 4), .int v1] σ r := by
  refine zm_V (lv := [(0, .ref (A 4)), (1, .int v1)]) rfl (sX_ok A) (Nat.le_of_ble_eq_true rfl) rfl (fun C _ _ hC hR => ?_) h
  unfold fX2_judgeGap
  refine gg_lconst (pc := 0) hC dX2_judgeGap_0 (x := 0) rfl ?_
  refine gg_lstore_n (pc := 1) hC dX2_judgeGap_1 (i := 2) rfl (Nat.le_of_ble_eq_true rfl) (lv' := [(2, .long (0 : Int64)), (0, .ref (A 4)), (1, .int v1)]) rfl ?_
  refine gg_aload_n (pc := 2) hC dX2_judgeGap_2 (i := 0) rfl 1 rfl ?_
  refine gg_get (pc := 3) hC dX2_judgeGap_3 fX2_36 4 pX_4 (v := .long (zl σ 0)) rfl ?_
  refine gg_lconst (pc := 6) hC dX2_judgeGap_6 (x := 0) rfl ?_
  refine gg_join1 (E' := (fun q => zW C (wX A cA) 4 37 [(0, .ref (A 4)), (1, .int v1), (2, .long q)] [] σ)) ?_ (fun x3 => ?_)
  · refine gg_lcmp_le (pc := 7) hC dX2_judgeGap_7 dX2_judgeGap_8 (tgt := 37) rfl (fun _ => ?_) (fun _ => ?_)
    · exact gg_y (fun h => zW_lv [1, 2, 0] rfl h)
    · refine gg_ldc2 (pc := 11) hC dX2_judgeGap_11 qX2_91 ?_
      refine gg_aload_n (pc := 14) hC dX2_judgeGap_14 (i := 0) rfl 1 rfl ?_
      refine gg_iload_n (pc := 15) hC dX2_judgeGap_15 (i := 1) rfl 2 rfl ?_
      refine gg_callVLr (pc := 16) hC dX2_judgeGap_16 vX2_93 (fun _ h => mX2_gapBehind h) (Nat.le_of_ble_eq_true rfl) (Nat.le_of_ble_eq_true rfl) (As := [.int v1]) (rest := [.long (2 : Int64)]) rfl rfl (Nat.le_of_ble_eq_true rfl) 4 2 pX_4 rfl (fun x1 => ?_)
      refine gg_lmul (pc := 19) hC dX2_judgeGap_19 ?_
      refine gg_aload_n (pc := 20) hC dX2_judgeGap_20 (i := 0) rfl 1 rfl ?_
      refine gg_get (pc := 21) hC dX2_judgeGap_21 fX2_36 4 pX_4 (v := .long (zl σ 0)) rfl ?_
      refine gg_ladd (pc := 24) hC dX2_judgeGap_24 ?_
      refine gg_ldc2 (pc := 25) hC dX2_judgeGap_25 qX2_91 ?_
      refine gg_aload_n (pc := 28) hC dX2_judgeGap_28 (i := 0) rfl 1 rfl ?_
      refine gg_get (pc := 29) hC dX2_judgeGap_29 fX2_36 4 pX_4 (v := .long (zl σ 0)) rfl ?_
      refine gg_lmul (pc := 32) hC dX2_judgeGap_32 ?_
      refine gg_ldiv_g (pc := 33) hC dX2_judgeGap_33 ?_
      refine gg_lconst (pc := 34) hC dX2_judgeGap_34 (x := 1) rfl ?_
      refine gg_lsub (pc := 35) hC dX2_judgeGap_35 ?_
      refine gg_zvl (fun x2 => ?_)
      refine gg_lstore_n (pc := 36) hC dX2_judgeGap_36 (i := 2) rfl (Nat.le_of_ble_eq_true rfl) (lv' := [(2, .long x2), (0, .ref (A 4)), (1, .int v1)]) rfl ?_
      exact gg_y (fun h => zW_lv [1, 2, 0] rfl h)
  · show zG C (wX A cA) 4 _ _ 37 [(0, .ref (A 4)), (1, .int v1), (2, .long x3)] [] σ
    refine gg_aload_n (pc := 37) hC dX2_judgeGap_37 (i := 0) rfl 0 rfl ?_
    refine gg_get (pc := 38) hC dX2_judgeGap_38 fX2_19 4 pX_4 (v := .ref (A 17)) rfl ?_
    refine gg_iload_n (pc := 41) hC dX2_judgeGap_41 (i := 1) rfl 1 rfl ?_
    refine gg_lload_n (pc := 42) hC dX2_judgeGap_42 (i := 2) rfl 2 rfl ?_
    refine gg_ldc2 (pc := 43) hC dX2_judgeGap_43 qX2_97 ?_
    refine gg_join1 (E' := (fun q => zW C (wX A cA) 4 55 [(0, .ref (A 4)), (1, .int v1), (2, .long x3)] [.int q, .int v1, .ref (A 17)] σ)) ?_ (fun x4 => ?_)
    · refine gg_lcmp_le (pc := 46) hC dX2_judgeGap_46 dX2_judgeGap_47 (tgt := 54) rfl (fun _ => ?_) (fun _ => ?_)
      · refine gg_iconst (pc := 54) hC dX2_judgeGap_54 (x := 0) rfl ?_
        exact gg_y (fun h => zW_lv [0, 1, 2] rfl h)
      · refine gg_iconst (pc := 50) hC dX2_judgeGap_50 (x := 1) rfl ?_
        refine gg_goto (pc := 51) hC dX2_judgeGap_51 (tgt := 55) rfl ?_
        exact gg_y (fun h => zW_lv [0, 1, 2] rfl h)
    · show zG C (wX A cA) 4 _ _ 55 [(0, .ref (A 4)), (1, .int v1), (2, .long x3)] [.int x4, .int v1, .ref (A 17)] σ
      refine gg_zast (pc := 55) hC dX2_judgeGap_55 17 2 pX_17 rfl sX_17 ?_
      refine gg_zvs (fun s5 => ?_)
      refine gg_aload_n (pc := 56) hC dX2_judgeGap_56 (i := 0) rfl 0 rfl ?_
      refine gg_get (pc := 57) hC dX2_judgeGap_57 fX2_15 4 pX_4 (v := .ref (A 16)) rfl ?_
      refine gg_iload_n (pc := 60) hC dX2_judgeGap_60 (i := 1) rfl 1 rfl ?_
      refine gg_lconst (pc := 61) hC dX2_judgeGap_61 (x := 0) rfl ?_
      refine gg_ldc2 (pc := 62) hC dX2_judgeGap_62 qX2_97 ?_
      refine gg_lload_n (pc := 65) hC dX2_judgeGap_65 (i := 2) rfl 2 rfl ?_
      refine gg_mminl (pc := 66) hC dX2_judgeGap_66 aX2_99 (Nat.le_of_ble_eq_true rfl) (Nat.le_of_ble_eq_true rfl) ?_
      refine gg_mmaxl (pc := 69) hC dX2_judgeGap_69 aX2_105 (Nat.le_of_ble_eq_true rfl) (Nat.le_of_ble_eq_true rfl) ?_
      refine gg_l2i (pc := 72) hC dX2_judgeGap_72 ?_
      refine gg_iast (pc := 73) hC dX2_judgeGap_73 16 0 pX_16 rfl sX_16 ?_
      refine gg_zvs (fun s6 => ?_)
      refine gg_aload_n (pc := 74) hC dX2_judgeGap_74 (i := 0) rfl 0 rfl ?_
      refine gg_dup (pc := 75) hC dX2_judgeGap_75 rfl ?_
      refine gg_get (pc := 76) hC dX2_judgeGap_76 fX2_40 4 pX_4 (v := .int (zi s6 11)) rfl ?_
      refine gg_aload_n (pc := 79) hC dX2_judgeGap_79 (i := 0) rfl 0 rfl ?_
      refine gg_get (pc := 80) hC dX2_judgeGap_80 fX2_15 4 pX_4 (v := .ref (A 16)) rfl ?_
      refine gg_iload_n (pc := 83) hC dX2_judgeGap_83 (i := 1) rfl 1 rfl ?_
      refine gg_iald (pc := 84) hC dX2_judgeGap_84 16 0 pX_16 rfl ?_
      refine gg_iadd (pc := 85) hC dX2_judgeGap_85 ?_
      refine gg_put (pc := 86) hC dX2_judgeGap_86 fX2_40 tX2_2 4 pX_4 rfl rfl rfl (Nat.le_of_ble_eq_true rfl) sX_4_8 ?_
      refine gg_zvs (fun s7 => ?_)
      refine gg_aload_n (pc := 89) hC dX2_judgeGap_89 (i := 0) rfl 0 rfl ?_
      refine gg_dup (pc := 90) hC dX2_judgeGap_90 rfl ?_
      refine gg_get (pc := 91) hC dX2_judgeGap_91 fX2_43 4 pX_4 (v := .int (zi s7 12)) rfl ?_
      refine gg_aload_n (pc := 94) hC dX2_judgeGap_94 (i := 0) rfl 0 rfl ?_
      refine gg_get (pc := 95) hC dX2_judgeGap_95 fX2_19 4 pX_4 (v := .ref (A 17)) rfl ?_
      refine gg_iload_n (pc := 98) hC dX2_judgeGap_98 (i := 1) rfl 1 rfl ?_
      refine gg_zald (pc := 99) hC dX2_judgeGap_99 17 2 pX_17 rfl ?_
      refine gg_if_eq (pc := 100) hC dX2_judgeGap_100 (tgt := 107) rfl (fun _ => ?_) (fun _ => ?_)
      · refine gg_iconst (pc := 107) hC dX2_judgeGap_107 (x := 0) rfl ?_
        refine gg_iadd (pc := 108) hC dX2_judgeGap_108 ?_
        refine gg_put (pc := 109) hC dX2_judgeGap_109 fX2_43 tX2_2 4 pX_4 rfl rfl rfl (Nat.le_of_ble_eq_true rfl) sX_4_9 ?_
        refine gg_zvs (fun s8 => ?_)
        exact gg_vret (pc := 112) hR dX2_judgeGap_112
      · refine gg_iconst (pc := 103) hC dX2_judgeGap_103 (x := 1) rfl ?_
        refine gg_goto (pc := 104) hC dX2_judgeGap_104 (tgt := 108) rfl ?_
        refine gg_iadd (pc := 108) hC dX2_judgeGap_108 ?_
        refine gg_put (pc := 109) hC dX2_judgeGap_109 fX2_43 tX2_2 4 pX_4 rfl rfl rfl (Nat.le_of_ble_eq_true rfl) sX_4_9 ?_
        refine gg_zvs (fun s9 => ?_)
        exact gg_vret (pc := 112) hR dX2_judgeGap_112
def fX2_medianGap_30 (v1 : Int32) (v2 : Int32) (v3 : Int64) : Nat → Int32 → zS → Option (Int32 × zS)
  | 0, _, _ => none
  | n + 1, v5, σ =>
    if v5 ≤ 0 then (some (v5, σ)) else
    (zg (zq (v5 - 1) 32) (if (zj σ 1 (v5 - 1).toNatClampNeg) ≤ v3 then (some (v5, σ)) else
    (zg (zq (v5 - 1) 32) (zg (zq v5 32) (zv (wj σ 1 v5.toNatClampNeg (zj σ 1 (v5 - 1).toNatClampNeg)) (fun (s1 : zS) =>
    fX2_medianGap_30 v1 v2 v3 n (v5 + (-1)) s1))))))
def fX2_medianGap_16 (v1 : Int32) : Nat → Int32 → zS → Option (zS)
  | 0, _, _ => none
  | n + 1, v2, σ =>
    if v1 ≤ v2 then (some σ) else
    (zy1 (fX2_gapBehind v2 σ) (fun x1 =>
    zy2 (fX2_medianGap_30 v1 v2 x1 500 v2 σ) (fun (x2 : Int32) (s3 : zS) =>
    zg (zq x2 32) (zv (wj s3 1 x2.toNatClampNeg x1) (fun (s4 : zS) =>
    fX2_medianGap_16 v1 n (v2 + 1) s4)))))
def fX2_medianGap  (σ : zS) : Option (Int64 × zS) :=
    zv ((zi σ 9) - 1) (fun (x1 : Int32) =>
    if 1 ≤ x1 then (zy1 (fX2_medianGap_16 x1 500 0 σ) (fun (s2 : zS) =>
    zg (zq ((x1 - 1) / 2) 32) (some ((zj s2 1 ((x1 - 1) / 2).toNatClampNeg), s2)))) else
    (some ((0 : Int64), σ)))
set_option maxHeartbeats 4000000 in
set_option maxRecDepth 100000 in
theorem lX2_medianGap_30 {C : zK} {A : Nat → Nat} {cA : Nat → ClassId} (hC : zOK C (wX A cA) cX2_medianGap RX2 6 1 21) {v1 : Int32} {v2 : Int32} {v3 : Int64} : ∀ (n : Nat) (v5 : Int32) (σ : zS), zG C (wX A cA) 6 (fun q => zW C (wX A cA) 6 71 [(0, .ref (A 4)), (1, .int v1), (2, .int v2), (3, .long v3), (5, .int q.1)] [] q.2) (fX2_medianGap_30 v1 v2 v3 n v5 σ) 30 [(0, .ref (A 4)), (1, .int v1), (2, .int v2), (3, .long v3), (5, .int v5)] [] σ := by
  intro n
  induction n with
  | zero => intro v5 σ; exact gg_none (o := none)
  | succ n ih =>
    intro v5 σ
    rw [fX2_medianGap_30]
    refine gg_iload (pc := 30) hC dX2_medianGap_30 4 rfl ?_
    refine gg_if_le (pc := 32) hC dX2_medianGap_32 (tgt := 71) rfl (fun _ => ?_) (fun _ => ?_)
    · exact gg_y (fun h => zW_lv [0, 1, 2, 3, 4] rfl h)
    · refine gg_aload_n (pc := 35) hC dX2_medianGap_35 (i := 0) rfl 0 rfl ?_
      refine gg_get (pc := 36) hC dX2_medianGap_36 fX2_26 4 pX_4 (v := .ref (A 19)) rfl ?_
      refine gg_iload (pc := 39) hC dX2_medianGap_39 4 rfl ?_
      refine gg_iconst (pc := 41) hC dX2_medianGap_41 (x := 1) rfl ?_
      refine gg_isub (pc := 42) hC dX2_medianGap_42 ?_
      refine gg_lald (pc := 43) hC dX2_medianGap_43 19 1 pX_19 rfl ?_
      refine gg_lload_n (pc := 44) hC dX2_medianGap_44 (i := 3) rfl 3 rfl ?_
      refine gg_lcmp_le (pc := 45) hC dX2_medianGap_45 dX2_medianGap_46 (tgt := 71) rfl (fun _ => ?_) (fun _ => ?_)
      · exact gg_y (fun h => zW_lv [0, 1, 2, 3, 4] rfl h)
      · refine gg_aload_n (pc := 49) hC dX2_medianGap_49 (i := 0) rfl 0 rfl ?_
        refine gg_get (pc := 50) hC dX2_medianGap_50 fX2_26 4 pX_4 (v := .ref (A 19)) rfl ?_
        refine gg_iload (pc := 53) hC dX2_medianGap_53 4 rfl ?_
        refine gg_aload_n (pc := 55) hC dX2_medianGap_55 (i := 0) rfl 0 rfl ?_
        refine gg_get (pc := 56) hC dX2_medianGap_56 fX2_26 4 pX_4 (v := .ref (A 19)) rfl ?_
        refine gg_iload (pc := 59) hC dX2_medianGap_59 4 rfl ?_
        refine gg_iconst (pc := 61) hC dX2_medianGap_61 (x := 1) rfl ?_
        refine gg_isub (pc := 62) hC dX2_medianGap_62 ?_
        refine gg_lald (pc := 63) hC dX2_medianGap_63 19 1 pX_19 rfl ?_
        refine gg_last (pc := 64) hC dX2_medianGap_64 19 1 pX_19 rfl sX_19 ?_
        refine gg_zvs (fun s1 => ?_)
        refine gg_iinc (pc := 65) hC dX2_medianGap_65 (y := 0) (j := 4) rfl (z := -1) rfl (Nat.le_of_ble_eq_true rfl) (lv' := [(5, .int (v5 + (-1))), (0, .ref (A 4)), (1, .int v1), (2, .int v2), (3, .long v3)]) rfl ?_
        refine gg_goto (pc := 68) hC dX2_medianGap_68 (tgt := 30) rfl ?_
        exact gg_lv [1, 2, 3, 4, 0] rfl (ih _ _)
set_option maxHeartbeats 4000000 in
set_option maxRecDepth 100000 in
theorem lX2_medianGap_16 {C : zK} {A : Nat → Nat} {cA : Nat → ClassId} (hC : zOK C (wX A cA) cX2_medianGap RX2 6 1 21) {v1 : Int32} : ∀ (n : Nat) (v2 : Int32) (σ : zS), zG C (wX A cA) 6 (fun q => zW C (wX A cA) 6 85 [(0, .ref (A 4)), (1, .int v1)] [] q) (fX2_medianGap_16 v1 n v2 σ) 16 [(0, .ref (A 4)), (1, .int v1), (2, .int v2)] [] σ := by
  intro n
  induction n with
  | zero => intro v2 σ; exact gg_none (o := none)
  | succ n ih =>
    intro v2 σ
    rw [fX2_medianGap_16]
    refine gg_iload_n (pc := 16) hC dX2_medianGap_16 (i := 2) rfl 2 rfl ?_
    refine gg_iload_n (pc := 17) hC dX2_medianGap_17 (i := 1) rfl 1 rfl ?_
    refine gg_icmp_ge (pc := 18) hC dX2_medianGap_18 (tgt := 85) rfl (fun _ => ?_) (fun _ => ?_)
    · exact gg_y (fun h => zW_lv [0, 1] rfl h)
    · refine gg_aload_n (pc := 21) hC dX2_medianGap_21 (i := 0) rfl 0 rfl ?_
      refine gg_iload_n (pc := 22) hC dX2_medianGap_22 (i := 2) rfl 2 rfl ?_
      refine gg_callVLr (pc := 23) hC dX2_medianGap_23 vX2_93 (fun _ h => mX2_gapBehind h) (Nat.le_of_ble_eq_true rfl) (Nat.le_of_ble_eq_true rfl) (As := [.int v2]) (rest := []) rfl rfl (Nat.le_of_ble_eq_true rfl) 4 2 pX_4 rfl (fun x1 => ?_)
      refine gg_lstore_n (pc := 26) hC dX2_medianGap_26 (i := 3) rfl (Nat.le_of_ble_eq_true rfl) (lv' := [(3, .long x1), (0, .ref (A 4)), (1, .int v1), (2, .int v2)]) rfl ?_
      refine gg_iload_n (pc := 27) hC dX2_medianGap_27 (i := 2) rfl 3 rfl ?_
      refine gg_istore (pc := 28) hC dX2_medianGap_28 (Nat.le_of_ble_eq_true rfl) (lv' := [(5, .int v2), (3, .long x1), (0, .ref (A 4)), (1, .int v1), (2, .int v2)]) rfl ?_
      refine gg_join2 (E' := (fun q => zW C (wX A cA) 6 71 [(0, .ref (A 4)), (1, .int v1), (2, .int v2), (3, .long x1), (5, .int q.1)] [] q.2)) (gg_lv [2, 3, 4, 1, 0] rfl (lX2_medianGap_30 hC  500 _ _)) (fun x2 s3 => ?_)
      show zG C (wX A cA) 6 _ _ 71 [(0, .ref (A 4)), (1, .int v1), (2, .int v2), (3, .long x1), (5, .int x2)] [] s3
      refine gg_aload_n (pc := 71) hC dX2_medianGap_71 (i := 0) rfl 0 rfl ?_
      refine gg_get (pc := 72) hC dX2_medianGap_72 fX2_26 4 pX_4 (v := .ref (A 19)) rfl ?_
      refine gg_iload (pc := 75) hC dX2_medianGap_75 4 rfl ?_
      refine gg_lload_n (pc := 77) hC dX2_medianGap_77 (i := 3) rfl 3 rfl ?_
      refine gg_last (pc := 78) hC dX2_medianGap_78 19 1 pX_19 rfl sX_19 ?_
      refine gg_zvs (fun s4 => ?_)
      refine gg_iinc (pc := 79) hC dX2_medianGap_79 (y := 0) (j := 2) rfl (z := 1) rfl (Nat.le_of_ble_eq_true rfl) (lv' := [(2, .int (v2 + 1)), (0, .ref (A 4)), (1, .int v1), (3, .long x1), (5, .int x2)]) rfl ?_
      refine gg_goto (pc := 82) hC dX2_medianGap_82 (tgt := 16) rfl ?_
      exact gg_lv [1, 2, 0] rfl (ih _ _)
set_option maxHeartbeats 4000000 in
set_option maxRecDepth 100000 in
theorem mX2_medianGap {l : Launch} {D : va_G} {A : Nat → Nat} {cA : Nat → ClassId}   {σ : zS} {r : Int64 × zS} (h : fX2_medianGap  σ = some r) : zML l D (wX A cA) yX2_medianGap (zws yX2_medianGap cX2_medianGap 6 (some .long)) 1 21 [.ref (A 4)] σ r := by
  refine zm_L (lv := [(0, .ref (A 4))]) rfl (sX_ok A) (Nat.le_of_ble_eq_true rfl) rfl (fun C _ _ hC hR => ?_) h
  unfold fX2_medianGap
  refine gg_aload_n (pc := 0) hC dX2_medianGap_0 (i := 0) rfl 0 rfl ?_
  refine gg_get (pc := 1) hC dX2_medianGap_1 fX2_29 4 pX_4 (v := .int (zi σ 9)) rfl ?_
  refine gg_iconst (pc := 4) hC dX2_medianGap_4 (x := 1) rfl ?_
  refine gg_isub (pc := 5) hC dX2_medianGap_5 ?_
  refine gg_zvi (fun x1 => ?_)
  refine gg_istore_n (pc := 6) hC dX2_medianGap_6 (i := 1) rfl (Nat.le_of_ble_eq_true rfl) (lv' := [(1, .int x1), (0, .ref (A 4))]) rfl ?_
  refine gg_iload_n (pc := 7) hC dX2_medianGap_7 (i := 1) rfl 0 rfl ?_
  refine gg_iconst (pc := 8) hC dX2_medianGap_8 (x := 1) rfl ?_
  refine gg_icmp_ge (pc := 9) hC dX2_medianGap_9 (tgt := 14) rfl (fun _ => ?_) (fun _ => ?_)
  · refine gg_iconst (pc := 14) hC dX2_medianGap_14 (x := 0) rfl ?_
    refine gg_istore_n (pc := 15) hC dX2_medianGap_15 (i := 2) rfl (Nat.le_of_ble_eq_true rfl) (lv' := [(2, .int 0), (1, .int x1), (0, .ref (A 4))]) rfl ?_
    refine gg_join1 (E' := (fun q => zW C (wX A cA) 6 85 [(0, .ref (A 4)), (1, .int x1)] [] q)) (gg_lv [2, 1, 0] rfl (lX2_medianGap_16 hC  500 _ _)) (fun s2 => ?_)
    show zG C (wX A cA) 6 _ _ 85 [(0, .ref (A 4)), (1, .int x1)] [] s2
    refine gg_aload_n (pc := 85) hC dX2_medianGap_85 (i := 0) rfl 0 rfl ?_
    refine gg_get (pc := 86) hC dX2_medianGap_86 fX2_26 4 pX_4 (v := .ref (A 19)) rfl ?_
    refine gg_iload_n (pc := 89) hC dX2_medianGap_89 (i := 1) rfl 1 rfl ?_
    refine gg_iconst (pc := 90) hC dX2_medianGap_90 (x := 1) rfl ?_
    refine gg_isub (pc := 91) hC dX2_medianGap_91 ?_
    refine gg_iconst (pc := 92) hC dX2_medianGap_92 (x := 2) rfl ?_
    refine gg_idiv (pc := 93) hC dX2_medianGap_93 (by decide) ?_
    refine gg_lald (pc := 94) hC dX2_medianGap_94 19 1 pX_19 rfl ?_
    exact gg_lret (pc := 95) hR dX2_medianGap_95
  · refine gg_lconst (pc := 12) hC dX2_medianGap_12 (x := 0) rfl ?_
    exact gg_lret (pc := 13) hR dX2_medianGap_13
def fX2_middleOf (v1 : Int32) (v2 : Int32) (σ : zS) : Option (Int32) :=
    if v2 = 2 then (zg (zq v1 12) (zy1 (fX0_endOf v1 σ) (fun x1 =>
    some ((za σ 2 v1.toNatClampNeg) + x1)))) else
    (zy1 (if v2 = 1 then (zy1 (fX0_hitsBelow v1 σ) (fun x2 =>
    zg (zq v1 12) (some ((2 * x2) + (za σ 3 v1.toNatClampNeg))))) else
    (some ((2 * v1) + 1))) (fun (x3 : Int32) =>
    some (30 * x3)))
set_option maxHeartbeats 4000000 in
set_option maxRecDepth 100000 in
theorem mX2_middleOf {l : Launch} {D : va_G} {A : Nat → Nat} {cA : Nat → ClassId} {v1 : Int32} {v2 : Int32}  {σ : zS} {r : Int32} (h : fX2_middleOf v1 v2 σ = some r) : zMI l D (wX A cA) yX2_middleOf (zws yX2_middleOf cX2_middleOf 4 (some .int)) 1 23 [.ref (A 2), .int v1, .int v2] σ (r, σ) := by
  refine zm_Ir (lv := [(0, .ref (A 2)), (1, .int v1), (2, .int v2)]) rfl (sX_ok A) (Nat.le_of_ble_eq_true rfl) rfl (fun C _ _ hC hR => ?_) h
  unfold fX2_middleOf
  refine gg_iload_n (pc := 0) hC dX2_middleOf_0 (i := 2) rfl 2 rfl ?_
  refine gg_iconst (pc := 1) hC dX2_middleOf_1 (x := 2) rfl ?_
  refine gg_icmp_ne (pc := 2) hC dX2_middleOf_2 (tgt := 18) rfl (fun _ => ?_) (fun _ => ?_)
  · refine gg_aload_n (pc := 5) hC dX2_middleOf_5 (i := 0) rfl 0 rfl ?_
    refine gg_get (pc := 6) hC dX2_middleOf_6 fX2_71 2 pX_2 (v := .ref (A 9)) rfl ?_
    refine gg_iload_n (pc := 9) hC dX2_middleOf_9 (i := 1) rfl 1 rfl ?_
    refine gg_iald (pc := 10) hC dX2_middleOf_10 9 0 pX_9 rfl ?_
    refine gg_aload_n (pc := 11) hC dX2_middleOf_11 (i := 0) rfl 0 rfl ?_
    refine gg_iload_n (pc := 12) hC dX2_middleOf_12 (i := 1) rfl 1 rfl ?_
    refine gg_callVIr (pc := 13) hC dX2_middleOf_13 vX2_74 (fun _ h => mX0_endOf h) (Nat.le_of_ble_eq_true rfl) (Nat.le_of_ble_eq_true rfl) (As := [.int v1]) (rest := [.int (za σ 2 v1.toNatClampNeg)]) rfl rfl (Nat.le_of_ble_eq_true rfl) 2 0 pX_2 rfl (fun x1 => ?_)
    refine gg_iadd (pc := 16) hC dX2_middleOf_16 ?_
    exact gg_iretr (pc := 17) hR dX2_middleOf_17
  · refine gg_iload_n (pc := 18) hC dX2_middleOf_18 (i := 2) rfl 2 rfl ?_
    refine gg_iconst (pc := 19) hC dX2_middleOf_19 (x := 1) rfl ?_
    refine gg_join1 (E' := (fun q => zW C (wX A cA) 4 45 [] [.int q] σ)) ?_ (fun x3 => ?_)
    · refine gg_icmp_ne (pc := 20) hC dX2_middleOf_20 (tgt := 40) rfl (fun _ => ?_) (fun _ => ?_)
      · refine gg_iconst (pc := 23) hC dX2_middleOf_23 (x := 2) rfl ?_
        refine gg_aload_n (pc := 24) hC dX2_middleOf_24 (i := 0) rfl 0 rfl ?_
        refine gg_iload_n (pc := 25) hC dX2_middleOf_25 (i := 1) rfl 1 rfl ?_
        refine gg_callVIr (pc := 26) hC dX2_middleOf_26 vX2_77 (fun _ h => mX0_hitsBelow h) (Nat.le_of_ble_eq_true rfl) (Nat.le_of_ble_eq_true rfl) (As := [.int v1]) (rest := [.int 2]) rfl rfl (Nat.le_of_ble_eq_true rfl) 2 0 pX_2 rfl (fun x2 => ?_)
        refine gg_imul (pc := 29) hC dX2_middleOf_29 ?_
        refine gg_aload_n (pc := 30) hC dX2_middleOf_30 (i := 0) rfl 0 rfl ?_
        refine gg_get (pc := 31) hC dX2_middleOf_31 fX2_80 2 pX_2 (v := .ref (A 10)) rfl ?_
        refine gg_iload_n (pc := 34) hC dX2_middleOf_34 (i := 1) rfl 1 rfl ?_
        refine gg_iald (pc := 35) hC dX2_middleOf_35 10 0 pX_10 rfl ?_
        refine gg_iadd (pc := 36) hC dX2_middleOf_36 ?_
        refine gg_goto (pc := 37) hC dX2_middleOf_37 (tgt := 45) rfl ?_
        exact gg_y (fun h => zW_lv [] rfl h)
      · refine gg_iconst (pc := 40) hC dX2_middleOf_40 (x := 2) rfl ?_
        refine gg_iload_n (pc := 41) hC dX2_middleOf_41 (i := 1) rfl 1 rfl ?_
        refine gg_imul (pc := 42) hC dX2_middleOf_42 ?_
        refine gg_iconst (pc := 43) hC dX2_middleOf_43 (x := 1) rfl ?_
        refine gg_iadd (pc := 44) hC dX2_middleOf_44 ?_
        exact gg_y (fun h => zW_lv [] rfl h)
    · show zG C (wX A cA) 4 _ _ 45 [] [.int x3] σ
      refine gg_istore_n (pc := 45) hC dX2_middleOf_45 (i := 3) rfl (Nat.le_of_ble_eq_true rfl) (lv' := [(3, .int x3)]) rfl ?_
      refine gg_bipush (pc := 46) hC dX2_middleOf_46 (x := 30) rfl ?_
      refine gg_iload_n (pc := 48) hC dX2_middleOf_48 (i := 3) rfl 0 rfl ?_
      refine gg_imul (pc := 49) hC dX2_middleOf_49 ?_
      exact gg_iretr (pc := 50) hR dX2_middleOf_50
def fX2_periods (v1 : Int32) (v2 : Int32) (σ : zS) : Option (Int32) :=
    zg (zq v2 32) (zg (zq v1 32) (some ((za σ 10 v2.toNatClampNeg) - (za σ 10 v1.toNatClampNeg))))
set_option maxHeartbeats 4000000 in
set_option maxRecDepth 100000 in
theorem mX2_periods {l : Launch} {D : va_G} {A : Nat → Nat} {cA : Nat → ClassId} {v1 : Int32} {v2 : Int32}  {σ : zS} {r : Int32} (h : fX2_periods v1 v2 σ = some r) : zMI l D (wX A cA) yX2_periods (zws yX2_periods cX2_periods 3 (some .int)) 0 0 [.ref (A 4), .int v1, .int v2] σ (r, σ) := by
  refine zm_Ir (lv := [(0, .ref (A 4)), (1, .int v1), (2, .int v2)]) rfl (sX_ok A) (Nat.le_of_ble_eq_true rfl) rfl (fun C _ _ hC hR => ?_) h
  unfold fX2_periods
  refine gg_aload_n (pc := 0) hC dX2_periods_0 (i := 0) rfl 0 rfl ?_
  refine gg_get (pc := 1) hC dX2_periods_1 fX2_23 4 pX_4 (v := .ref (A 18)) rfl ?_
  refine gg_iload_n (pc := 4) hC dX2_periods_4 (i := 2) rfl 2 rfl ?_
  refine gg_iald (pc := 5) hC dX2_periods_5 18 0 pX_18 rfl ?_
  refine gg_aload_n (pc := 6) hC dX2_periods_6 (i := 0) rfl 0 rfl ?_
  refine gg_get (pc := 7) hC dX2_periods_7 fX2_23 4 pX_4 (v := .ref (A 18)) rfl ?_
  refine gg_iload_n (pc := 10) hC dX2_periods_10 (i := 1) rfl 1 rfl ?_
  refine gg_iald (pc := 11) hC dX2_periods_11 18 0 pX_18 rfl ?_
  refine gg_isub (pc := 12) hC dX2_periods_12 ?_
  exact gg_iretr (pc := 13) hR dX2_periods_13
def fX2_renewPlaces_35 (v2 : Int32) : Nat → Int32 → zS → Option (zS)
  | 0, _, _ => none
  | n + 1, v3, σ =>
    if (zi σ 9) ≤ v3 then (some σ) else
    (zy1 (if v2 = 1 then (some (v3 + (zi σ 11))) else
    (some v3)) (fun (x1 : Int32) =>
    zg (zq v3 32) (zv (wa σ 10 v3.toNatClampNeg x1) (fun (s2 : zS) =>
    zy1 (if (zi s2 9) ≤ (v3 + 1) then (some s2) else
    (zy1 (fX2_judgeGap v3 s2) (fun s3 =>
    some s3))) (fun (s4 : zS) =>
    fX2_renewPlaces_35 v2 n (v3 + 1) s4)))))
def fX2_renewPlaces (v1 : Int32) (v2 : Int32) (σ : zS) : Option (zS) :=
    zy2 (if v1 ≤ 0 then (zy2 (fX2_medianGap σ) (fun x1 s2 =>
    some (x1, s2))) else
    (some (((v1.toInt64) * ((zi σ 10).toInt64)), σ))) (fun (x3 : Int64) (s4 : zS) =>
    zv (wl s4 0 x3) (fun (s5 : zS) =>
    zv (wi s5 11 0) (fun (s6 : zS) =>
    zv (wi s6 12 0) (fun (s7 : zS) =>
    zy1 (fX2_renewPlaces_35 v2 500 0 s7) (fun (s8 : zS) =>
    some s8)))))
set_option maxHeartbeats 4000000 in
set_option maxRecDepth 100000 in
theorem lX2_renewPlaces_35 {C : zK} {A : Nat → Nat} {cA : Nat → ClassId} (hC : zOK C (wX A cA) cX2_renewPlaces RX2 4 2 46) {v2 : Int32} : ∀ (n : Nat) (v3 : Int32) (σ : zS), zG C (wX A cA) 4 (fun q => zW C (wX A cA) 4 85 [] [] q) (fX2_renewPlaces_35 v2 n v3 σ) 35 [(0, .ref (A 4)), (2, .int v2), (3, .int v3)] [] σ := by
  intro n
  induction n with
  | zero => intro v3 σ; exact gg_none (o := none)
  | succ n ih =>
    intro v3 σ
    rw [fX2_renewPlaces_35]
    refine gg_iload_n (pc := 35) hC dX2_renewPlaces_35 (i := 3) rfl 2 rfl ?_
    refine gg_aload_n (pc := 36) hC dX2_renewPlaces_36 (i := 0) rfl 0 rfl ?_
    refine gg_get (pc := 37) hC dX2_renewPlaces_37 fX2_29 4 pX_4 (v := .int (zi σ 9)) rfl ?_
    refine gg_icmp_ge (pc := 40) hC dX2_renewPlaces_40 (tgt := 85) rfl (fun _ => ?_) (fun _ => ?_)
    · exact gg_y (fun h => zW_lv [] rfl h)
    · refine gg_aload_n (pc := 43) hC dX2_renewPlaces_43 (i := 0) rfl 0 rfl ?_
      refine gg_get (pc := 44) hC dX2_renewPlaces_44 fX2_23 4 pX_4 (v := .ref (A 18)) rfl ?_
      refine gg_iload_n (pc := 47) hC dX2_renewPlaces_47 (i := 3) rfl 2 rfl ?_
      refine gg_iload_n (pc := 48) hC dX2_renewPlaces_48 (i := 2) rfl 1 rfl ?_
      refine gg_iconst (pc := 49) hC dX2_renewPlaces_49 (x := 1) rfl ?_
      refine gg_join1 (E' := (fun q => zW C (wX A cA) 4 63 [(0, .ref (A 4)), (2, .int v2), (3, .int v3)] [.int q, .int v3, .ref (A 18)] σ)) ?_ (fun x1 => ?_)
      · refine gg_icmp_ne (pc := 50) hC dX2_renewPlaces_50 (tgt := 62) rfl (fun _ => ?_) (fun _ => ?_)
        · refine gg_iload_n (pc := 53) hC dX2_renewPlaces_53 (i := 3) rfl 2 rfl ?_
          refine gg_aload_n (pc := 54) hC dX2_renewPlaces_54 (i := 0) rfl 0 rfl ?_
          refine gg_get (pc := 55) hC dX2_renewPlaces_55 fX2_40 4 pX_4 (v := .int (zi σ 11)) rfl ?_
          refine gg_iadd (pc := 58) hC dX2_renewPlaces_58 ?_
          refine gg_goto (pc := 59) hC dX2_renewPlaces_59 (tgt := 63) rfl ?_
          exact gg_y (fun h => zW_lv [0, 1, 2] rfl h)
        · refine gg_iload_n (pc := 62) hC dX2_renewPlaces_62 (i := 3) rfl 2 rfl ?_
          exact gg_y (fun h => zW_lv [0, 1, 2] rfl h)
      · show zG C (wX A cA) 4 _ _ 63 [(0, .ref (A 4)), (2, .int v2), (3, .int v3)] [.int x1, .int v3, .ref (A 18)] σ
        refine gg_iast (pc := 63) hC dX2_renewPlaces_63 18 0 pX_18 rfl sX_18 ?_
        refine gg_zvs (fun s2 => ?_)
        refine gg_iload_n (pc := 64) hC dX2_renewPlaces_64 (i := 3) rfl 2 rfl ?_
        refine gg_iconst (pc := 65) hC dX2_renewPlaces_65 (x := 1) rfl ?_
        refine gg_iadd (pc := 66) hC dX2_renewPlaces_66 ?_
        refine gg_aload_n (pc := 67) hC dX2_renewPlaces_67 (i := 0) rfl 0 rfl ?_
        refine gg_get (pc := 68) hC dX2_renewPlaces_68 fX2_29 4 pX_4 (v := .int (zi s2 9)) rfl ?_
        refine gg_join1 (E' := (fun q => zW C (wX A cA) 4 79 [(0, .ref (A 4)), (2, .int v2), (3, .int v3)] [] q)) ?_ (fun s4 => ?_)
        · refine gg_icmp_ge (pc := 71) hC dX2_renewPlaces_71 (tgt := 79) rfl (fun _ => ?_) (fun _ => ?_)
          · exact gg_y (fun h => zW_lv [0, 1, 2] rfl h)
          · refine gg_aload_n (pc := 74) hC dX2_renewPlaces_74 (i := 0) rfl 0 rfl ?_
            refine gg_iload_n (pc := 75) hC dX2_renewPlaces_75 (i := 3) rfl 2 rfl ?_
            refine gg_callVV (pc := 76) hC dX2_renewPlaces_76 vX2_87 (fun _ h => mX2_judgeGap h) (Nat.le_of_ble_eq_true rfl) (Nat.le_of_ble_eq_true rfl) (As := [.int v3]) (rest := []) rfl rfl (Nat.le_of_ble_eq_true rfl) 4 2 pX_4 rfl (fun s3 => ?_)
            exact gg_y (fun h => zW_lv [0, 1, 2] rfl h)
        · show zG C (wX A cA) 4 _ _ 79 [(0, .ref (A 4)), (2, .int v2), (3, .int v3)] [] s4
          refine gg_iinc (pc := 79) hC dX2_renewPlaces_79 (y := 0) (j := 2) rfl (z := 1) rfl (Nat.le_of_ble_eq_true rfl) (lv' := [(3, .int (v3 + 1)), (0, .ref (A 4)), (2, .int v2)]) rfl ?_
          refine gg_goto (pc := 82) hC dX2_renewPlaces_82 (tgt := 35) rfl ?_
          exact gg_lv [1, 2, 0] rfl (ih _ _)
set_option maxHeartbeats 4000000 in
set_option maxRecDepth 100000 in
theorem mX2_renewPlaces {l : Launch} {D : va_G} {A : Nat → Nat} {cA : Nat → ClassId} {v1 : Int32} {v2 : Int32}  {σ : zS} {r : zS} (h : fX2_renewPlaces v1 v2 σ = some r) : zMV l D (wX A cA) yX2_renewPlaces (zws yX2_renewPlaces cX2_renewPlaces 4 none) 2 46 [.ref (A 4), .int v1, .int v2] σ r := by
  refine zm_V (lv := [(0, .ref (A 4)), (1, .int v1), (2, .int v2)]) rfl (sX_ok A) (Nat.le_of_ble_eq_true rfl) rfl (fun C _ _ hC hR => ?_) h
  unfold fX2_renewPlaces
  refine gg_aload_n (pc := 0) hC dX2_renewPlaces_0 (i := 0) rfl 0 rfl ?_
  refine gg_iload_n (pc := 1) hC dX2_renewPlaces_1 (i := 1) rfl 1 rfl ?_
  refine gg_join2 (E' := (fun q => zW C (wX A cA) 4 20 [(0, .ref (A 4)), (2, .int v2)] [.long q.1, .ref (A 4)] q.2)) ?_ (fun x3 s4 => ?_)
  · refine gg_if_le (pc := 2) hC dX2_renewPlaces_2 (tgt := 16) rfl (fun _ => ?_) (fun _ => ?_)
    · refine gg_aload_n (pc := 16) hC dX2_renewPlaces_16 (i := 0) rfl 0 rfl ?_
      refine gg_callVL (pc := 17) hC dX2_renewPlaces_17 vX2_83 (fun _ h => mX2_medianGap h) (Nat.le_of_ble_eq_true rfl) (Nat.le_of_ble_eq_true rfl) (As := []) (rest := [.ref (A 4)]) rfl rfl (Nat.le_of_ble_eq_true rfl) 4 2 pX_4 rfl (fun x1 s2 => ?_)
      exact gg_y (fun h => zW_lv [0, 2] rfl h)
    · refine gg_iload_n (pc := 5) hC dX2_renewPlaces_5 (i := 1) rfl 1 rfl ?_
      refine gg_i2l (pc := 6) hC dX2_renewPlaces_6 ?_
      refine gg_aload_n (pc := 7) hC dX2_renewPlaces_7 (i := 0) rfl 0 rfl ?_
      refine gg_get (pc := 8) hC dX2_renewPlaces_8 fX2_33 4 pX_4 (v := .int (zi σ 10)) rfl ?_
      refine gg_i2l (pc := 11) hC dX2_renewPlaces_11 ?_
      refine gg_lmul (pc := 12) hC dX2_renewPlaces_12 ?_
      refine gg_goto (pc := 13) hC dX2_renewPlaces_13 (tgt := 20) rfl ?_
      exact gg_y (fun h => zW_lv [0, 2] rfl h)
  · show zG C (wX A cA) 4 _ _ 20 [(0, .ref (A 4)), (2, .int v2)] [.long x3, .ref (A 4)] s4
    refine gg_put (pc := 20) hC dX2_renewPlaces_20 fX2_36 tX2_2 4 pX_4 rfl rfl rfl (Nat.le_of_ble_eq_true rfl) sX_4_7 ?_
    refine gg_zvs (fun s5 => ?_)
    refine gg_aload_n (pc := 23) hC dX2_renewPlaces_23 (i := 0) rfl 0 rfl ?_
    refine gg_iconst (pc := 24) hC dX2_renewPlaces_24 (x := 0) rfl ?_
    refine gg_put (pc := 25) hC dX2_renewPlaces_25 fX2_40 tX2_2 4 pX_4 rfl rfl rfl (Nat.le_of_ble_eq_true rfl) sX_4_8 ?_
    refine gg_zvs (fun s6 => ?_)
    refine gg_aload_n (pc := 28) hC dX2_renewPlaces_28 (i := 0) rfl 0 rfl ?_
    refine gg_iconst (pc := 29) hC dX2_renewPlaces_29 (x := 0) rfl ?_
    refine gg_put (pc := 30) hC dX2_renewPlaces_30 fX2_43 tX2_2 4 pX_4 rfl rfl rfl (Nat.le_of_ble_eq_true rfl) sX_4_9 ?_
    refine gg_zvs (fun s7 => ?_)
    refine gg_iconst (pc := 33) hC dX2_renewPlaces_33 (x := 0) rfl ?_
    refine gg_istore_n (pc := 34) hC dX2_renewPlaces_34 (i := 3) rfl (Nat.le_of_ble_eq_true rfl) (lv' := [(3, .int 0), (0, .ref (A 4)), (2, .int v2)]) rfl ?_
    refine gg_join1 (E' := (fun q => zW C (wX A cA) 4 85 [] [] q)) (gg_lv [1, 2, 0] rfl (lX2_renewPlaces_35 hC  500 _ _)) (fun s8 => ?_)
    show zG C (wX A cA) 4 _ _ 85 [] [] s8
    exact gg_vret (pc := 85) hR dX2_renewPlaces_85
def fX2_renewStamps_61 (v4 : Int32) : Nat → Int32 → zS → Option (zS)
  | 0, _, _ => none
  | n + 1, v5, σ =>
    if (zi σ 9) ≤ v5 then (some σ) else
    (zy1 (fX5_fineOf v5 σ) (fun x1 =>
    zy1 (fX0_codeOf x1 σ) (fun x2 =>
    zy1 (fX2_middleOf x2 v4 σ) (fun x3 =>
    zy1 (fX5_coarseOf v5 σ) (fun x4 =>
    zg (zq v5 32) (zv (wj σ 0 v5.toNatClampNeg ((((60 : Int64) * (x4.toInt64)) * ((zi σ 10).toInt64)) + (x3.toInt64))) (fun (s5 : zS) =>
    fX2_renewStamps_61 v4 n (v5 + 1) s5)))))))
def fX2_renewStamps (v3 : Int32) (σ : zS) : Option (zS) :=
    zy1 (if v3 = 1 then (if (zi σ 7) = 0 then (some 0) else
    (some v3)) else
    (some v3)) (fun (x1 : Int32) =>
    zy1 (if x1 = 2 then (some 2) else
    (if x1 = 1 then (some (zi σ 7)) else
    (some (zi σ 6)))) (fun (x2 : Int32) =>
    zv (wi σ 10 x2) (fun (s3 : zS) =>
    zv (wi s3 9 (zi s3 5)) (fun (s4 : zS) =>
    zy1 (fX2_renewStamps_61 x1 500 0 s4) (fun (s5 : zS) =>
    some s5)))))
set_option maxHeartbeats 4000000 in
set_option maxRecDepth 100000 in
theorem lX2_renewStamps_61 {C : zK} {A : Nat → Nat} {cA : Nat → ClassId} (hC : zOK C (wX A cA) cX2_renewStamps RX2 7 2 46) {v4 : Int32} : ∀ (n : Nat) (v5 : Int32) (σ : zS), zG C (wX A cA) 7 (fun q => zW C (wX A cA) 7 122 [] [] q) (fX2_renewStamps_61 v4 n v5 σ) 61 [(0, .ref (A 4)), (1, .ref (A 1)), (2, .ref (A 2)), (4, .int v4), (5, .int v5)] [] σ := by
  intro n
  induction n with
  | zero => intro v5 σ; exact gg_none (o := none)
  | succ n ih =>
    intro v5 σ
    rw [fX2_renewStamps_61]
    refine gg_iload (pc := 61) hC dX2_renewStamps_61 4 rfl ?_
    refine gg_aload_n (pc := 63) hC dX2_renewStamps_63 (i := 0) rfl 0 rfl ?_
    refine gg_get (pc := 64) hC dX2_renewStamps_64 fX2_29 4 pX_4 (v := .int (zi σ 9)) rfl ?_
    refine gg_icmp_ge (pc := 67) hC dX2_renewStamps_67 (tgt := 122) rfl (fun _ => ?_) (fun _ => ?_)
    · exact gg_y (fun h => zW_lv [] rfl h)
    · refine gg_aload_n (pc := 70) hC dX2_renewStamps_70 (i := 2) rfl 2 rfl ?_
      refine gg_aload_n (pc := 71) hC dX2_renewStamps_71 (i := 2) rfl 2 rfl ?_
      refine gg_aload_n (pc := 72) hC dX2_renewStamps_72 (i := 1) rfl 1 rfl ?_
      refine gg_iload (pc := 73) hC dX2_renewStamps_73 4 rfl ?_
      refine gg_callVIr (pc := 75) hC dX2_renewStamps_75 vX2_55 (fun _ h => mX5_fineOf h) (Nat.le_of_ble_eq_true rfl) (Nat.le_of_ble_eq_true rfl) (As := [.int v5]) (rest := [.ref (A 2), .ref (A 2)]) rfl rfl (Nat.le_of_ble_eq_true rfl) 1 5 pX_1 rfl (fun x1 => ?_)
      refine gg_callVIr (pc := 78) hC dX2_renewStamps_78 vX2_59 (fun _ h => mX0_codeOf h) (Nat.le_of_ble_eq_true rfl) (Nat.le_of_ble_eq_true rfl) (As := [.int x1]) (rest := [.ref (A 2)]) rfl rfl (Nat.le_of_ble_eq_true rfl) 2 0 pX_2 rfl (fun x2 => ?_)
      refine gg_iload (pc := 81) hC dX2_renewStamps_81 3 rfl ?_
      refine gg_callSIr (pc := 83) hC dX2_renewStamps_83 cX2_62 (fun _ h => mX2_middleOf h) (Nat.le_of_ble_eq_true rfl) (Nat.le_of_ble_eq_true rfl) (As := [.ref (A 2), .int x2, .int v4]) (rest := []) rfl rfl (Nat.le_of_ble_eq_true rfl) (fun x3 => ?_)
      refine gg_istore (pc := 86) hC dX2_renewStamps_86 (Nat.le_of_ble_eq_true rfl) (lv' := [(6, .int x3), (0, .ref (A 4)), (1, .ref (A 1)), (2, .ref (A 2)), (4, .int v4), (5, .int v5)]) rfl ?_
      refine gg_aload_n (pc := 88) hC dX2_renewStamps_88 (i := 0) rfl 1 rfl ?_
      refine gg_get (pc := 89) hC dX2_renewStamps_89 fX2_9 4 pX_4 (v := .ref (A 15)) rfl ?_
      refine gg_iload (pc := 92) hC dX2_renewStamps_92 5 rfl ?_
      refine gg_ldc2 (pc := 94) hC dX2_renewStamps_94 qX2_66 ?_
      refine gg_aload_n (pc := 97) hC dX2_renewStamps_97 (i := 1) rfl 2 rfl ?_
      refine gg_iload (pc := 98) hC dX2_renewStamps_98 5 rfl ?_
      refine gg_callVIr (pc := 100) hC dX2_renewStamps_100 vX2_68 (fun _ h => mX5_coarseOf h) (Nat.le_of_ble_eq_true rfl) (Nat.le_of_ble_eq_true rfl) (As := [.int v5]) (rest := [.long (60 : Int64), .int v5, .ref (A 15)]) rfl rfl (Nat.le_of_ble_eq_true rfl) 1 5 pX_1 rfl (fun x4 => ?_)
      refine gg_i2l (pc := 103) hC dX2_renewStamps_103 ?_
      refine gg_lmul (pc := 104) hC dX2_renewStamps_104 ?_
      refine gg_aload_n (pc := 105) hC dX2_renewStamps_105 (i := 0) rfl 1 rfl ?_
      refine gg_get (pc := 106) hC dX2_renewStamps_106 fX2_33 4 pX_4 (v := .int (zi σ 10)) rfl ?_
      refine gg_i2l (pc := 109) hC dX2_renewStamps_109 ?_
      refine gg_lmul (pc := 110) hC dX2_renewStamps_110 ?_
      refine gg_iload (pc := 111) hC dX2_renewStamps_111 0 rfl ?_
      refine gg_i2l (pc := 113) hC dX2_renewStamps_113 ?_
      refine gg_ladd (pc := 114) hC dX2_renewStamps_114 ?_
      refine gg_last (pc := 115) hC dX2_renewStamps_115 15 1 pX_15 rfl sX_15 ?_
      refine gg_zvs (fun s5 => ?_)
      refine gg_iinc (pc := 116) hC dX2_renewStamps_116 (y := 0) (j := 5) rfl (z := 1) rfl (Nat.le_of_ble_eq_true rfl) (lv' := [(5, .int (v5 + 1)), (6, .int x3), (0, .ref (A 4)), (1, .ref (A 1)), (2, .ref (A 2)), (4, .int v4)]) rfl ?_
      refine gg_goto (pc := 119) hC dX2_renewStamps_119 (tgt := 61) rfl ?_
      exact gg_lv [2, 3, 4, 5, 0] rfl (ih _ _)
set_option maxHeartbeats 4000000 in
set_option maxRecDepth 100000 in
theorem mX2_renewStamps {l : Launch} {D : va_G} {A : Nat → Nat} {cA : Nat → ClassId} {v3 : Int32}  {σ : zS} {r : zS} (h : fX2_renewStamps v3 σ = some r) : zMV l D (wX A cA) yX2_renewStamps (zws yX2_renewStamps cX2_renewStamps 7 none) 2 46 [.ref (A 4), .ref (A 1), .ref (A 2), .int v3] σ r := by
  refine zm_V (lv := [(0, .ref (A 4)), (1, .ref (A 1)), (2, .ref (A 2)), (3, .int v3)]) rfl (sX_ok A) (Nat.le_of_ble_eq_true rfl) rfl (fun C _ _ hC hR => ?_) h
  unfold fX2_renewStamps
  refine gg_iload_n (pc := 0) hC dX2_renewStamps_0 (i := 3) rfl 3 rfl ?_
  refine gg_iconst (pc := 1) hC dX2_renewStamps_1 (x := 1) rfl ?_
  refine gg_join1 (E' := (fun q => zW C (wX A cA) 7 17 [(0, .ref (A 4)), (1, .ref (A 1)), (2, .ref (A 2))] [.int q] σ)) ?_ (fun x1 => ?_)
  · refine gg_icmp_ne (pc := 2) hC dX2_renewStamps_2 (tgt := 16) rfl (fun _ => ?_) (fun _ => ?_)
    · refine gg_aload_n (pc := 5) hC dX2_renewStamps_5 (i := 2) rfl 2 rfl ?_
      refine gg_get (pc := 6) hC dX2_renewStamps_6 fX2_46 2 pX_2 (v := .int (zi σ 7)) rfl ?_
      refine gg_if_ne (pc := 9) hC dX2_renewStamps_9 (tgt := 16) rfl (fun _ => ?_) (fun _ => ?_)
      · refine gg_iconst (pc := 12) hC dX2_renewStamps_12 (x := 0) rfl ?_
        refine gg_goto (pc := 13) hC dX2_renewStamps_13 (tgt := 17) rfl ?_
        exact gg_y (fun h => zW_lv [0, 1, 2] rfl h)
      · refine gg_iload_n (pc := 16) hC dX2_renewStamps_16 (i := 3) rfl 3 rfl ?_
        exact gg_y (fun h => zW_lv [0, 1, 2] rfl h)
    · refine gg_iload_n (pc := 16) hC dX2_renewStamps_16 (i := 3) rfl 3 rfl ?_
      exact gg_y (fun h => zW_lv [0, 1, 2] rfl h)
  · show zG C (wX A cA) 7 _ _ 17 [(0, .ref (A 4)), (1, .ref (A 1)), (2, .ref (A 2))] [.int x1] σ
    refine gg_istore (pc := 17) hC dX2_renewStamps_17 (Nat.le_of_ble_eq_true rfl) (lv' := [(4, .int x1), (0, .ref (A 4)), (1, .ref (A 1)), (2, .ref (A 2))]) rfl ?_
    refine gg_aload_n (pc := 19) hC dX2_renewStamps_19 (i := 0) rfl 1 rfl ?_
    refine gg_iload (pc := 20) hC dX2_renewStamps_20 0 rfl ?_
    refine gg_iconst (pc := 22) hC dX2_renewStamps_22 (x := 2) rfl ?_
    refine gg_join1 (E' := (fun q => zW C (wX A cA) 7 47 [(0, .ref (A 4)), (1, .ref (A 1)), (2, .ref (A 2)), (4, .int x1)] [.int q, .ref (A 4)] σ)) ?_ (fun x2 => ?_)
    · refine gg_icmp_ne (pc := 23) hC dX2_renewStamps_23 (tgt := 30) rfl (fun _ => ?_) (fun _ => ?_)
      · refine gg_iconst (pc := 26) hC dX2_renewStamps_26 (x := 2) rfl ?_
        refine gg_goto (pc := 27) hC dX2_renewStamps_27 (tgt := 47) rfl ?_
        exact gg_y (fun h => zW_lv [1, 2, 3, 0] rfl h)
      · refine gg_iload (pc := 30) hC dX2_renewStamps_30 0 rfl ?_
        refine gg_iconst (pc := 32) hC dX2_renewStamps_32 (x := 1) rfl ?_
        refine gg_icmp_ne (pc := 33) hC dX2_renewStamps_33 (tgt := 43) rfl (fun _ => ?_) (fun _ => ?_)
        · refine gg_aload_n (pc := 36) hC dX2_renewStamps_36 (i := 2) rfl 3 rfl ?_
          refine gg_get (pc := 37) hC dX2_renewStamps_37 fX2_46 2 pX_2 (v := .int (zi σ 7)) rfl ?_
          refine gg_goto (pc := 40) hC dX2_renewStamps_40 (tgt := 47) rfl ?_
          exact gg_y (fun h => zW_lv [1, 2, 3, 0] rfl h)
        · refine gg_aload_n (pc := 43) hC dX2_renewStamps_43 (i := 2) rfl 3 rfl ?_
          refine gg_get (pc := 44) hC dX2_renewStamps_44 fX2_51 2 pX_2 (v := .int (zi σ 6)) rfl ?_
          exact gg_y (fun h => zW_lv [1, 2, 3, 0] rfl h)
    · show zG C (wX A cA) 7 _ _ 47 [(0, .ref (A 4)), (1, .ref (A 1)), (2, .ref (A 2)), (4, .int x1)] [.int x2, .ref (A 4)] σ
      refine gg_put (pc := 47) hC dX2_renewStamps_47 fX2_33 tX2_2 4 pX_4 rfl rfl rfl (Nat.le_of_ble_eq_true rfl) sX_4_6 ?_
      refine gg_zvs (fun s3 => ?_)
      refine gg_aload_n (pc := 50) hC dX2_renewStamps_50 (i := 0) rfl 0 rfl ?_
      refine gg_aload_n (pc := 51) hC dX2_renewStamps_51 (i := 1) rfl 1 rfl ?_
      refine gg_get (pc := 52) hC dX2_renewStamps_52 fX2_52 1 pX_1 (v := .int (zi s3 5)) rfl ?_
      refine gg_put (pc := 55) hC dX2_renewStamps_55 fX2_29 tX2_2 4 pX_4 rfl rfl rfl (Nat.le_of_ble_eq_true rfl) sX_4_5 ?_
      refine gg_zvs (fun s4 => ?_)
      refine gg_iconst (pc := 58) hC dX2_renewStamps_58 (x := 0) rfl ?_
      refine gg_istore (pc := 59) hC dX2_renewStamps_59 (Nat.le_of_ble_eq_true rfl) (lv' := [(5, .int 0), (0, .ref (A 4)), (1, .ref (A 1)), (2, .ref (A 2)), (4, .int x1)]) rfl ?_
      refine gg_join1 (E' := (fun q => zW C (wX A cA) 7 122 [] [] q)) (gg_lv [1, 2, 3, 4, 0] rfl (lX2_renewStamps_61 hC  500 _ _)) (fun s5 => ?_)
      show zG C (wX A cA) 7 _ _ 122 [] [] s5
      exact gg_vret (pc := 122) hR dX2_renewStamps_122
def fX4_isSteadier (v1 : Int32) (v2 : Int32) (σ : zS) : Option (Int32) :=
    zg (zq v1 16) (zg (zq v2 16) (zg (zq v2 16) (zg (zq v1 16) (if ((zj σ 2 v2.toNatClampNeg) * (zj σ 3 v1.toNatClampNeg)) ≤ ((zj σ 2 v1.toNatClampNeg) * (zj σ 3 v2.toNatClampNeg)) then (some 0) else
    (some 1)))))
set_option maxHeartbeats 4000000 in
set_option maxRecDepth 100000 in
theorem mX4_isSteadier {l : Launch} {D : va_G} {A : Nat → Nat} {cA : Nat → ClassId} {v1 : Int32} {v2 : Int32}  {σ : zS} {r : Int32} (h : fX4_isSteadier v1 v2 σ = some r) : zMI l D (wX A cA) yX4_isSteadier (zws yX4_isSteadier cX4_isSteadier 3 (some .boolean)) 0 0 [.ref (A 5), .int v1, .int v2] σ (r, σ) := by
  refine zm_Zr (lv := [(0, .ref (A 5)), (1, .int v1), (2, .int v2)]) rfl (sX_ok A) (Nat.le_of_ble_eq_true rfl) rfl (fun C _ _ hC hR => ?_) h
  unfold fX4_isSteadier
  refine gg_aload_n (pc := 0) hC dX4_isSteadier_0 (i := 0) rfl 0 rfl ?_
  refine gg_get (pc := 1) hC dX4_isSteadier_1 fX4_9 5 pX_5 (v := .ref (A 20)) rfl ?_
  refine gg_iload_n (pc := 4) hC dX4_isSteadier_4 (i := 1) rfl 1 rfl ?_
  refine gg_lald (pc := 5) hC dX4_isSteadier_5 20 1 pX_20 rfl ?_
  refine gg_aload_n (pc := 6) hC dX4_isSteadier_6 (i := 0) rfl 0 rfl ?_
  refine gg_get (pc := 7) hC dX4_isSteadier_7 fX4_15 5 pX_5 (v := .ref (A 21)) rfl ?_
  refine gg_iload_n (pc := 10) hC dX4_isSteadier_10 (i := 2) rfl 2 rfl ?_
  refine gg_lald (pc := 11) hC dX4_isSteadier_11 21 1 pX_21 rfl ?_
  refine gg_lmul (pc := 12) hC dX4_isSteadier_12 ?_
  refine gg_aload_n (pc := 13) hC dX4_isSteadier_13 (i := 0) rfl 0 rfl ?_
  refine gg_get (pc := 14) hC dX4_isSteadier_14 fX4_9 5 pX_5 (v := .ref (A 20)) rfl ?_
  refine gg_iload_n (pc := 17) hC dX4_isSteadier_17 (i := 2) rfl 2 rfl ?_
  refine gg_lald (pc := 18) hC dX4_isSteadier_18 20 1 pX_20 rfl ?_
  refine gg_aload_n (pc := 19) hC dX4_isSteadier_19 (i := 0) rfl 0 rfl ?_
  refine gg_get (pc := 20) hC dX4_isSteadier_20 fX4_15 5 pX_5 (v := .ref (A 21)) rfl ?_
  refine gg_iload_n (pc := 23) hC dX4_isSteadier_23 (i := 1) rfl 1 rfl ?_
  refine gg_lald (pc := 24) hC dX4_isSteadier_24 21 1 pX_21 rfl ?_
  refine gg_lmul (pc := 25) hC dX4_isSteadier_25 ?_
  refine gg_lcmp_ge (pc := 26) hC dX4_isSteadier_26 dX4_isSteadier_27 (tgt := 34) rfl (fun _ => ?_) (fun _ => ?_)
  · refine gg_iconst (pc := 34) hC dX4_isSteadier_34 (x := 0) rfl ?_
    exact gg_zretr (pc := 35) hR dX4_isSteadier_35 rfl
  · refine gg_iconst (pc := 30) hC dX4_isSteadier_30 (x := 1) rfl ?_
    refine gg_goto (pc := 31) hC dX4_isSteadier_31 (tgt := 35) rfl ?_
    exact gg_zretr (pc := 35) hR dX4_isSteadier_35 rfl
def fX4_placeByRank_4 (v1 : Int32) : Nat → Int32 → zS → Option (Int32 × zS)
  | 0, _, _ => none
  | n + 1, v2, σ =>
    if v2 ≤ 0 then (some (v2, σ)) else
    (zg (zq (v2 - 1) 15) (zy1 (fX4_isSteadier v1 (za σ 11 (v2 - 1).toNatClampNeg) σ) (fun x1 =>
    if x1 = 0 then (some (v2, σ)) else
    (zg (zq (v2 - 1) 15) (zg (zq v2 15) (zv (wa σ 11 v2.toNatClampNeg (za σ 11 (v2 - 1).toNatClampNeg)) (fun (s2 : zS) =>
    fX4_placeByRank_4 v1 n (v2 + (-1)) s2)))))))
def fX4_placeByRank (v1 : Int32) (σ : zS) : Option (zS) :=
    zv (v1 - 1) (fun (x1 : Int32) =>
    zy2 (fX4_placeByRank_4 v1 500 x1 σ) (fun (x2 : Int32) (s3 : zS) =>
    zg (zq x2 15) (zv (wa s3 11 x2.toNatClampNeg v1) (fun (s4 : zS) =>
    some s4))))
set_option maxHeartbeats 4000000 in
set_option maxRecDepth 100000 in
theorem lX4_placeByRank_4 {C : zK} {A : Nat → Nat} {cA : Nat → ClassId} (hC : zOK C (wX A cA) cX4_placeByRank RX4 3 1 22) {v1 : Int32} : ∀ (n : Nat) (v2 : Int32) (σ : zS), zG C (wX A cA) 3 (fun q => zW C (wX A cA) 3 44 [(0, .ref (A 5)), (1, .int v1), (2, .int q.1)] [] q.2) (fX4_placeByRank_4 v1 n v2 σ) 4 [(0, .ref (A 5)), (1, .int v1), (2, .int v2)] [] σ := by
  intro n
  induction n with
  | zero => intro v2 σ; exact gg_none (o := none)
  | succ n ih =>
    intro v2 σ
    rw [fX4_placeByRank_4]
    refine gg_iload_n (pc := 4) hC dX4_placeByRank_4 (i := 2) rfl 2 rfl ?_
    refine gg_if_le (pc := 5) hC dX4_placeByRank_5 (tgt := 44) rfl (fun _ => ?_) (fun _ => ?_)
    · exact gg_y (fun h => zW_lv [0, 1, 2] rfl h)
    · refine gg_aload_n (pc := 8) hC dX4_placeByRank_8 (i := 0) rfl 0 rfl ?_
      refine gg_iload_n (pc := 9) hC dX4_placeByRank_9 (i := 1) rfl 1 rfl ?_
      refine gg_aload_n (pc := 10) hC dX4_placeByRank_10 (i := 0) rfl 0 rfl ?_
      refine gg_get (pc := 11) hC dX4_placeByRank_11 fX4_18 5 pX_5 (v := .ref (A 22)) rfl ?_
      refine gg_iload_n (pc := 14) hC dX4_placeByRank_14 (i := 2) rfl 2 rfl ?_
      refine gg_iconst (pc := 15) hC dX4_placeByRank_15 (x := 1) rfl ?_
      refine gg_isub (pc := 16) hC dX4_placeByRank_16 ?_
      refine gg_iald (pc := 17) hC dX4_placeByRank_17 22 0 pX_22 rfl ?_
      refine gg_callVIr (pc := 18) hC dX4_placeByRank_18 vX4_51 (fun _ h => mX4_isSteadier h) (Nat.le_of_ble_eq_true rfl) (Nat.le_of_ble_eq_true rfl) (As := [.int v1, .int (za σ 11 (v2 - 1).toNatClampNeg)]) (rest := []) rfl rfl (Nat.le_of_ble_eq_true rfl) 5 4 pX_5 rfl (fun x1 => ?_)
      refine gg_if_eq (pc := 21) hC dX4_placeByRank_21 (tgt := 44) rfl (fun _ => ?_) (fun _ => ?_)
      · exact gg_y (fun h => zW_lv [0, 1, 2] rfl h)
      · refine gg_aload_n (pc := 24) hC dX4_placeByRank_24 (i := 0) rfl 0 rfl ?_
        refine gg_get (pc := 25) hC dX4_placeByRank_25 fX4_18 5 pX_5 (v := .ref (A 22)) rfl ?_
        refine gg_iload_n (pc := 28) hC dX4_placeByRank_28 (i := 2) rfl 2 rfl ?_
        refine gg_aload_n (pc := 29) hC dX4_placeByRank_29 (i := 0) rfl 0 rfl ?_
        refine gg_get (pc := 30) hC dX4_placeByRank_30 fX4_18 5 pX_5 (v := .ref (A 22)) rfl ?_
        refine gg_iload_n (pc := 33) hC dX4_placeByRank_33 (i := 2) rfl 2 rfl ?_
        refine gg_iconst (pc := 34) hC dX4_placeByRank_34 (x := 1) rfl ?_
        refine gg_isub (pc := 35) hC dX4_placeByRank_35 ?_
        refine gg_iald (pc := 36) hC dX4_placeByRank_36 22 0 pX_22 rfl ?_
        refine gg_iast (pc := 37) hC dX4_placeByRank_37 22 0 pX_22 rfl sX_22 ?_
        refine gg_zvs (fun s2 => ?_)
        refine gg_iinc (pc := 38) hC dX4_placeByRank_38 (y := 0) (j := 2) rfl (z := -1) rfl (Nat.le_of_ble_eq_true rfl) (lv' := [(2, .int (v2 + (-1))), (0, .ref (A 5)), (1, .int v1)]) rfl ?_
        refine gg_goto (pc := 41) hC dX4_placeByRank_41 (tgt := 4) rfl ?_
        exact gg_lv [1, 2, 0] rfl (ih _ _)
set_option maxHeartbeats 4000000 in
set_option maxRecDepth 100000 in
theorem mX4_placeByRank {l : Launch} {D : va_G} {A : Nat → Nat} {cA : Nat → ClassId} {v1 : Int32}  {σ : zS} {r : zS} (h : fX4_placeByRank v1 σ = some r) : zMV l D (wX A cA) yX4_placeByRank (zws yX4_placeByRank cX4_placeByRank 3 none) 1 22 [.ref (A 5), .int v1] σ r := by
  refine zm_V (lv := [(0, .ref (A 5)), (1, .int v1)]) rfl (sX_ok A) (Nat.le_of_ble_eq_true rfl) rfl (fun C _ _ hC hR => ?_) h
  unfold fX4_placeByRank
  refine gg_iload_n (pc := 0) hC dX4_placeByRank_0 (i := 1) rfl 1 rfl ?_
  refine gg_iconst (pc := 1) hC dX4_placeByRank_1 (x := 1) rfl ?_
  refine gg_isub (pc := 2) hC dX4_placeByRank_2 ?_
  refine gg_zvi (fun x1 => ?_)
  refine gg_istore_n (pc := 3) hC dX4_placeByRank_3 (i := 2) rfl (Nat.le_of_ble_eq_true rfl) (lv' := [(2, .int x1), (0, .ref (A 5)), (1, .int v1)]) rfl ?_
  refine gg_join2 (E' := (fun q => zW C (wX A cA) 3 44 [(0, .ref (A 5)), (1, .int v1), (2, .int q.1)] [] q.2)) (gg_lv [1, 2, 0] rfl (lX4_placeByRank_4 hC  500 _ _)) (fun x2 s3 => ?_)
  show zG C (wX A cA) 3 _ _ 44 [(0, .ref (A 5)), (1, .int v1), (2, .int x2)] [] s3
  refine gg_aload_n (pc := 44) hC dX4_placeByRank_44 (i := 0) rfl 0 rfl ?_
  refine gg_get (pc := 45) hC dX4_placeByRank_45 fX4_18 5 pX_5 (v := .ref (A 22)) rfl ?_
  refine gg_iload_n (pc := 48) hC dX4_placeByRank_48 (i := 2) rfl 2 rfl ?_
  refine gg_iload_n (pc := 49) hC dX4_placeByRank_49 (i := 1) rfl 1 rfl ?_
  refine gg_iast (pc := 50) hC dX4_placeByRank_50 22 0 pX_22 rfl sX_22 ?_
  refine gg_zvs (fun s4 => ?_)
  exact gg_vret (pc := 51) hR dX4_placeByRank_51
def fX4_sumOfSquares_5 (v1 : Int32) (v2 : Int32) (σ : zS) : Nat → Int64 → Int32 → Option (Int64)
  | 0, _, _ => none
  | n + 1, v3, v5 =>
    if v2 ≤ v5 then (some v3) else
    (zg (zq (v5 + (2 * v1)) 32) (zg (zq (v5 + v1) 32) (zg (zq v5 32) (zv (((zj σ 0 (v5 + (2 * v1)).toNatClampNeg) - ((2 : Int64) * (zj σ 0 (v5 + v1).toNatClampNeg))) + (zj σ 0 v5.toNatClampNeg)) (fun (x1 : Int64) =>
    zv (v3 + (x1 * x1)) (fun (x2 : Int64) =>
    fX4_sumOfSquares_5 v1 v2 σ n x2 (v5 + 1)))))))
def fX4_sumOfSquares (v1 : Int32) (v2 : Int32) (σ : zS) : Option (Int64) :=
    zy1 (fX4_sumOfSquares_5 v1 v2 σ 500 (0 : Int64) 0) (fun (x1 : Int64) =>
    some x1)
set_option maxHeartbeats 4000000 in
set_option maxRecDepth 100000 in
theorem lX4_sumOfSquares_5 {C : zK} {A : Nat → Nat} {cA : Nat → ClassId} (hC : zOK C (wX A cA) cX4_sumOfSquares RX4 8 0 0) {v1 : Int32} {v2 : Int32} {σ : zS} : ∀ (n : Nat) (v3 : Int64) (v5 : Int32), zG C (wX A cA) 8 (fun q => zW C (wX A cA) 8 51 [(3, .long q)] [] σ) (fX4_sumOfSquares_5 v1 v2 σ n v3 v5) 5 [(0, .ref (A 15)), (1, .int v1), (2, .int v2), (3, .long v3), (5, .int v5)] [] σ := by
  intro n
  induction n with
  | zero => intro v3 v5; exact gg_none (o := none)
  | succ n ih =>
    intro v3 v5
    rw [fX4_sumOfSquares_5]
    refine gg_iload (pc := 5) hC dX4_sumOfSquares_5 4 rfl ?_
    refine gg_iload_n (pc := 7) hC dX4_sumOfSquares_7 (i := 2) rfl 2 rfl ?_
    refine gg_icmp_ge (pc := 8) hC dX4_sumOfSquares_8 (tgt := 51) rfl (fun _ => ?_) (fun _ => ?_)
    · exact gg_y (fun h => zW_lv [3] rfl h)
    · refine gg_aload_n (pc := 11) hC dX4_sumOfSquares_11 (i := 0) rfl 0 rfl ?_
      refine gg_iload (pc := 12) hC dX4_sumOfSquares_12 4 rfl ?_
      refine gg_iconst (pc := 14) hC dX4_sumOfSquares_14 (x := 2) rfl ?_
      refine gg_iload_n (pc := 15) hC dX4_sumOfSquares_15 (i := 1) rfl 1 rfl ?_
      refine gg_imul (pc := 16) hC dX4_sumOfSquares_16 ?_
      refine gg_iadd (pc := 17) hC dX4_sumOfSquares_17 ?_
      refine gg_lald (pc := 18) hC dX4_sumOfSquares_18 15 1 pX_15 rfl ?_
      refine gg_ldc2 (pc := 19) hC dX4_sumOfSquares_19 qX4_49 ?_
      refine gg_aload_n (pc := 22) hC dX4_sumOfSquares_22 (i := 0) rfl 0 rfl ?_
      refine gg_iload (pc := 23) hC dX4_sumOfSquares_23 4 rfl ?_
      refine gg_iload_n (pc := 25) hC dX4_sumOfSquares_25 (i := 1) rfl 1 rfl ?_
      refine gg_iadd (pc := 26) hC dX4_sumOfSquares_26 ?_
      refine gg_lald (pc := 27) hC dX4_sumOfSquares_27 15 1 pX_15 rfl ?_
      refine gg_lmul (pc := 28) hC dX4_sumOfSquares_28 ?_
      refine gg_lsub (pc := 29) hC dX4_sumOfSquares_29 ?_
      refine gg_aload_n (pc := 30) hC dX4_sumOfSquares_30 (i := 0) rfl 0 rfl ?_
      refine gg_iload (pc := 31) hC dX4_sumOfSquares_31 4 rfl ?_
      refine gg_lald (pc := 33) hC dX4_sumOfSquares_33 15 1 pX_15 rfl ?_
      refine gg_ladd (pc := 34) hC dX4_sumOfSquares_34 ?_
      refine gg_zvl (fun x1 => ?_)
      refine gg_lstore (pc := 35) hC dX4_sumOfSquares_35 (Nat.le_of_ble_eq_true rfl) (lv' := [(6, .long x1), (0, .ref (A 15)), (1, .int v1), (2, .int v2), (3, .long v3), (5, .int v5)]) rfl ?_
      refine gg_lload_n (pc := 37) hC dX4_sumOfSquares_37 (i := 3) rfl 4 rfl ?_
      refine gg_lload (pc := 38) hC dX4_sumOfSquares_38 0 rfl ?_
      refine gg_lload (pc := 40) hC dX4_sumOfSquares_40 0 rfl ?_
      refine gg_lmul (pc := 42) hC dX4_sumOfSquares_42 ?_
      refine gg_ladd (pc := 43) hC dX4_sumOfSquares_43 ?_
      refine gg_zvl (fun x2 => ?_)
      refine gg_lstore_n (pc := 44) hC dX4_sumOfSquares_44 (i := 3) rfl (Nat.le_of_ble_eq_true rfl) (lv' := [(3, .long x2), (6, .long x1), (0, .ref (A 15)), (1, .int v1), (2, .int v2), (5, .int v5)]) rfl ?_
      refine gg_iinc (pc := 45) hC dX4_sumOfSquares_45 (y := 0) (j := 5) rfl (z := 1) rfl (Nat.le_of_ble_eq_true rfl) (lv' := [(5, .int (v5 + 1)), (3, .long x2), (6, .long x1), (0, .ref (A 15)), (1, .int v1), (2, .int v2)]) rfl ?_
      refine gg_goto (pc := 48) hC dX4_sumOfSquares_48 (tgt := 5) rfl ?_
      exact gg_lv [3, 4, 5, 1, 0] rfl (ih _ _)
set_option maxHeartbeats 4000000 in
set_option maxRecDepth 100000 in
theorem mX4_sumOfSquares {l : Launch} {D : va_G} {A : Nat → Nat} {cA : Nat → ClassId} {v1 : Int32} {v2 : Int32}  {σ : zS} {r : Int64} (h : fX4_sumOfSquares v1 v2 σ = some r) : zML l D (wX A cA) yX4_sumOfSquares (zws yX4_sumOfSquares cX4_sumOfSquares 8 (some .long)) 0 0 [.ref (A 15), .int v1, .int v2] σ (r, σ) := by
  refine zm_Lr (lv := [(0, .ref (A 15)), (1, .int v1), (2, .int v2)]) rfl (sX_ok A) (Nat.le_of_ble_eq_true rfl) rfl (fun C _ _ hC hR => ?_) h
  unfold fX4_sumOfSquares
  refine gg_lconst (pc := 0) hC dX4_sumOfSquares_0 (x := 0) rfl ?_
  refine gg_lstore_n (pc := 1) hC dX4_sumOfSquares_1 (i := 3) rfl (Nat.le_of_ble_eq_true rfl) (lv' := [(3, .long (0 : Int64)), (0, .ref (A 15)), (1, .int v1), (2, .int v2)]) rfl ?_
  refine gg_iconst (pc := 2) hC dX4_sumOfSquares_2 (x := 0) rfl ?_
  refine gg_istore (pc := 3) hC dX4_sumOfSquares_3 (Nat.le_of_ble_eq_true rfl) (lv' := [(5, .int 0), (3, .long (0 : Int64)), (0, .ref (A 15)), (1, .int v1), (2, .int v2)]) rfl ?_
  refine gg_join1 (E' := (fun q => zW C (wX A cA) 8 51 [(3, .long q)] [] σ)) (gg_lv [2, 3, 4, 1, 0] rfl (lX4_sumOfSquares_5 hC  500 _ _)) (fun x1 => ?_)
  show zG C (wX A cA) 8 _ _ 51 [(3, .long x1)] [] σ
  refine gg_lload_n (pc := 51) hC dX4_sumOfSquares_51 (i := 3) rfl 0 rfl ?_
  exact gg_lretr (pc := 52) hR dX4_sumOfSquares_52
def fX4_renewSums_23 : Nat → Int32 → zS → Option (zS)
  | 0, _, _ => none
  | n + 1, v2, σ =>
    if (zi σ 13) < v2 then (some σ) else
    (zv ((zi σ 9) - (2 * v2)) (fun (x1 : Int32) =>
    zy1 (fX4_sumOfSquares v2 x1 σ) (fun x2 =>
    zg (zq v2 16) (zv (wj σ 2 v2.toNatClampNeg x2) (fun (s3 : zS) =>
    zg (zq v2 16) (zv (wj s3 3 v2.toNatClampNeg (((v2.toInt64) * (v2.toInt64)) * (x1.toInt64))) (fun (s4 : zS) =>
    zy1 (fX4_placeByRank v2 s4) (fun s5 =>
    fX4_renewSums_23  n (v2 + 1) s5))))))))
def fX4_renewSums  (σ : zS) : Option (zS) :=
    zv (wi σ 13 (if 0 < (if (((zi σ 9) - 1) / 2) < 15 then (((zi σ 9) - 1) / 2) else 15) then (if (((zi σ 9) - 1) / 2) < 15 then (((zi σ 9) - 1) / 2) else 15) else 0)) (fun (s1 : zS) =>
    zy1 (fX4_renewSums_23  500 1 s1) (fun (s2 : zS) =>
    some s2))
set_option maxHeartbeats 4000000 in
set_option maxRecDepth 100000 in
theorem lX4_renewSums_23 {C : zK} {A : Nat → Nat} {cA : Nat → ClassId} (hC : zOK C (wX A cA) cX4_renewSums RX4 4 2 44) : ∀ (n : Nat) (v2 : Int32) (σ : zS), zG C (wX A cA) 4 (fun q => zW C (wX A cA) 4 80 [] [] q) (fX4_renewSums_23  n v2 σ) 23 [(0, .ref (A 5)), (1, .ref (A 4)), (2, .int v2)] [] σ := by
  intro n
  induction n with
  | zero => intro v2 σ; exact gg_none (o := none)
  | succ n ih =>
    intro v2 σ
    rw [fX4_renewSums_23]
    refine gg_iload_n (pc := 23) hC dX4_renewSums_23 (i := 2) rfl 2 rfl ?_
    refine gg_aload_n (pc := 24) hC dX4_renewSums_24 (i := 0) rfl 0 rfl ?_
    refine gg_get (pc := 25) hC dX4_renewSums_25 fX4_22 5 pX_5 (v := .int (zi σ 13)) rfl ?_
    refine gg_icmp_gt (pc := 28) hC dX4_renewSums_28 (tgt := 80) rfl (fun _ => ?_) (fun _ => ?_)
    · exact gg_y (fun h => zW_lv [] rfl h)
    · refine gg_aload_n (pc := 31) hC dX4_renewSums_31 (i := 1) rfl 1 rfl ?_
      refine gg_get (pc := 32) hC dX4_renewSums_32 fX4_26 4 pX_4 (v := .int (zi σ 9)) rfl ?_
      refine gg_iconst (pc := 35) hC dX4_renewSums_35 (x := 2) rfl ?_
      refine gg_iload_n (pc := 36) hC dX4_renewSums_36 (i := 2) rfl 2 rfl ?_
      refine gg_imul (pc := 37) hC dX4_renewSums_37 ?_
      refine gg_isub (pc := 38) hC dX4_renewSums_38 ?_
      refine gg_zvi (fun x1 => ?_)
      refine gg_istore_n (pc := 39) hC dX4_renewSums_39 (i := 3) rfl (Nat.le_of_ble_eq_true rfl) (lv' := [(3, .int x1), (0, .ref (A 5)), (1, .ref (A 4)), (2, .int v2)]) rfl ?_
      refine gg_aload_n (pc := 40) hC dX4_renewSums_40 (i := 0) rfl 1 rfl ?_
      refine gg_get (pc := 41) hC dX4_renewSums_41 fX4_9 5 pX_5 (v := .ref (A 20)) rfl ?_
      refine gg_iload_n (pc := 44) hC dX4_renewSums_44 (i := 2) rfl 3 rfl ?_
      refine gg_aload_n (pc := 45) hC dX4_renewSums_45 (i := 1) rfl 2 rfl ?_
      refine gg_get (pc := 46) hC dX4_renewSums_46 fX4_38 4 pX_4 (v := .ref (A 15)) rfl ?_
      refine gg_iload_n (pc := 49) hC dX4_renewSums_49 (i := 2) rfl 3 rfl ?_
      refine gg_iload_n (pc := 50) hC dX4_renewSums_50 (i := 3) rfl 0 rfl ?_
      refine gg_callSLr (pc := 51) hC dX4_renewSums_51 cX4_41 (fun _ h => mX4_sumOfSquares h) (Nat.le_of_ble_eq_true rfl) (Nat.le_of_ble_eq_true rfl) (As := [.ref (A 15), .int v2, .int x1]) (rest := [.int v2, .ref (A 20)]) rfl rfl (Nat.le_of_ble_eq_true rfl) (fun x2 => ?_)
      refine gg_last (pc := 54) hC dX4_renewSums_54 20 1 pX_20 rfl sX_20 ?_
      refine gg_zvs (fun s3 => ?_)
      refine gg_aload_n (pc := 55) hC dX4_renewSums_55 (i := 0) rfl 1 rfl ?_
      refine gg_get (pc := 56) hC dX4_renewSums_56 fX4_15 5 pX_5 (v := .ref (A 21)) rfl ?_
      refine gg_iload_n (pc := 59) hC dX4_renewSums_59 (i := 2) rfl 3 rfl ?_
      refine gg_iload_n (pc := 60) hC dX4_renewSums_60 (i := 2) rfl 3 rfl ?_
      refine gg_i2l (pc := 61) hC dX4_renewSums_61 ?_
      refine gg_iload_n (pc := 62) hC dX4_renewSums_62 (i := 2) rfl 3 rfl ?_
      refine gg_i2l (pc := 63) hC dX4_renewSums_63 ?_
      refine gg_lmul (pc := 64) hC dX4_renewSums_64 ?_
      refine gg_iload_n (pc := 65) hC dX4_renewSums_65 (i := 3) rfl 0 rfl ?_
      refine gg_i2l (pc := 66) hC dX4_renewSums_66 ?_
      refine gg_lmul (pc := 67) hC dX4_renewSums_67 ?_
      refine gg_last (pc := 68) hC dX4_renewSums_68 21 1 pX_21 rfl sX_21 ?_
      refine gg_zvs (fun s4 => ?_)
      refine gg_aload_n (pc := 69) hC dX4_renewSums_69 (i := 0) rfl 1 rfl ?_
      refine gg_iload_n (pc := 70) hC dX4_renewSums_70 (i := 2) rfl 3 rfl ?_
      refine gg_callVV (pc := 71) hC dX4_renewSums_71 vX4_45 (fun _ h => mX4_placeByRank h) (Nat.le_of_ble_eq_true rfl) (Nat.le_of_ble_eq_true rfl) (As := [.int v2]) (rest := []) rfl rfl (Nat.le_of_ble_eq_true rfl) 5 4 pX_5 rfl (fun s5 => ?_)
      refine gg_iinc (pc := 74) hC dX4_renewSums_74 (y := 0) (j := 3) rfl (z := 1) rfl (Nat.le_of_ble_eq_true rfl) (lv' := [(2, .int (v2 + 1)), (3, .int x1), (0, .ref (A 5)), (1, .ref (A 4))]) rfl ?_
      refine gg_goto (pc := 77) hC dX4_renewSums_77 (tgt := 23) rfl ?_
      exact gg_lv [2, 3, 0] rfl (ih _ _)
set_option maxHeartbeats 4000000 in
set_option maxRecDepth 100000 in
theorem mX4_renewSums {l : Launch} {D : va_G} {A : Nat → Nat} {cA : Nat → ClassId}   {σ : zS} {r : zS} (h : fX4_renewSums  σ = some r) : zMV l D (wX A cA) yX4_renewSums (zws yX4_renewSums cX4_renewSums 4 none) 2 44 [.ref (A 5), .ref (A 4)] σ r := by
  refine zm_V (lv := [(0, .ref (A 5)), (1, .ref (A 4))]) rfl (sX_ok A) (Nat.le_of_ble_eq_true rfl) rfl (fun C _ _ hC hR => ?_) h
  unfold fX4_renewSums
  refine gg_aload_n (pc := 0) hC dX4_renewSums_0 (i := 0) rfl 0 rfl ?_
  refine gg_iconst (pc := 1) hC dX4_renewSums_1 (x := 0) rfl ?_
  refine gg_bipush (pc := 2) hC dX4_renewSums_2 (x := 15) rfl ?_
  refine gg_aload_n (pc := 4) hC dX4_renewSums_4 (i := 1) rfl 1 rfl ?_
  refine gg_get (pc := 5) hC dX4_renewSums_5 fX4_26 4 pX_4 (v := .int (zi σ 9)) rfl ?_
  refine gg_iconst (pc := 8) hC dX4_renewSums_8 (x := 1) rfl ?_
  refine gg_isub (pc := 9) hC dX4_renewSums_9 ?_
  refine gg_iconst (pc := 10) hC dX4_renewSums_10 (x := 2) rfl ?_
  refine gg_idiv (pc := 11) hC dX4_renewSums_11 (by decide) ?_
  refine gg_mmin (pc := 12) hC dX4_renewSums_12 aX4_29 (Nat.le_of_ble_eq_true rfl) (Nat.le_of_ble_eq_true rfl) ?_
  refine gg_mmax (pc := 15) hC dX4_renewSums_15 aX4_35 (Nat.le_of_ble_eq_true rfl) (Nat.le_of_ble_eq_true rfl) ?_
  refine gg_put (pc := 18) hC dX4_renewSums_18 fX4_22 tX4_2 5 pX_5 rfl rfl rfl (Nat.le_of_ble_eq_true rfl) sX_5_3 ?_
  refine gg_zvs (fun s1 => ?_)
  refine gg_iconst (pc := 21) hC dX4_renewSums_21 (x := 1) rfl ?_
  refine gg_istore_n (pc := 22) hC dX4_renewSums_22 (i := 2) rfl (Nat.le_of_ble_eq_true rfl) (lv' := [(2, .int 1), (0, .ref (A 5)), (1, .ref (A 4))]) rfl ?_
  refine gg_join1 (E' := (fun q => zW C (wX A cA) 4 80 [] [] q)) (gg_lv [1, 2, 0] rfl (lX4_renewSums_23 hC  500 _ _)) (fun s2 => ?_)
  show zG C (wX A cA) 4 _ _ 80 [] [] s2
  exact gg_vret (pc := 80) hR dX4_renewSums_80

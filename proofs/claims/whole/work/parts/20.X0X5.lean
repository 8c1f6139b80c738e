def fX0_codeOf_4 (v1 : Int32) (σ : zS) : Nat → Int32 → Int32 → Option (Int32)
  | 0, _, _ => none
  | n + 1, v2, v3 =>
    if (zi σ 6) ≤ v3 then (some v2) else
    (zg (zq v3 12) (zy1 (if v1 < (za σ 2 v3.toNatClampNeg) then (some v2) else
    (some v3)) (fun (x1 : Int32) =>
    fX0_codeOf_4 v1 σ n x1 (v3 + 1))))
def fX0_codeOf (v1 : Int32) (σ : zS) : Option (Int32) :=
    zy1 (fX0_codeOf_4 v1 σ 500 0 1) (fun (x1 : Int32) =>
    some x1)
set_option maxHeartbeats 4000000 in
set_option maxRecDepth 100000 in
theorem lX0_codeOf_4 {C : zK} {A : Nat → Nat} {cA : Nat → ClassId} (hC : zOK C (wX A cA) cX0_codeOf RX0 4 0 0) {v1 : Int32} {σ : zS} : ∀ (n : Nat) (v2 : Int32) (v3 : Int32), zG C (wX A cA) 4 (fun q => zW C (wX A cA) 4 30 [(2, .int q)] [] σ) (fX0_codeOf_4 v1 σ n v2 v3) 4 [(0, .ref (A 2)), (1, .int v1), (2, .int v2), (3, .int v3)] [] σ := by
  intro n
  induction n with
  | zero => intro v2 v3; exact gg_none (o := none)
  | succ n ih =>
    intro v2 v3
    rw [fX0_codeOf_4]
    refine gg_iload_n (pc := 4) hC dX0_codeOf_4 (i := 3) rfl 3 rfl ?_
    refine gg_aload_n (pc := 5) hC dX0_codeOf_5 (i := 0) rfl 0 rfl ?_
    refine gg_get (pc := 6) hC dX0_codeOf_6 fX0_18 2 pX_2 (v := .int (zi σ 6)) rfl ?_
    refine gg_icmp_ge (pc := 9) hC dX0_codeOf_9 (tgt := 30) rfl (fun _ => ?_) (fun _ => ?_)
    · exact gg_y (fun h => zW_lv [2] rfl h)
    · refine gg_aload_n (pc := 12) hC dX0_codeOf_12 (i := 0) rfl 0 rfl ?_
      refine gg_get (pc := 13) hC dX0_codeOf_13 fX0_9 2 pX_2 (v := .ref (A 9)) rfl ?_
      refine gg_iload_n (pc := 16) hC dX0_codeOf_16 (i := 3) rfl 3 rfl ?_
      refine gg_iald (pc := 17) hC dX0_codeOf_17 9 0 pX_9 rfl ?_
      refine gg_iload_n (pc := 18) hC dX0_codeOf_18 (i := 1) rfl 1 rfl ?_
      refine gg_join1 (E' := (fun q => zW C (wX A cA) 4 24 [(0, .ref (A 2)), (1, .int v1), (2, .int q), (3, .int v3)] [] σ)) ?_ (fun x1 => ?_)
      · refine gg_icmp_gt (pc := 19) hC dX0_codeOf_19 (tgt := 24) rfl (fun _ => ?_) (fun _ => ?_)
        · exact gg_y (fun h => zW_lv [0, 1, 2, 3] rfl h)
        · refine gg_iload_n (pc := 22) hC dX0_codeOf_22 (i := 3) rfl 3 rfl ?_
          refine gg_istore_n (pc := 23) hC dX0_codeOf_23 (i := 2) rfl (Nat.le_of_ble_eq_true rfl) (lv' := [(2, .int v3), (0, .ref (A 2)), (1, .int v1), (3, .int v3)]) rfl ?_
          exact gg_y (fun h => zW_lv [1, 2, 0, 3] rfl h)
      · show zG C (wX A cA) 4 _ _ 24 [(0, .ref (A 2)), (1, .int v1), (2, .int x1), (3, .int v3)] [] σ
        refine gg_iinc (pc := 24) hC dX0_codeOf_24 (y := 0) (j := 3) rfl (z := 1) rfl (Nat.le_of_ble_eq_true rfl) (lv' := [(3, .int (v3 + 1)), (0, .ref (A 2)), (1, .int v1), (2, .int x1)]) rfl ?_
        refine gg_goto (pc := 27) hC dX0_codeOf_27 (tgt := 4) rfl ?_
        exact gg_lv [1, 2, 3, 0] rfl (ih _ _)
set_option maxHeartbeats 4000000 in
set_option maxRecDepth 100000 in
theorem mX0_codeOf {l : Launch} {D : va_G} {A : Nat → Nat} {cA : Nat → ClassId} {v1 : Int32}  {σ : zS} {r : Int32} (h : fX0_codeOf v1 σ = some r) : zMI l D (wX A cA) yX0_codeOf (zws yX0_codeOf cX0_codeOf 4 (some .int)) 0 0 [.ref (A 2), .int v1] σ (r, σ) := by
  refine zm_Ir (lv := [(0, .ref (A 2)), (1, .int v1)]) rfl (sX_ok A) (Nat.le_of_ble_eq_true rfl) rfl (fun C _ _ hC hR => ?_) h
  unfold fX0_codeOf
  refine gg_iconst (pc := 0) hC dX0_codeOf_0 (x := 0) rfl ?_
  refine gg_istore_n (pc := 1) hC dX0_codeOf_1 (i := 2) rfl (Nat.le_of_ble_eq_true rfl) (lv' := [(2, .int 0), (0, .ref (A 2)), (1, .int v1)]) rfl ?_
  refine gg_iconst (pc := 2) hC dX0_codeOf_2 (x := 1) rfl ?_
  refine gg_istore_n (pc := 3) hC dX0_codeOf_3 (i := 3) rfl (Nat.le_of_ble_eq_true rfl) (lv' := [(3, .int 1), (2, .int 0), (0, .ref (A 2)), (1, .int v1)]) rfl ?_
  refine gg_join1 (E' := (fun q => zW C (wX A cA) 4 30 [(2, .int q)] [] σ)) (gg_lv [2, 3, 1, 0] rfl (lX0_codeOf_4 hC  500 _ _)) (fun x1 => ?_)
  show zG C (wX A cA) 4 _ _ 30 [(2, .int x1)] [] σ
  refine gg_iload_n (pc := 30) hC dX0_codeOf_30 (i := 2) rfl 0 rfl ?_
  exact gg_iretr (pc := 31) hR dX0_codeOf_31
def fX0_addHits (v1 : Int32) (v2 : Int32) (σ : zS) : Option (Int32 × zS) :=
    zy1 (fX0_codeOf v1 σ) (fun x1 =>
    zg (zq x1 12) (zg (zq x1 12) (zv (wa σ 3 x1.toNatClampNeg ((za σ 3 x1.toNatClampNeg) + v2)) (fun (s2 : zS) =>
    zv (wi s2 7 ((zi s2 7) + v2)) (fun (s3 : zS) =>
    zg (zq x1 12) (some ((za s3 3 x1.toNatClampNeg), s3)))))))
set_option maxHeartbeats 4000000 in
set_option maxRecDepth 100000 in
theorem mX0_addHits {l : Launch} {D : va_G} {A : Nat → Nat} {cA : Nat → ClassId} {v1 : Int32} {v2 : Int32}  {σ : zS} {r : Int32 × zS} (h : fX0_addHits v1 v2 σ = some r) : zMI l D (wX A cA) yX0_addHits (zws yX0_addHits cX0_addHits 4 (some .int)) 1 23 [.ref (A 2), .int v1, .int v2] σ r := by
  refine zm_I (lv := [(0, .ref (A 2)), (1, .int v1), (2, .int v2)]) rfl (sX_ok A) (Nat.le_of_ble_eq_true rfl) rfl (fun C _ _ hC hR => ?_) h
  unfold fX0_addHits
  refine gg_aload_n (pc := 0) hC dX0_addHits_0 (i := 0) rfl 0 rfl ?_
  refine gg_iload_n (pc := 1) hC dX0_addHits_1 (i := 1) rfl 1 rfl ?_
  refine gg_callVIr (pc := 2) hC dX0_addHits_2 vX0_32 (fun _ h => mX0_codeOf h) (Nat.le_of_ble_eq_true rfl) (Nat.le_of_ble_eq_true rfl) (As := [.int v1]) (rest := []) rfl rfl (Nat.le_of_ble_eq_true rfl) 2 0 pX_2 rfl (fun x1 => ?_)
  refine gg_istore_n (pc := 5) hC dX0_addHits_5 (i := 3) rfl (Nat.le_of_ble_eq_true rfl) (lv' := [(3, .int x1), (0, .ref (A 2)), (1, .int v1), (2, .int v2)]) rfl ?_
  refine gg_aload_n (pc := 6) hC dX0_addHits_6 (i := 0) rfl 1 rfl ?_
  refine gg_get (pc := 7) hC dX0_addHits_7 fX0_15 2 pX_2 (v := .ref (A 10)) rfl ?_
  refine gg_iload_n (pc := 10) hC dX0_addHits_10 (i := 3) rfl 0 rfl ?_
  refine gg_dup2 (pc := 11) hC dX0_addHits_11 rfl rfl ?_
  refine gg_iald (pc := 12) hC dX0_addHits_12 10 0 pX_10 rfl ?_
  refine gg_iload_n (pc := 13) hC dX0_addHits_13 (i := 2) rfl 3 rfl ?_
  refine gg_iadd (pc := 14) hC dX0_addHits_14 ?_
  refine gg_iast (pc := 15) hC dX0_addHits_15 10 0 pX_10 rfl sX_10 ?_
  refine gg_zvs (fun s2 => ?_)
  refine gg_aload_n (pc := 16) hC dX0_addHits_16 (i := 0) rfl 1 rfl ?_
  refine gg_dup (pc := 17) hC dX0_addHits_17 rfl ?_
  refine gg_get (pc := 18) hC dX0_addHits_18 fX0_22 2 pX_2 (v := .int (zi s2 7)) rfl ?_
  refine gg_iload_n (pc := 21) hC dX0_addHits_21 (i := 2) rfl 3 rfl ?_
  refine gg_iadd (pc := 22) hC dX0_addHits_22 ?_
  refine gg_put (pc := 23) hC dX0_addHits_23 fX0_22 tX0_2 2 pX_2 rfl rfl rfl (Nat.le_of_ble_eq_true rfl) sX_2_3 ?_
  refine gg_zvs (fun s3 => ?_)
  refine gg_aload_n (pc := 26) hC dX0_addHits_26 (i := 0) rfl 1 rfl ?_
  refine gg_get (pc := 27) hC dX0_addHits_27 fX0_15 2 pX_2 (v := .ref (A 10)) rfl ?_
  refine gg_iload_n (pc := 30) hC dX0_addHits_30 (i := 3) rfl 0 rfl ?_
  refine gg_iald (pc := 31) hC dX0_addHits_31 10 0 pX_10 rfl ?_
  exact gg_iret (pc := 32) hR dX0_addHits_32
def fX0_endOf (v1 : Int32) (σ : zS) : Option (Int32) :=
    if (zi σ 6) ≤ (v1 + 1) then (some 60) else
    (zg (zq (v1 + 1) 12) (some (za σ 2 (v1 + 1).toNatClampNeg)))
set_option maxHeartbeats 4000000 in
set_option maxRecDepth 100000 in
theorem mX0_endOf {l : Launch} {D : va_G} {A : Nat → Nat} {cA : Nat → ClassId} {v1 : Int32}  {σ : zS} {r : Int32} (h : fX0_endOf v1 σ = some r) : zMI l D (wX A cA) yX0_endOf (zws yX0_endOf cX0_endOf 2 (some .int)) 0 0 [.ref (A 2), .int v1] σ (r, σ) := by
  refine zm_Ir (lv := [(0, .ref (A 2)), (1, .int v1)]) rfl (sX_ok A) (Nat.le_of_ble_eq_true rfl) rfl (fun C _ _ hC hR => ?_) h
  unfold fX0_endOf
  refine gg_iload_n (pc := 0) hC dX0_endOf_0 (i := 1) rfl 1 rfl ?_
  refine gg_iconst (pc := 1) hC dX0_endOf_1 (x := 1) rfl ?_
  refine gg_iadd (pc := 2) hC dX0_endOf_2 ?_
  refine gg_aload_n (pc := 3) hC dX0_endOf_3 (i := 0) rfl 0 rfl ?_
  refine gg_get (pc := 4) hC dX0_endOf_4 fX0_18 2 pX_2 (v := .int (zi σ 6)) rfl ?_
  refine gg_icmp_ge (pc := 7) hC dX0_endOf_7 (tgt := 21) rfl (fun _ => ?_) (fun _ => ?_)
  · refine gg_bipush (pc := 21) hC dX0_endOf_21 (x := 60) rfl ?_
    exact gg_iretr (pc := 23) hR dX0_endOf_23
  · refine gg_aload_n (pc := 10) hC dX0_endOf_10 (i := 0) rfl 0 rfl ?_
    refine gg_get (pc := 11) hC dX0_endOf_11 fX0_9 2 pX_2 (v := .ref (A 9)) rfl ?_
    refine gg_iload_n (pc := 14) hC dX0_endOf_14 (i := 1) rfl 1 rfl ?_
    refine gg_iconst (pc := 15) hC dX0_endOf_15 (x := 1) rfl ?_
    refine gg_iadd (pc := 16) hC dX0_endOf_16 ?_
    refine gg_iald (pc := 17) hC dX0_endOf_17 9 0 pX_9 rfl ?_
    refine gg_goto (pc := 18) hC dX0_endOf_18 (tgt := 23) rfl ?_
    exact gg_iretr (pc := 23) hR dX0_endOf_23
def fX0_widthOf (v1 : Int32) (σ : zS) : Option (Int32) :=
    zy1 (fX0_endOf v1 σ) (fun x1 =>
    zg (zq v1 12) (some (x1 - (za σ 2 v1.toNatClampNeg))))
set_option maxHeartbeats 4000000 in
set_option maxRecDepth 100000 in
theorem mX0_widthOf {l : Launch} {D : va_G} {A : Nat → Nat} {cA : Nat → ClassId} {v1 : Int32}  {σ : zS} {r : Int32} (h : fX0_widthOf v1 σ = some r) : zMI l D (wX A cA) yX0_widthOf (zws yX0_widthOf cX0_widthOf 2 (some .int)) 1 21 [.ref (A 2), .int v1] σ (r, σ) := by
  refine zm_Ir (lv := [(0, .ref (A 2)), (1, .int v1)]) rfl (sX_ok A) (Nat.le_of_ble_eq_true rfl) rfl (fun C _ _ hC hR => ?_) h
  unfold fX0_widthOf
  refine gg_aload_n (pc := 0) hC dX0_widthOf_0 (i := 0) rfl 0 rfl ?_
  refine gg_iload_n (pc := 1) hC dX0_widthOf_1 (i := 1) rfl 1 rfl ?_
  refine gg_callVIr (pc := 2) hC dX0_widthOf_2 vX0_25 (fun _ h => mX0_endOf h) (Nat.le_of_ble_eq_true rfl) (Nat.le_of_ble_eq_true rfl) (As := [.int v1]) (rest := []) rfl rfl (Nat.le_of_ble_eq_true rfl) 2 0 pX_2 rfl (fun x1 => ?_)
  refine gg_aload_n (pc := 5) hC dX0_widthOf_5 (i := 0) rfl 0 rfl ?_
  refine gg_get (pc := 6) hC dX0_widthOf_6 fX0_9 2 pX_2 (v := .ref (A 9)) rfl ?_
  refine gg_iload_n (pc := 9) hC dX0_widthOf_9 (i := 1) rfl 1 rfl ?_
  refine gg_iald (pc := 10) hC dX0_widthOf_10 9 0 pX_9 rfl ?_
  refine gg_isub (pc := 11) hC dX0_widthOf_11 ?_
  exact gg_iretr (pc := 12) hR dX0_widthOf_12
def fX0_farthest_6 (σ : zS) : Nat → Int32 → Int32 → Int32 → Option (Int32)
  | 0, _, _, _ => none
  | n + 1, v1, v2, v3 =>
    if (zi σ 6) ≤ v3 then (some v1) else
    (zg (zq v3 12) (zy1 (fX0_widthOf v3 σ) (fun x1 =>
    zv (if 0 ≤ ((60 * (za σ 3 v3.toNatClampNeg)) - (x1 * (zi σ 7))) then ((60 * (za σ 3 v3.toNatClampNeg)) - (x1 * (zi σ 7))) else 0 - ((60 * (za σ 3 v3.toNatClampNeg)) - (x1 * (zi σ 7)))) (fun (x2 : Int32) =>
    zy2 (if x2 ≤ v2 then (some (v1, v2)) else
    (some (v3, x2))) (fun (x3 : Int32) (x4 : Int32) =>
    fX0_farthest_6 σ n x3 x4 (v3 + 1))))))
def fX0_farthest  (σ : zS) : Option (Int32) :=
    zy1 (fX0_farthest_6 σ 500 0 (-1 : Int32) 0) (fun (x1 : Int32) =>
    some x1)
set_option maxHeartbeats 4000000 in
set_option maxRecDepth 100000 in
theorem lX0_farthest_6 {C : zK} {A : Nat → Nat} {cA : Nat → ClassId} (hC : zOK C (wX A cA) cX0_farthest RX0 5 2 42) {σ : zS} : ∀ (n : Nat) (v1 : Int32) (v2 : Int32) (v3 : Int32), zG C (wX A cA) 5 (fun q => zW C (wX A cA) 5 56 [(1, .int q)] [] σ) (fX0_farthest_6 σ n v1 v2 v3) 6 [(0, .ref (A 2)), (1, .int v1), (2, .int v2), (3, .int v3)] [] σ := by
  intro n
  induction n with
  | zero => intro v1 v2 v3; exact gg_none (o := none)
  | succ n ih =>
    intro v1 v2 v3
    rw [fX0_farthest_6]
    refine gg_iload_n (pc := 6) hC dX0_farthest_6 (i := 3) rfl 3 rfl ?_
    refine gg_aload_n (pc := 7) hC dX0_farthest_7 (i := 0) rfl 0 rfl ?_
    refine gg_get (pc := 8) hC dX0_farthest_8 fX0_18 2 pX_2 (v := .int (zi σ 6)) rfl ?_
    refine gg_icmp_ge (pc := 11) hC dX0_farthest_11 (tgt := 56) rfl (fun _ => ?_) (fun _ => ?_)
    · exact gg_y (fun h => zW_lv [1] rfl h)
    · refine gg_bipush (pc := 14) hC dX0_farthest_14 (x := 60) rfl ?_
      refine gg_aload_n (pc := 16) hC dX0_farthest_16 (i := 0) rfl 0 rfl ?_
      refine gg_get (pc := 17) hC dX0_farthest_17 fX0_15 2 pX_2 (v := .ref (A 10)) rfl ?_
      refine gg_iload_n (pc := 20) hC dX0_farthest_20 (i := 3) rfl 3 rfl ?_
      refine gg_iald (pc := 21) hC dX0_farthest_21 10 0 pX_10 rfl ?_
      refine gg_imul (pc := 22) hC dX0_farthest_22 ?_
      refine gg_aload_n (pc := 23) hC dX0_farthest_23 (i := 0) rfl 0 rfl ?_
      refine gg_iload_n (pc := 24) hC dX0_farthest_24 (i := 3) rfl 3 rfl ?_
      refine gg_callVIr (pc := 25) hC dX0_farthest_25 vX0_35 (fun _ h => mX0_widthOf h) (Nat.le_of_ble_eq_true rfl) (Nat.le_of_ble_eq_true rfl) (As := [.int v3]) (rest := [.int (60 * (za σ 3 v3.toNatClampNeg))]) rfl rfl (Nat.le_of_ble_eq_true rfl) 2 0 pX_2 rfl (fun x1 => ?_)
      refine gg_aload_n (pc := 28) hC dX0_farthest_28 (i := 0) rfl 0 rfl ?_
      refine gg_get (pc := 29) hC dX0_farthest_29 fX0_22 2 pX_2 (v := .int (zi σ 7)) rfl ?_
      refine gg_imul (pc := 32) hC dX0_farthest_32 ?_
      refine gg_isub (pc := 33) hC dX0_farthest_33 ?_
      refine gg_mabs (pc := 34) hC dX0_farthest_34 aX0_38 (Nat.le_of_ble_eq_true rfl) (Nat.le_of_ble_eq_true rfl) ?_
      refine gg_zvi (fun x2 => ?_)
      refine gg_istore (pc := 37) hC dX0_farthest_37 (Nat.le_of_ble_eq_true rfl) (lv' := [(4, .int x2), (0, .ref (A 2)), (1, .int v1), (2, .int v2), (3, .int v3)]) rfl ?_
      refine gg_iload (pc := 39) hC dX0_farthest_39 0 rfl ?_
      refine gg_iload_n (pc := 41) hC dX0_farthest_41 (i := 2) rfl 3 rfl ?_
      refine gg_join2 (E' := (fun q => zW C (wX A cA) 5 50 [(0, .ref (A 2)), (1, .int q.1), (2, .int q.2), (3, .int v3)] [] σ)) ?_ (fun x3 x4 => ?_)
      · refine gg_icmp_le (pc := 42) hC dX0_farthest_42 (tgt := 50) rfl (fun _ => ?_) (fun _ => ?_)
        · exact gg_y (fun h => zW_lv [1, 2, 3, 4] rfl h)
        · refine gg_iload (pc := 45) hC dX0_farthest_45 0 rfl ?_
          refine gg_istore_n (pc := 47) hC dX0_farthest_47 (i := 2) rfl (Nat.le_of_ble_eq_true rfl) (lv' := [(2, .int x2), (4, .int x2), (0, .ref (A 2)), (1, .int v1), (3, .int v3)]) rfl ?_
          refine gg_iload_n (pc := 48) hC dX0_farthest_48 (i := 3) rfl 4 rfl ?_
          refine gg_istore_n (pc := 49) hC dX0_farthest_49 (i := 1) rfl (Nat.le_of_ble_eq_true rfl) (lv' := [(1, .int v3), (2, .int x2), (4, .int x2), (0, .ref (A 2)), (3, .int v3)]) rfl ?_
          exact gg_y (fun h => zW_lv [3, 0, 1, 4] rfl h)
      · show zG C (wX A cA) 5 _ _ 50 [(0, .ref (A 2)), (1, .int x3), (2, .int x4), (3, .int v3)] [] σ
        refine gg_iinc (pc := 50) hC dX0_farthest_50 (y := 0) (j := 3) rfl (z := 1) rfl (Nat.le_of_ble_eq_true rfl) (lv' := [(3, .int (v3 + 1)), (0, .ref (A 2)), (1, .int x3), (2, .int x4)]) rfl ?_
        refine gg_goto (pc := 53) hC dX0_farthest_53 (tgt := 6) rfl ?_
        exact gg_lv [1, 2, 3, 0] rfl (ih _ _ _)
set_option maxHeartbeats 4000000 in
set_option maxRecDepth 100000 in
theorem mX0_farthest {l : Launch} {D : va_G} {A : Nat → Nat} {cA : Nat → ClassId}   {σ : zS} {r : Int32} (h : fX0_farthest  σ = some r) : zMI l D (wX A cA) yX0_farthest (zws yX0_farthest cX0_farthest 5 (some .int)) 2 42 [.ref (A 2)] σ (r, σ) := by
  refine zm_Ir (lv := [(0, .ref (A 2))]) rfl (sX_ok A) (Nat.le_of_ble_eq_true rfl) rfl (fun C _ _ hC hR => ?_) h
  unfold fX0_farthest
  refine gg_iconst (pc := 0) hC dX0_farthest_0 (x := 0) rfl ?_
  refine gg_istore_n (pc := 1) hC dX0_farthest_1 (i := 1) rfl (Nat.le_of_ble_eq_true rfl) (lv' := [(1, .int 0), (0, .ref (A 2))]) rfl ?_
  refine gg_iconst (pc := 2) hC dX0_farthest_2 (x := -1) rfl ?_
  refine gg_istore_n (pc := 3) hC dX0_farthest_3 (i := 2) rfl (Nat.le_of_ble_eq_true rfl) (lv' := [(2, .int (-1 : Int32)), (1, .int 0), (0, .ref (A 2))]) rfl ?_
  refine gg_iconst (pc := 4) hC dX0_farthest_4 (x := 0) rfl ?_
  refine gg_istore_n (pc := 5) hC dX0_farthest_5 (i := 3) rfl (Nat.le_of_ble_eq_true rfl) (lv' := [(3, .int 0), (2, .int (-1 : Int32)), (1, .int 0), (0, .ref (A 2))]) rfl ?_
  refine gg_join1 (E' := (fun q => zW C (wX A cA) 5 56 [(1, .int q)] [] σ)) (gg_lv [3, 2, 1, 0] rfl (lX0_farthest_6 hC  500 _ _ _)) (fun x1 => ?_)
  show zG C (wX A cA) 5 _ _ 56 [(1, .int x1)] [] σ
  refine gg_iload_n (pc := 56) hC dX0_farthest_56 (i := 1) rfl 0 rfl ?_
  exact gg_iretr (pc := 57) hR dX0_farthest_57
def fX0_forgetHits_2 : Nat → Int32 → zS → Option (zS)
  | 0, _, _ => none
  | n + 1, v1, σ =>
    if 12 ≤ v1 then (some σ) else
    (zg (zq v1 12) (zv (wa σ 3 v1.toNatClampNeg 0) (fun (s1 : zS) =>
    fX0_forgetHits_2  n (v1 + 1) s1)))
def fX0_forgetHits  (σ : zS) : Option (zS) :=
    zy1 (fX0_forgetHits_2  500 0 σ) (fun (s1 : zS) =>
    zv (wi s1 7 0) (fun (s2 : zS) =>
    some s2))
set_option maxHeartbeats 4000000 in
set_option maxRecDepth 100000 in
theorem lX0_forgetHits_2 {C : zK} {A : Nat → Nat} {cA : Nat → ClassId} (hC : zOK C (wX A cA) cX0_forgetHits RX0 2 0 0) : ∀ (n : Nat) (v1 : Int32) (σ : zS), zG C (wX A cA) 2 (fun q => zW C (wX A cA) 2 21 [(0, .ref (A 2))] [] q) (fX0_forgetHits_2  n v1 σ) 2 [(0, .ref (A 2)), (1, .int v1)] [] σ := by
  intro n
  induction n with
  | zero => intro v1 σ; exact gg_none (o := none)
  | succ n ih =>
    intro v1 σ
    rw [fX0_forgetHits_2]
    refine gg_iload_n (pc := 2) hC dX0_forgetHits_2 (i := 1) rfl 1 rfl ?_
    refine gg_bipush (pc := 3) hC dX0_forgetHits_3 (x := 12) rfl ?_
    refine gg_icmp_ge (pc := 5) hC dX0_forgetHits_5 (tgt := 21) rfl (fun _ => ?_) (fun _ => ?_)
    · exact gg_y (fun h => zW_lv [0] rfl h)
    · refine gg_aload_n (pc := 8) hC dX0_forgetHits_8 (i := 0) rfl 0 rfl ?_
      refine gg_get (pc := 9) hC dX0_forgetHits_9 fX0_15 2 pX_2 (v := .ref (A 10)) rfl ?_
      refine gg_iload_n (pc := 12) hC dX0_forgetHits_12 (i := 1) rfl 1 rfl ?_
      refine gg_iconst (pc := 13) hC dX0_forgetHits_13 (x := 0) rfl ?_
      refine gg_iast (pc := 14) hC dX0_forgetHits_14 10 0 pX_10 rfl sX_10 ?_
      refine gg_zvs (fun s1 => ?_)
      refine gg_iinc (pc := 15) hC dX0_forgetHits_15 (y := 0) (j := 1) rfl (z := 1) rfl (Nat.le_of_ble_eq_true rfl) (lv' := [(1, .int (v1 + 1)), (0, .ref (A 2))]) rfl ?_
      refine gg_goto (pc := 18) hC dX0_forgetHits_18 (tgt := 2) rfl ?_
      exact gg_lv [1, 0] rfl (ih _ _)
set_option maxHeartbeats 4000000 in
set_option maxRecDepth 100000 in
theorem mX0_forgetHits {l : Launch} {D : va_G} {A : Nat → Nat} {cA : Nat → ClassId}   {σ : zS} {r : zS} (h : fX0_forgetHits  σ = some r) : zMV l D (wX A cA) yX0_forgetHits (zws yX0_forgetHits cX0_forgetHits 2 none) 0 0 [.ref (A 2)] σ r := by
  refine zm_V (lv := [(0, .ref (A 2))]) rfl (sX_ok A) (Nat.le_of_ble_eq_true rfl) rfl (fun C _ _ hC hR => ?_) h
  unfold fX0_forgetHits
  refine gg_iconst (pc := 0) hC dX0_forgetHits_0 (x := 0) rfl ?_
  refine gg_istore_n (pc := 1) hC dX0_forgetHits_1 (i := 1) rfl (Nat.le_of_ble_eq_true rfl) (lv' := [(1, .int 0), (0, .ref (A 2))]) rfl ?_
  refine gg_join1 (E' := (fun q => zW C (wX A cA) 2 21 [(0, .ref (A 2))] [] q)) (gg_lv [1, 0] rfl (lX0_forgetHits_2 hC  500 _ _)) (fun s1 => ?_)
  show zG C (wX A cA) 2 _ _ 21 [(0, .ref (A 2))] [] s1
  refine gg_aload_n (pc := 21) hC dX0_forgetHits_21 (i := 0) rfl 0 rfl ?_
  refine gg_iconst (pc := 22) hC dX0_forgetHits_22 (x := 0) rfl ?_
  refine gg_put (pc := 23) hC dX0_forgetHits_23 fX0_22 tX0_2 2 pX_2 rfl rfl rfl (Nat.le_of_ble_eq_true rfl) sX_2_3 ?_
  refine gg_zvs (fun s2 => ?_)
  exact gg_vret (pc := 26) hR dX0_forgetHits_26
def fX0_hitsBelow_4 (v1 : Int32) (σ : zS) : Nat → Int32 → Int32 → Option (Int32)
  | 0, _, _ => none
  | n + 1, v2, v3 =>
    if v1 ≤ v3 then (some v2) else
    (zg (zq v3 12) (zv (v2 + (za σ 3 v3.toNatClampNeg)) (fun (x1 : Int32) =>
    fX0_hitsBelow_4 v1 σ n x1 (v3 + 1))))
def fX0_hitsBelow (v1 : Int32) (σ : zS) : Option (Int32) :=
    zy1 (fX0_hitsBelow_4 v1 σ 500 0 0) (fun (x1 : Int32) =>
    some x1)
set_option maxHeartbeats 4000000 in
set_option maxRecDepth 100000 in
theorem lX0_hitsBelow_4 {C : zK} {A : Nat → Nat} {cA : Nat → ClassId} (hC : zOK C (wX A cA) cX0_hitsBelow RX0 4 0 0) {v1 : Int32} {σ : zS} : ∀ (n : Nat) (v2 : Int32) (v3 : Int32), zG C (wX A cA) 4 (fun q => zW C (wX A cA) 4 24 [(2, .int q)] [] σ) (fX0_hitsBelow_4 v1 σ n v2 v3) 4 [(0, .ref (A 2)), (1, .int v1), (2, .int v2), (3, .int v3)] [] σ := by
  intro n
  induction n with
  | zero => intro v2 v3; exact gg_none (o := none)
  | succ n ih =>
    intro v2 v3
    rw [fX0_hitsBelow_4]
    refine gg_iload_n (pc := 4) hC dX0_hitsBelow_4 (i := 3) rfl 3 rfl ?_
    refine gg_iload_n (pc := 5) hC dX0_hitsBelow_5 (i := 1) rfl 1 rfl ?_
    refine gg_icmp_ge (pc := 6) hC dX0_hitsBelow_6 (tgt := 24) rfl (fun _ => ?_) (fun _ => ?_)
    · exact gg_y (fun h => zW_lv [2] rfl h)
    · refine gg_iload_n (pc := 9) hC dX0_hitsBelow_9 (i := 2) rfl 2 rfl ?_
      refine gg_aload_n (pc := 10) hC dX0_hitsBelow_10 (i := 0) rfl 0 rfl ?_
      refine gg_get (pc := 11) hC dX0_hitsBelow_11 fX0_15 2 pX_2 (v := .ref (A 10)) rfl ?_
      refine gg_iload_n (pc := 14) hC dX0_hitsBelow_14 (i := 3) rfl 3 rfl ?_
      refine gg_iald (pc := 15) hC dX0_hitsBelow_15 10 0 pX_10 rfl ?_
      refine gg_iadd (pc := 16) hC dX0_hitsBelow_16 ?_
      refine gg_zvi (fun x1 => ?_)
      refine gg_istore_n (pc := 17) hC dX0_hitsBelow_17 (i := 2) rfl (Nat.le_of_ble_eq_true rfl) (lv' := [(2, .int x1), (0, .ref (A 2)), (1, .int v1), (3, .int v3)]) rfl ?_
      refine gg_iinc (pc := 18) hC dX0_hitsBelow_18 (y := 0) (j := 3) rfl (z := 1) rfl (Nat.le_of_ble_eq_true rfl) (lv' := [(3, .int (v3 + 1)), (2, .int x1), (0, .ref (A 2)), (1, .int v1)]) rfl ?_
      refine gg_goto (pc := 21) hC dX0_hitsBelow_21 (tgt := 4) rfl ?_
      exact gg_lv [2, 3, 1, 0] rfl (ih _ _)
set_option maxHeartbeats 4000000 in
set_option maxRecDepth 100000 in
theorem mX0_hitsBelow {l : Launch} {D : va_G} {A : Nat → Nat} {cA : Nat → ClassId} {v1 : Int32}  {σ : zS} {r : Int32} (h : fX0_hitsBelow v1 σ = some r) : zMI l D (wX A cA) yX0_hitsBelow (zws yX0_hitsBelow cX0_hitsBelow 4 (some .int)) 0 0 [.ref (A 2), .int v1] σ (r, σ) := by
  refine zm_Ir (lv := [(0, .ref (A 2)), (1, .int v1)]) rfl (sX_ok A) (Nat.le_of_ble_eq_true rfl) rfl (fun C _ _ hC hR => ?_) h
  unfold fX0_hitsBelow
  refine gg_iconst (pc := 0) hC dX0_hitsBelow_0 (x := 0) rfl ?_
  refine gg_istore_n (pc := 1) hC dX0_hitsBelow_1 (i := 2) rfl (Nat.le_of_ble_eq_true rfl) (lv' := [(2, .int 0), (0, .ref (A 2)), (1, .int v1)]) rfl ?_
  refine gg_iconst (pc := 2) hC dX0_hitsBelow_2 (x := 0) rfl ?_
  refine gg_istore_n (pc := 3) hC dX0_hitsBelow_3 (i := 3) rfl (Nat.le_of_ble_eq_true rfl) (lv' := [(3, .int 0), (2, .int 0), (0, .ref (A 2)), (1, .int v1)]) rfl ?_
  refine gg_join1 (E' := (fun q => zW C (wX A cA) 4 24 [(2, .int q)] [] σ)) (gg_lv [2, 3, 1, 0] rfl (lX0_hitsBelow_4 hC  500 _ _)) (fun x1 => ?_)
  show zG C (wX A cA) 4 _ _ 24 [(2, .int x1)] [] σ
  refine gg_iload_n (pc := 24) hC dX0_hitsBelow_24 (i := 2) rfl 0 rfl ?_
  exact gg_iretr (pc := 25) hR dX0_hitsBelow_25
def fX0_joinToPrevious_12 : Nat → Int32 → zS → Option (zS)
  | 0, _, _ => none
  | n + 1, v2, σ =>
    if (zi σ 6) ≤ v2 then (some σ) else
    (zg (zq (v2 + 1) 12) (zg (zq v2 12) (zv (wa σ 2 v2.toNatClampNeg (za σ 2 (v2 + 1).toNatClampNeg)) (fun (s1 : zS) =>
    fX0_joinToPrevious_12  n (v2 + 1) s1))))
def fX0_joinToPrevious (v1 : Int32) (σ : zS) : Option (zS) :=
    zv (wi σ 6 ((zi σ 6) - 1)) (fun (s1 : zS) =>
    zy1 (fX0_joinToPrevious_12  500 v1 s1) (fun (s2 : zS) =>
    zy1 (fX0_forgetHits s2) (fun s3 =>
    some s3)))
set_option maxHeartbeats 4000000 in
set_option maxRecDepth 100000 in
theorem lX0_joinToPrevious_12 {C : zK} {A : Nat → Nat} {cA : Nat → ClassId} (hC : zOK C (wX A cA) cX0_joinToPrevious RX0 3 1 21) : ∀ (n : Nat) (v2 : Int32) (σ : zS), zG C (wX A cA) 3 (fun q => zW C (wX A cA) 3 40 [(0, .ref (A 2))] [] q) (fX0_joinToPrevious_12  n v2 σ) 12 [(0, .ref (A 2)), (2, .int v2)] [] σ := by
  intro n
  induction n with
  | zero => intro v2 σ; exact gg_none (o := none)
  | succ n ih =>
    intro v2 σ
    rw [fX0_joinToPrevious_12]
    refine gg_iload_n (pc := 12) hC dX0_joinToPrevious_12 (i := 2) rfl 1 rfl ?_
    refine gg_aload_n (pc := 13) hC dX0_joinToPrevious_13 (i := 0) rfl 0 rfl ?_
    refine gg_get (pc := 14) hC dX0_joinToPrevious_14 fX0_18 2 pX_2 (v := .int (zi σ 6)) rfl ?_
    refine gg_icmp_ge (pc := 17) hC dX0_joinToPrevious_17 (tgt := 40) rfl (fun _ => ?_) (fun _ => ?_)
    · exact gg_y (fun h => zW_lv [0] rfl h)
    · refine gg_aload_n (pc := 20) hC dX0_joinToPrevious_20 (i := 0) rfl 0 rfl ?_
      refine gg_get (pc := 21) hC dX0_joinToPrevious_21 fX0_9 2 pX_2 (v := .ref (A 9)) rfl ?_
      refine gg_iload_n (pc := 24) hC dX0_joinToPrevious_24 (i := 2) rfl 1 rfl ?_
      refine gg_aload_n (pc := 25) hC dX0_joinToPrevious_25 (i := 0) rfl 0 rfl ?_
      refine gg_get (pc := 26) hC dX0_joinToPrevious_26 fX0_9 2 pX_2 (v := .ref (A 9)) rfl ?_
      refine gg_iload_n (pc := 29) hC dX0_joinToPrevious_29 (i := 2) rfl 1 rfl ?_
      refine gg_iconst (pc := 30) hC dX0_joinToPrevious_30 (x := 1) rfl ?_
      refine gg_iadd (pc := 31) hC dX0_joinToPrevious_31 ?_
      refine gg_iald (pc := 32) hC dX0_joinToPrevious_32 9 0 pX_9 rfl ?_
      refine gg_iast (pc := 33) hC dX0_joinToPrevious_33 9 0 pX_9 rfl sX_9 ?_
      refine gg_zvs (fun s1 => ?_)
      refine gg_iinc (pc := 34) hC dX0_joinToPrevious_34 (y := 0) (j := 1) rfl (z := 1) rfl (Nat.le_of_ble_eq_true rfl) (lv' := [(2, .int (v2 + 1)), (0, .ref (A 2))]) rfl ?_
      refine gg_goto (pc := 37) hC dX0_joinToPrevious_37 (tgt := 12) rfl ?_
      exact gg_lv [1, 0] rfl (ih _ _)
set_option maxHeartbeats 4000000 in
set_option maxRecDepth 100000 in
theorem mX0_joinToPrevious {l : Launch} {D : va_G} {A : Nat → Nat} {cA : Nat → ClassId} {v1 : Int32}  {σ : zS} {r : zS} (h : fX0_joinToPrevious v1 σ = some r) : zMV l D (wX A cA) yX0_joinToPrevious (zws yX0_joinToPrevious cX0_joinToPrevious 3 none) 1 21 [.ref (A 2), .int v1] σ r := by
  refine zm_V (lv := [(0, .ref (A 2)), (1, .int v1)]) rfl (sX_ok A) (Nat.le_of_ble_eq_true rfl) rfl (fun C _ _ hC hR => ?_) h
  unfold fX0_joinToPrevious
  refine gg_aload_n (pc := 0) hC dX0_joinToPrevious_0 (i := 0) rfl 0 rfl ?_
  refine gg_dup (pc := 1) hC dX0_joinToPrevious_1 rfl ?_
  refine gg_get (pc := 2) hC dX0_joinToPrevious_2 fX0_18 2 pX_2 (v := .int (zi σ 6)) rfl ?_
  refine gg_iconst (pc := 5) hC dX0_joinToPrevious_5 (x := 1) rfl ?_
  refine gg_isub (pc := 6) hC dX0_joinToPrevious_6 ?_
  refine gg_put (pc := 7) hC dX0_joinToPrevious_7 fX0_18 tX0_2 2 pX_2 rfl rfl rfl (Nat.le_of_ble_eq_true rfl) sX_2_2 ?_
  refine gg_zvs (fun s1 => ?_)
  refine gg_iload_n (pc := 10) hC dX0_joinToPrevious_10 (i := 1) rfl 1 rfl ?_
  refine gg_istore_n (pc := 11) hC dX0_joinToPrevious_11 (i := 2) rfl (Nat.le_of_ble_eq_true rfl) (lv' := [(2, .int v1), (0, .ref (A 2)), (1, .int v1)]) rfl ?_
  refine gg_join1 (E' := (fun q => zW C (wX A cA) 3 40 [(0, .ref (A 2))] [] q)) (gg_lv [1, 0] rfl (lX0_joinToPrevious_12 hC  500 _ _)) (fun s2 => ?_)
  show zG C (wX A cA) 3 _ _ 40 [(0, .ref (A 2))] [] s2
  refine gg_aload_n (pc := 40) hC dX0_joinToPrevious_40 (i := 0) rfl 0 rfl ?_
  refine gg_callVV (pc := 41) hC dX0_joinToPrevious_41 vX0_29 (fun _ h => mX0_forgetHits h) (Nat.le_of_ble_eq_true rfl) (Nat.le_of_ble_eq_true rfl) (As := []) (rest := []) rfl rfl (Nat.le_of_ble_eq_true rfl) 2 0 pX_2 rfl (fun s3 => ?_)
  exact gg_vret (pc := 44) hR dX0_joinToPrevious_44
def fX0_split_5 (v1 : Int32) (v2 : Int32) : Nat → Int32 → zS → Option (zS)
  | 0, _, _ => none
  | n + 1, v3, σ =>
    if v3 ≤ (v1 + 1) then (some σ) else
    (zg (zq (v3 - 1) 12) (zg (zq v3 12) (zv (wa σ 2 v3.toNatClampNeg (za σ 2 (v3 - 1).toNatClampNeg)) (fun (s1 : zS) =>
    fX0_split_5 v1 v2 n (v3 + (-1)) s1))))
def fX0_split (v1 : Int32) (v2 : Int32) (σ : zS) : Option (zS) :=
    zv (zi σ 6) (fun (x1 : Int32) =>
    zy1 (fX0_split_5 v1 v2 500 x1 σ) (fun (s2 : zS) =>
    zg (zq (v1 + 1) 12) (zv (wa s2 2 (v1 + 1).toNatClampNeg v2) (fun (s3 : zS) =>
    zv (wi s3 6 ((zi s3 6) + 1)) (fun (s4 : zS) =>
    zy1 (fX0_forgetHits s4) (fun s5 =>
    some s5))))))
set_option maxHeartbeats 4000000 in
set_option maxRecDepth 100000 in
theorem lX0_split_5 {C : zK} {A : Nat → Nat} {cA : Nat → ClassId} (hC : zOK C (wX A cA) cX0_split RX0 4 1 21) {v1 : Int32} {v2 : Int32} : ∀ (n : Nat) (v3 : Int32) (σ : zS), zG C (wX A cA) 4 (fun q => zW C (wX A cA) 4 32 [(0, .ref (A 2)), (1, .int v1), (2, .int v2)] [] q) (fX0_split_5 v1 v2 n v3 σ) 5 [(0, .ref (A 2)), (1, .int v1), (2, .int v2), (3, .int v3)] [] σ := by
  intro n
  induction n with
  | zero => intro v3 σ; exact gg_none (o := none)
  | succ n ih =>
    intro v3 σ
    rw [fX0_split_5]
    refine gg_iload_n (pc := 5) hC dX0_split_5 (i := 3) rfl 3 rfl ?_
    refine gg_iload_n (pc := 6) hC dX0_split_6 (i := 1) rfl 1 rfl ?_
    refine gg_iconst (pc := 7) hC dX0_split_7 (x := 1) rfl ?_
    refine gg_iadd (pc := 8) hC dX0_split_8 ?_
    refine gg_icmp_le (pc := 9) hC dX0_split_9 (tgt := 32) rfl (fun _ => ?_) (fun _ => ?_)
    · exact gg_y (fun h => zW_lv [0, 1, 2] rfl h)
    · refine gg_aload_n (pc := 12) hC dX0_split_12 (i := 0) rfl 0 rfl ?_
      refine gg_get (pc := 13) hC dX0_split_13 fX0_9 2 pX_2 (v := .ref (A 9)) rfl ?_
      refine gg_iload_n (pc := 16) hC dX0_split_16 (i := 3) rfl 3 rfl ?_
      refine gg_aload_n (pc := 17) hC dX0_split_17 (i := 0) rfl 0 rfl ?_
      refine gg_get (pc := 18) hC dX0_split_18 fX0_9 2 pX_2 (v := .ref (A 9)) rfl ?_
      refine gg_iload_n (pc := 21) hC dX0_split_21 (i := 3) rfl 3 rfl ?_
      refine gg_iconst (pc := 22) hC dX0_split_22 (x := 1) rfl ?_
      refine gg_isub (pc := 23) hC dX0_split_23 ?_
      refine gg_iald (pc := 24) hC dX0_split_24 9 0 pX_9 rfl ?_
      refine gg_iast (pc := 25) hC dX0_split_25 9 0 pX_9 rfl sX_9 ?_
      refine gg_zvs (fun s1 => ?_)
      refine gg_iinc (pc := 26) hC dX0_split_26 (y := 0) (j := 3) rfl (z := -1) rfl (Nat.le_of_ble_eq_true rfl) (lv' := [(3, .int (v3 + (-1))), (0, .ref (A 2)), (1, .int v1), (2, .int v2)]) rfl ?_
      refine gg_goto (pc := 29) hC dX0_split_29 (tgt := 5) rfl ?_
      exact gg_lv [1, 2, 3, 0] rfl (ih _ _)
set_option maxHeartbeats 4000000 in
set_option maxRecDepth 100000 in
theorem mX0_split {l : Launch} {D : va_G} {A : Nat → Nat} {cA : Nat → ClassId} {v1 : Int32} {v2 : Int32}  {σ : zS} {r : zS} (h : fX0_split v1 v2 σ = some r) : zMV l D (wX A cA) yX0_split (zws yX0_split cX0_split 4 none) 1 21 [.ref (A 2), .int v1, .int v2] σ r := by
  refine zm_V (lv := [(0, .ref (A 2)), (1, .int v1), (2, .int v2)]) rfl (sX_ok A) (Nat.le_of_ble_eq_true rfl) rfl (fun C _ _ hC hR => ?_) h
  unfold fX0_split
  refine gg_aload_n (pc := 0) hC dX0_split_0 (i := 0) rfl 0 rfl ?_
  refine gg_get (pc := 1) hC dX0_split_1 fX0_18 2 pX_2 (v := .int (zi σ 6)) rfl ?_
  refine gg_zvi (fun x1 => ?_)
  refine gg_istore_n (pc := 4) hC dX0_split_4 (i := 3) rfl (Nat.le_of_ble_eq_true rfl) (lv' := [(3, .int x1), (0, .ref (A 2)), (1, .int v1), (2, .int v2)]) rfl ?_
  refine gg_join1 (E' := (fun q => zW C (wX A cA) 4 32 [(0, .ref (A 2)), (1, .int v1), (2, .int v2)] [] q)) (gg_lv [1, 2, 3, 0] rfl (lX0_split_5 hC  500 _ _)) (fun s2 => ?_)
  show zG C (wX A cA) 4 _ _ 32 [(0, .ref (A 2)), (1, .int v1), (2, .int v2)] [] s2
  refine gg_aload_n (pc := 32) hC dX0_split_32 (i := 0) rfl 0 rfl ?_
  refine gg_get (pc := 33) hC dX0_split_33 fX0_9 2 pX_2 (v := .ref (A 9)) rfl ?_
  refine gg_iload_n (pc := 36) hC dX0_split_36 (i := 1) rfl 1 rfl ?_
  refine gg_iconst (pc := 37) hC dX0_split_37 (x := 1) rfl ?_
  refine gg_iadd (pc := 38) hC dX0_split_38 ?_
  refine gg_iload_n (pc := 39) hC dX0_split_39 (i := 2) rfl 2 rfl ?_
  refine gg_iast (pc := 40) hC dX0_split_40 9 0 pX_9 rfl sX_9 ?_
  refine gg_zvs (fun s3 => ?_)
  refine gg_aload_n (pc := 41) hC dX0_split_41 (i := 0) rfl 0 rfl ?_
  refine gg_dup (pc := 42) hC dX0_split_42 rfl ?_
  refine gg_get (pc := 43) hC dX0_split_43 fX0_18 2 pX_2 (v := .int (zi s3 6)) rfl ?_
  refine gg_iconst (pc := 46) hC dX0_split_46 (x := 1) rfl ?_
  refine gg_iadd (pc := 47) hC dX0_split_47 ?_
  refine gg_put (pc := 48) hC dX0_split_48 fX0_18 tX0_2 2 pX_2 rfl rfl rfl (Nat.le_of_ble_eq_true rfl) sX_2_2 ?_
  refine gg_zvs (fun s4 => ?_)
  refine gg_aload_n (pc := 51) hC dX0_split_51 (i := 0) rfl 0 rfl ?_
  refine gg_callVV (pc := 52) hC dX0_split_52 vX0_29 (fun _ h => mX0_forgetHits h) (Nat.le_of_ble_eq_true rfl) (Nat.le_of_ble_eq_true rfl) (As := []) (rest := []) rfl rfl (Nat.le_of_ble_eq_true rfl) 2 0 pX_2 rfl (fun s5 => ?_)
  exact gg_vret (pc := 55) hR dX0_split_55
def fX5_coarseOf (v1 : Int32) (σ : zS) : Option (Int32) :=
    zg (zq v1 32) (some ((za σ 1 v1.toNatClampNeg) / 60))
set_option maxHeartbeats 4000000 in
set_option maxRecDepth 100000 in
theorem mX5_coarseOf {l : Launch} {D : va_G} {A : Nat → Nat} {cA : Nat → ClassId} {v1 : Int32}  {σ : zS} {r : Int32} (h : fX5_coarseOf v1 σ = some r) : zMI l D (wX A cA) yX5_coarseOf (zws yX5_coarseOf cX5_coarseOf 2 (some .int)) 0 0 [.ref (A 1), .int v1] σ (r, σ) := by
  refine zm_Ir (lv := [(0, .ref (A 1)), (1, .int v1)]) rfl (sX_ok A) (Nat.le_of_ble_eq_true rfl) rfl (fun C _ _ hC hR => ?_) h
  unfold fX5_coarseOf
  refine gg_aload_n (pc := 0) hC dX5_coarseOf_0 (i := 0) rfl 0 rfl ?_
  refine gg_get (pc := 1) hC dX5_coarseOf_1 fX5_9 1 pX_1 (v := .ref (A 8)) rfl ?_
  refine gg_iload_n (pc := 4) hC dX5_coarseOf_4 (i := 1) rfl 1 rfl ?_
  refine gg_iald (pc := 5) hC dX5_coarseOf_5 8 0 pX_8 rfl ?_
  refine gg_bipush (pc := 6) hC dX5_coarseOf_6 (x := 60) rfl ?_
  refine gg_idiv (pc := 8) hC dX5_coarseOf_8 (by decide) ?_
  exact gg_iretr (pc := 9) hR dX5_coarseOf_9
def fX5_fineOf (v1 : Int32) (σ : zS) : Option (Int32) :=
    zg (zq v1 32) (some ((za σ 1 v1.toNatClampNeg) - (za σ 1 v1.toNatClampNeg) / 60 * 60))
set_option maxHeartbeats 4000000 in
set_option maxRecDepth 100000 in
theorem mX5_fineOf {l : Launch} {D : va_G} {A : Nat → Nat} {cA : Nat → ClassId} {v1 : Int32}  {σ : zS} {r : Int32} (h : fX5_fineOf v1 σ = some r) : zMI l D (wX A cA) yX5_fineOf (zws yX5_fineOf cX5_fineOf 2 (some .int)) 0 0 [.ref (A 1), .int v1] σ (r, σ) := by
  refine zm_Ir (lv := [(0, .ref (A 1)), (1, .int v1)]) rfl (sX_ok A) (Nat.le_of_ble_eq_true rfl) rfl (fun C _ _ hC hR => ?_) h
  unfold fX5_fineOf
  refine gg_aload_n (pc := 0) hC dX5_fineOf_0 (i := 0) rfl 0 rfl ?_
  refine gg_get (pc := 1) hC dX5_fineOf_1 fX5_9 1 pX_1 (v := .ref (A 8)) rfl ?_
  refine gg_iload_n (pc := 4) hC dX5_fineOf_4 (i := 1) rfl 1 rfl ?_
  refine gg_iald (pc := 5) hC dX5_fineOf_5 8 0 pX_8 rfl ?_
  refine gg_bipush (pc := 6) hC dX5_fineOf_6 (x := 60) rfl ?_
  refine gg_irem (pc := 8) hC dX5_fineOf_8 (by decide) ?_
  exact gg_iretr (pc := 9) hR dX5_fineOf_9
def fX5_firstFrom_2 (v1 : Int32) (σ : zS) : Nat → Int32 → Option (Int32)
  | 0, _ => none
  | n + 1, v2 =>
    if (zi σ 5) ≤ v2 then (some (zi σ 5)) else
    (zg (zq v2 32) (if (za σ 1 v2.toNatClampNeg) < v1 then (fX5_firstFrom_2 v1 σ n (v2 + 1)) else
    (some v2)))
def fX5_firstFrom (v1 : Int32) (σ : zS) : Option (Int32) :=
    fX5_firstFrom_2 v1 σ 500 0
set_option maxHeartbeats 4000000 in
set_option maxRecDepth 100000 in
theorem lX5_firstFrom_2 {C : zK} {A : Nat → Nat} {cA : Nat → ClassId} (hC : zOK C (wX A cA) cX5_firstFrom RX5 3 0 0) {v1 : Int32} {σ : zS} {r : Int32} (hR : zRI C (wX A cA) 3 cX5_firstFrom (r, σ)) : ∀ (n : Nat) (v2 : Int32), zG C (wX A cA) 3 (fun v => v = r) (fX5_firstFrom_2 v1 σ n v2) 2 [(0, .ref (A 1)), (1, .int v1), (2, .int v2)] [] σ := by
  intro n
  induction n with
  | zero => intro v2; exact gg_none (o := none)
  | succ n ih =>
    intro v2
    rw [fX5_firstFrom_2]
    refine gg_iload_n (pc := 2) hC dX5_firstFrom_2 (i := 2) rfl 2 rfl ?_
    refine gg_aload_n (pc := 3) hC dX5_firstFrom_3 (i := 0) rfl 0 rfl ?_
    refine gg_get (pc := 4) hC dX5_firstFrom_4 fX5_15 1 pX_1 (v := .int (zi σ 5)) rfl ?_
    refine gg_icmp_ge (pc := 7) hC dX5_firstFrom_7 (tgt := 28) rfl (fun _ => ?_) (fun _ => ?_)
    · refine gg_aload_n (pc := 28) hC dX5_firstFrom_28 (i := 0) rfl 0 rfl ?_
      refine gg_get (pc := 29) hC dX5_firstFrom_29 fX5_15 1 pX_1 (v := .int (zi σ 5)) rfl ?_
      exact gg_iretr (pc := 32) hR dX5_firstFrom_32
    · refine gg_aload_n (pc := 10) hC dX5_firstFrom_10 (i := 0) rfl 0 rfl ?_
      refine gg_get (pc := 11) hC dX5_firstFrom_11 fX5_9 1 pX_1 (v := .ref (A 8)) rfl ?_
      refine gg_iload_n (pc := 14) hC dX5_firstFrom_14 (i := 2) rfl 2 rfl ?_
      refine gg_iald (pc := 15) hC dX5_firstFrom_15 8 0 pX_8 rfl ?_
      refine gg_iload_n (pc := 16) hC dX5_firstFrom_16 (i := 1) rfl 1 rfl ?_
      refine gg_icmp_lt (pc := 17) hC dX5_firstFrom_17 (tgt := 22) rfl (fun _ => ?_) (fun _ => ?_)
      · refine gg_iinc (pc := 22) hC dX5_firstFrom_22 (y := 0) (j := 2) rfl (z := 1) rfl (Nat.le_of_ble_eq_true rfl) (lv' := [(2, .int (v2 + 1)), (0, .ref (A 1)), (1, .int v1)]) rfl ?_
        refine gg_goto (pc := 25) hC dX5_firstFrom_25 (tgt := 2) rfl ?_
        exact gg_lv [1, 2, 0] rfl (ih _)
      · refine gg_iload_n (pc := 20) hC dX5_firstFrom_20 (i := 2) rfl 2 rfl ?_
        exact gg_iretr (pc := 21) hR dX5_firstFrom_21
set_option maxHeartbeats 4000000 in
set_option maxRecDepth 100000 in
theorem mX5_firstFrom {l : Launch} {D : va_G} {A : Nat → Nat} {cA : Nat → ClassId} {v1 : Int32}  {σ : zS} {r : Int32} (h : fX5_firstFrom v1 σ = some r) : zMI l D (wX A cA) yX5_firstFrom (zws yX5_firstFrom cX5_firstFrom 3 (some .int)) 0 0 [.ref (A 1), .int v1] σ (r, σ) := by
  refine zm_Ir (lv := [(0, .ref (A 1)), (1, .int v1)]) rfl (sX_ok A) (Nat.le_of_ble_eq_true rfl) rfl (fun C _ _ hC hR => ?_) h
  unfold fX5_firstFrom
  refine gg_iconst (pc := 0) hC dX5_firstFrom_0 (x := 0) rfl ?_
  refine gg_istore_n (pc := 1) hC dX5_firstFrom_1 (i := 2) rfl (Nat.le_of_ble_eq_true rfl) (lv' := [(2, .int 0), (0, .ref (A 1)), (1, .int v1)]) rfl ?_
  exact gg_lv [1, 2, 0] rfl (lX5_firstFrom_2 hC hR 500 _)
def fX5_holds (v1 : Int32) (σ : zS) : Option (Int32) :=
    zy1 (fX5_firstFrom v1 σ) (fun x1 =>
    if (zi σ 5) ≤ x1 then (some 0) else
    (zg (zq x1 32) (if (za σ 1 x1.toNatClampNeg) = v1 then (some 1) else
    (some 0))))
set_option maxHeartbeats 4000000 in
set_option maxRecDepth 100000 in
theorem mX5_holds {l : Launch} {D : va_G} {A : Nat → Nat} {cA : Nat → ClassId} {v1 : Int32}  {σ : zS} {r : Int32} (h : fX5_holds v1 σ = some r) : zMI l D (wX A cA) yX5_holds (zws yX5_holds cX5_holds 3 (some .boolean)) 1 22 [.ref (A 1), .int v1] σ (r, σ) := by
  refine zm_Zr (lv := [(0, .ref (A 1)), (1, .int v1)]) rfl (sX_ok A) (Nat.le_of_ble_eq_true rfl) rfl (fun C _ _ hC hR => ?_) h
  unfold fX5_holds
  refine gg_aload_n (pc := 0) hC dX5_holds_0 (i := 0) rfl 0 rfl ?_
  refine gg_iload_n (pc := 1) hC dX5_holds_1 (i := 1) rfl 1 rfl ?_
  refine gg_callVIr (pc := 2) hC dX5_holds_2 vX5_19 (fun _ h => mX5_firstFrom h) (Nat.le_of_ble_eq_true rfl) (Nat.le_of_ble_eq_true rfl) (As := [.int v1]) (rest := []) rfl rfl (Nat.le_of_ble_eq_true rfl) 1 5 pX_1 rfl (fun x1 => ?_)
  refine gg_istore_n (pc := 5) hC dX5_holds_5 (i := 2) rfl (Nat.le_of_ble_eq_true rfl) (lv' := [(2, .int x1), (0, .ref (A 1)), (1, .int v1)]) rfl ?_
  refine gg_iload_n (pc := 6) hC dX5_holds_6 (i := 2) rfl 0 rfl ?_
  refine gg_aload_n (pc := 7) hC dX5_holds_7 (i := 0) rfl 1 rfl ?_
  refine gg_get (pc := 8) hC dX5_holds_8 fX5_15 1 pX_1 (v := .int (zi σ 5)) rfl ?_
  refine gg_icmp_ge (pc := 11) hC dX5_holds_11 (tgt := 28) rfl (fun _ => ?_) (fun _ => ?_)
  · refine gg_iconst (pc := 28) hC dX5_holds_28 (x := 0) rfl ?_
    exact gg_zretr (pc := 29) hR dX5_holds_29 rfl
  · refine gg_aload_n (pc := 14) hC dX5_holds_14 (i := 0) rfl 1 rfl ?_
    refine gg_get (pc := 15) hC dX5_holds_15 fX5_9 1 pX_1 (v := .ref (A 8)) rfl ?_
    refine gg_iload_n (pc := 18) hC dX5_holds_18 (i := 2) rfl 0 rfl ?_
    refine gg_iald (pc := 19) hC dX5_holds_19 8 0 pX_8 rfl ?_
    refine gg_iload_n (pc := 20) hC dX5_holds_20 (i := 1) rfl 2 rfl ?_
    refine gg_icmp_ne (pc := 21) hC dX5_holds_21 (tgt := 28) rfl (fun _ => ?_) (fun _ => ?_)
    · refine gg_iconst (pc := 24) hC dX5_holds_24 (x := 1) rfl ?_
      refine gg_goto (pc := 25) hC dX5_holds_25 (tgt := 29) rfl ?_
      exact gg_zretr (pc := 29) hR dX5_holds_29 rfl
    · refine gg_iconst (pc := 28) hC dX5_holds_28 (x := 0) rfl ?_
      exact gg_zretr (pc := 29) hR dX5_holds_29 rfl
def fX5_insert_11 (v1 : Int32) (v2 : Int32) : Nat → Int32 → zS → Option (zS)
  | 0, _, _ => none
  | n + 1, v3, σ =>
    if v3 ≤ v2 then (some σ) else
    (zg (zq (v3 - 1) 32) (zg (zq v3 32) (zv (wa σ 1 v3.toNatClampNeg (za σ 1 (v3 - 1).toNatClampNeg)) (fun (s1 : zS) =>
    fX5_insert_11 v1 v2 n (v3 + (-1)) s1))))
def fX5_insert (v1 : Int32) (σ : zS) : Option (Int32 × zS) :=
    zy1 (fX5_firstFrom v1 σ) (fun x1 =>
    zv (zi σ 5) (fun (x2 : Int32) =>
    zy1 (fX5_insert_11 v1 x1 500 x2 σ) (fun (s3 : zS) =>
    zg (zq x1 32) (zv (wa s3 1 x1.toNatClampNeg v1) (fun (s4 : zS) =>
    zv (wi s4 5 ((zi s4 5) + 1)) (fun (s5 : zS) =>
    some (x1, s5)))))))
set_option maxHeartbeats 4000000 in
set_option maxRecDepth 100000 in
theorem lX5_insert_11 {C : zK} {A : Nat → Nat} {cA : Nat → ClassId} (hC : zOK C (wX A cA) cX5_insert RX5 4 1 22) {v1 : Int32} {v2 : Int32} : ∀ (n : Nat) (v3 : Int32) (σ : zS), zG C (wX A cA) 4 (fun q => zW C (wX A cA) 4 36 [(0, .ref (A 1)), (1, .int v1), (2, .int v2)] [] q) (fX5_insert_11 v1 v2 n v3 σ) 11 [(0, .ref (A 1)), (1, .int v1), (2, .int v2), (3, .int v3)] [] σ := by
  intro n
  induction n with
  | zero => intro v3 σ; exact gg_none (o := none)
  | succ n ih =>
    intro v3 σ
    rw [fX5_insert_11]
    refine gg_iload_n (pc := 11) hC dX5_insert_11 (i := 3) rfl 3 rfl ?_
    refine gg_iload_n (pc := 12) hC dX5_insert_12 (i := 2) rfl 2 rfl ?_
    refine gg_icmp_le (pc := 13) hC dX5_insert_13 (tgt := 36) rfl (fun _ => ?_) (fun _ => ?_)
    · exact gg_y (fun h => zW_lv [0, 1, 2] rfl h)
    · refine gg_aload_n (pc := 16) hC dX5_insert_16 (i := 0) rfl 0 rfl ?_
      refine gg_get (pc := 17) hC dX5_insert_17 fX5_9 1 pX_1 (v := .ref (A 8)) rfl ?_
      refine gg_iload_n (pc := 20) hC dX5_insert_20 (i := 3) rfl 3 rfl ?_
      refine gg_aload_n (pc := 21) hC dX5_insert_21 (i := 0) rfl 0 rfl ?_
      refine gg_get (pc := 22) hC dX5_insert_22 fX5_9 1 pX_1 (v := .ref (A 8)) rfl ?_
      refine gg_iload_n (pc := 25) hC dX5_insert_25 (i := 3) rfl 3 rfl ?_
      refine gg_iconst (pc := 26) hC dX5_insert_26 (x := 1) rfl ?_
      refine gg_isub (pc := 27) hC dX5_insert_27 ?_
      refine gg_iald (pc := 28) hC dX5_insert_28 8 0 pX_8 rfl ?_
      refine gg_iast (pc := 29) hC dX5_insert_29 8 0 pX_8 rfl sX_8 ?_
      refine gg_zvs (fun s1 => ?_)
      refine gg_iinc (pc := 30) hC dX5_insert_30 (y := 0) (j := 3) rfl (z := -1) rfl (Nat.le_of_ble_eq_true rfl) (lv' := [(3, .int (v3 + (-1))), (0, .ref (A 1)), (1, .int v1), (2, .int v2)]) rfl ?_
      refine gg_goto (pc := 33) hC dX5_insert_33 (tgt := 11) rfl ?_
      exact gg_lv [1, 2, 3, 0] rfl (ih _ _)
set_option maxHeartbeats 4000000 in
set_option maxRecDepth 100000 in
theorem mX5_insert {l : Launch} {D : va_G} {A : Nat → Nat} {cA : Nat → ClassId} {v1 : Int32}  {σ : zS} {r : Int32 × zS} (h : fX5_insert v1 σ = some r) : zMI l D (wX A cA) yX5_insert (zws yX5_insert cX5_insert 4 (some .int)) 1 22 [.ref (A 1), .int v1] σ r := by
  refine zm_I (lv := [(0, .ref (A 1)), (1, .int v1)]) rfl (sX_ok A) (Nat.le_of_ble_eq_true rfl) rfl (fun C _ _ hC hR => ?_) h
  unfold fX5_insert
  refine gg_aload_n (pc := 0) hC dX5_insert_0 (i := 0) rfl 0 rfl ?_
  refine gg_iload_n (pc := 1) hC dX5_insert_1 (i := 1) rfl 1 rfl ?_
  refine gg_callVIr (pc := 2) hC dX5_insert_2 vX5_19 (fun _ h => mX5_firstFrom h) (Nat.le_of_ble_eq_true rfl) (Nat.le_of_ble_eq_true rfl) (As := [.int v1]) (rest := []) rfl rfl (Nat.le_of_ble_eq_true rfl) 1 5 pX_1 rfl (fun x1 => ?_)
  refine gg_istore_n (pc := 5) hC dX5_insert_5 (i := 2) rfl (Nat.le_of_ble_eq_true rfl) (lv' := [(2, .int x1), (0, .ref (A 1)), (1, .int v1)]) rfl ?_
  refine gg_aload_n (pc := 6) hC dX5_insert_6 (i := 0) rfl 1 rfl ?_
  refine gg_get (pc := 7) hC dX5_insert_7 fX5_15 1 pX_1 (v := .int (zi σ 5)) rfl ?_
  refine gg_zvi (fun x2 => ?_)
  refine gg_istore_n (pc := 10) hC dX5_insert_10 (i := 3) rfl (Nat.le_of_ble_eq_true rfl) (lv' := [(3, .int x2), (2, .int x1), (0, .ref (A 1)), (1, .int v1)]) rfl ?_
  refine gg_join1 (E' := (fun q => zW C (wX A cA) 4 36 [(0, .ref (A 1)), (1, .int v1), (2, .int x1)] [] q)) (gg_lv [2, 3, 1, 0] rfl (lX5_insert_11 hC  500 _ _)) (fun s3 => ?_)
  show zG C (wX A cA) 4 _ _ 36 [(0, .ref (A 1)), (1, .int v1), (2, .int x1)] [] s3
  refine gg_aload_n (pc := 36) hC dX5_insert_36 (i := 0) rfl 0 rfl ?_
  refine gg_get (pc := 37) hC dX5_insert_37 fX5_9 1 pX_1 (v := .ref (A 8)) rfl ?_
  refine gg_iload_n (pc := 40) hC dX5_insert_40 (i := 2) rfl 2 rfl ?_
  refine gg_iload_n (pc := 41) hC dX5_insert_41 (i := 1) rfl 1 rfl ?_
  refine gg_iast (pc := 42) hC dX5_insert_42 8 0 pX_8 rfl sX_8 ?_
  refine gg_zvs (fun s4 => ?_)
  refine gg_aload_n (pc := 43) hC dX5_insert_43 (i := 0) rfl 0 rfl ?_
  refine gg_dup (pc := 44) hC dX5_insert_44 rfl ?_
  refine gg_get (pc := 45) hC dX5_insert_45 fX5_15 1 pX_1 (v := .int (zi s4 5)) rfl ?_
  refine gg_iconst (pc := 48) hC dX5_insert_48 (x := 1) rfl ?_
  refine gg_iadd (pc := 49) hC dX5_insert_49 ?_
  refine gg_put (pc := 50) hC dX5_insert_50 fX5_15 tX5_2 1 pX_1 rfl rfl rfl (Nat.le_of_ble_eq_true rfl) sX_1_1 ?_
  refine gg_zvs (fun s5 => ?_)
  refine gg_iload_n (pc := 53) hC dX5_insert_53 (i := 2) rfl 2 rfl ?_
  exact gg_iret (pc := 54) hR dX5_insert_54
def fX5_isFull  (σ : zS) : Option (Int32) :=
    if (zi σ 5) < 32 then (some 0) else
    (some 1)
set_option maxHeartbeats 4000000 in
set_option maxRecDepth 100000 in
theorem mX5_isFull {l : Launch} {D : va_G} {A : Nat → Nat} {cA : Nat → ClassId}   {σ : zS} {r : Int32} (h : fX5_isFull  σ = some r) : zMI l D (wX A cA) yX5_isFull (zws yX5_isFull cX5_isFull 1 (some .boolean)) 0 0 [.ref (A 1)] σ (r, σ) := by
  refine zm_Zr (lv := [(0, .ref (A 1))]) rfl (sX_ok A) (Nat.le_of_ble_eq_true rfl) rfl (fun C _ _ hC hR => ?_) h
  unfold fX5_isFull
  refine gg_aload_n (pc := 0) hC dX5_isFull_0 (i := 0) rfl 0 rfl ?_
  refine gg_get (pc := 1) hC dX5_isFull_1 fX5_15 1 pX_1 (v := .int (zi σ 5)) rfl ?_
  refine gg_bipush (pc := 4) hC dX5_isFull_4 (x := 32) rfl ?_
  refine gg_icmp_lt (pc := 6) hC dX5_isFull_6 (tgt := 13) rfl (fun _ => ?_) (fun _ => ?_)
  · refine gg_iconst (pc := 13) hC dX5_isFull_13 (x := 0) rfl ?_
    exact gg_zretr (pc := 14) hR dX5_isFull_14 rfl
  · refine gg_iconst (pc := 9) hC dX5_isFull_9 (x := 1) rfl ?_
    refine gg_goto (pc := 10) hC dX5_isFull_10 (tgt := 14) rfl ?_
    exact gg_zretr (pc := 14) hR dX5_isFull_14 rfl
def fX5_removeAt_19 (v2 : Int32) : Nat → Int32 → zS → Option (zS)
  | 0, _, _ => none
  | n + 1, v3, σ =>
    if (zi σ 5) ≤ v3 then (some σ) else
    (zg (zq (v3 + 1) 32) (zg (zq v3 32) (zv (wa σ 1 v3.toNatClampNeg (za σ 1 (v3 + 1).toNatClampNeg)) (fun (s1 : zS) =>
    fX5_removeAt_19 v2 n (v3 + 1) s1))))
def fX5_removeAt (v1 : Int32) (σ : zS) : Option (Int32 × zS) :=
    zg (zq v1 32) (zv (za σ 1 v1.toNatClampNeg) (fun (x1 : Int32) =>
    zv (wi σ 5 ((zi σ 5) - 1)) (fun (s2 : zS) =>
    zy1 (fX5_removeAt_19 x1 500 v1 s2) (fun (s3 : zS) =>
    some (x1, s3)))))
set_option maxHeartbeats 4000000 in
set_option maxRecDepth 100000 in
theorem lX5_removeAt_19 {C : zK} {A : Nat → Nat} {cA : Nat → ClassId} (hC : zOK C (wX A cA) cX5_removeAt RX5 4 0 0) {v2 : Int32} : ∀ (n : Nat) (v3 : Int32) (σ : zS), zG C (wX A cA) 4 (fun q => zW C (wX A cA) 4 47 [(2, .int v2)] [] q) (fX5_removeAt_19 v2 n v3 σ) 19 [(0, .ref (A 1)), (2, .int v2), (3, .int v3)] [] σ := by
  intro n
  induction n with
  | zero => intro v3 σ; exact gg_none (o := none)
  | succ n ih =>
    intro v3 σ
    rw [fX5_removeAt_19]
    refine gg_iload_n (pc := 19) hC dX5_removeAt_19 (i := 3) rfl 2 rfl ?_
    refine gg_aload_n (pc := 20) hC dX5_removeAt_20 (i := 0) rfl 0 rfl ?_
    refine gg_get (pc := 21) hC dX5_removeAt_21 fX5_15 1 pX_1 (v := .int (zi σ 5)) rfl ?_
    refine gg_icmp_ge (pc := 24) hC dX5_removeAt_24 (tgt := 47) rfl (fun _ => ?_) (fun _ => ?_)
    · exact gg_y (fun h => zW_lv [1] rfl h)
    · refine gg_aload_n (pc := 27) hC dX5_removeAt_27 (i := 0) rfl 0 rfl ?_
      refine gg_get (pc := 28) hC dX5_removeAt_28 fX5_9 1 pX_1 (v := .ref (A 8)) rfl ?_
      refine gg_iload_n (pc := 31) hC dX5_removeAt_31 (i := 3) rfl 2 rfl ?_
      refine gg_aload_n (pc := 32) hC dX5_removeAt_32 (i := 0) rfl 0 rfl ?_
      refine gg_get (pc := 33) hC dX5_removeAt_33 fX5_9 1 pX_1 (v := .ref (A 8)) rfl ?_
      refine gg_iload_n (pc := 36) hC dX5_removeAt_36 (i := 3) rfl 2 rfl ?_
      refine gg_iconst (pc := 37) hC dX5_removeAt_37 (x := 1) rfl ?_
      refine gg_iadd (pc := 38) hC dX5_removeAt_38 ?_
      refine gg_iald (pc := 39) hC dX5_removeAt_39 8 0 pX_8 rfl ?_
      refine gg_iast (pc := 40) hC dX5_removeAt_40 8 0 pX_8 rfl sX_8 ?_
      refine gg_zvs (fun s1 => ?_)
      refine gg_iinc (pc := 41) hC dX5_removeAt_41 (y := 0) (j := 2) rfl (z := 1) rfl (Nat.le_of_ble_eq_true rfl) (lv' := [(3, .int (v3 + 1)), (0, .ref (A 1)), (2, .int v2)]) rfl ?_
      refine gg_goto (pc := 44) hC dX5_removeAt_44 (tgt := 19) rfl ?_
      exact gg_lv [1, 2, 0] rfl (ih _ _)
set_option maxHeartbeats 4000000 in
set_option maxRecDepth 100000 in
theorem mX5_removeAt {l : Launch} {D : va_G} {A : Nat → Nat} {cA : Nat → ClassId} {v1 : Int32}  {σ : zS} {r : Int32 × zS} (h : fX5_removeAt v1 σ = some r) : zMI l D (wX A cA) yX5_removeAt (zws yX5_removeAt cX5_removeAt 4 (some .int)) 0 0 [.ref (A 1), .int v1] σ r := by
  refine zm_I (lv := [(0, .ref (A 1)), (1, .int v1)]) rfl (sX_ok A) (Nat.le_of_ble_eq_true rfl) rfl (fun C _ _ hC hR => ?_) h
  unfold fX5_removeAt
  refine gg_aload_n (pc := 0) hC dX5_removeAt_0 (i := 0) rfl 0 rfl ?_
  refine gg_get (pc := 1) hC dX5_removeAt_1 fX5_9 1 pX_1 (v := .ref (A 8)) rfl ?_
  refine gg_iload_n (pc := 4) hC dX5_removeAt_4 (i := 1) rfl 1 rfl ?_
  refine gg_iald (pc := 5) hC dX5_removeAt_5 8 0 pX_8 rfl ?_
  refine gg_zvi (fun x1 => ?_)
  refine gg_istore_n (pc := 6) hC dX5_removeAt_6 (i := 2) rfl (Nat.le_of_ble_eq_true rfl) (lv' := [(2, .int x1), (0, .ref (A 1)), (1, .int v1)]) rfl ?_
  refine gg_aload_n (pc := 7) hC dX5_removeAt_7 (i := 0) rfl 1 rfl ?_
  refine gg_dup (pc := 8) hC dX5_removeAt_8 rfl ?_
  refine gg_get (pc := 9) hC dX5_removeAt_9 fX5_15 1 pX_1 (v := .int (zi σ 5)) rfl ?_
  refine gg_iconst (pc := 12) hC dX5_removeAt_12 (x := 1) rfl ?_
  refine gg_isub (pc := 13) hC dX5_removeAt_13 ?_
  refine gg_put (pc := 14) hC dX5_removeAt_14 fX5_15 tX5_2 1 pX_1 rfl rfl rfl (Nat.le_of_ble_eq_true rfl) sX_1_1 ?_
  refine gg_zvs (fun s2 => ?_)
  refine gg_iload_n (pc := 17) hC dX5_removeAt_17 (i := 1) rfl 2 rfl ?_
  refine gg_istore_n (pc := 18) hC dX5_removeAt_18 (i := 3) rfl (Nat.le_of_ble_eq_true rfl) (lv' := [(3, .int v1), (2, .int x1), (0, .ref (A 1)), (1, .int v1)]) rfl ?_
  refine gg_join1 (E' := (fun q => zW C (wX A cA) 4 47 [(2, .int x1)] [] q)) (gg_lv [2, 1, 0] rfl (lX5_removeAt_19 hC  500 _ _)) (fun s3 => ?_)
  show zG C (wX A cA) 4 _ _ 47 [(2, .int x1)] [] s3
  refine gg_iload_n (pc := 47) hC dX5_removeAt_47 (i := 2) rfl 0 rfl ?_
  exact gg_iret (pc := 48) hR dX5_removeAt_48

def fX7_itemOf (v1 : Int32) (v2 : Int32) (σ : zS) : Option (Int64) :=
    zv ((40 * v1) + v2) (fun (x1 : Int32) =>
    zg (zq v1 4) (if 2 ≤ (za σ 11 v1.toNatClampNeg) then (zg (zq x1 160) (if (za σ 13 x1.toNatClampNeg) = 0 then (zg (zq x1 160) (zg (zn64 (FP.dmul (4620693217682128896 : UInt64) (zd σ 0 x1.toNatClampNeg))) (some (FP.d2l (FP.dmul (4620693217682128896 : UInt64) (zd σ 0 x1.toNatClampNeg)))))) else
    (zy1 (fX7_no (-1 : Int32) σ) (fun x2 =>
    some x2)))) else
    (zg (zq x1 160) (some (zj σ 2 x1.toNatClampNeg)))))
set_option maxHeartbeats 4000000 in
set_option maxRecDepth 100000 in
theorem mX7_itemOf {l : Launch} {D : va_G} {A : Nat → Nat} {cA : Nat → ClassId} {v1 : Int32} {v2 : Int32}  {σ : zS} {r : Int64} (h : fX7_itemOf v1 v2 σ = some r) : zML l D (wM A cA) yX7_itemOf (zws yX7_itemOf cX7_itemOf 4 (some .long)) 1 20 [.ref (A 0), .int v1, .int v2] σ (r, σ) := by
  refine zm_Lr (lv := [(0, .ref (A 0)), (1, .int v1), (2, .int v2)]) rfl sM_ok (Nat.le_of_ble_eq_true rfl) rfl (fun C _ _ hC hR => ?_) h
  unfold fX7_itemOf
  refine gg_bipush (pc := 0) hC dX7_itemOf_0 (x := 40) rfl ?_
  refine gg_iload_n (pc := 2) hC dX7_itemOf_2 (i := 1) rfl 1 rfl ?_
  refine gg_imul (pc := 3) hC dX7_itemOf_3 ?_
  refine gg_iload_n (pc := 4) hC dX7_itemOf_4 (i := 2) rfl 2 rfl ?_
  refine gg_iadd (pc := 5) hC dX7_itemOf_5 ?_
  refine gg_zvi (fun x1 => ?_)
  refine gg_istore_n (pc := 6) hC dX7_itemOf_6 (i := 3) rfl (Nat.le_of_ble_eq_true rfl) (lv' := [(3, .int x1), (0, .ref (A 0)), (1, .int v1), (2, .int v2)]) rfl ?_
  refine gg_aload_n (pc := 7) hC dX7_itemOf_7 (i := 0) rfl 1 rfl ?_
  refine gg_get (pc := 8) hC dX7_itemOf_8 fX7_51 0 pM_0 (v := .ref (A 14)) rfl ?_
  refine gg_iload_n (pc := 11) hC dX7_itemOf_11 (i := 1) rfl 2 rfl ?_
  refine gg_iald (pc := 12) hC dX7_itemOf_12 14 0 pM_14 rfl ?_
  refine gg_iconst (pc := 13) hC dX7_itemOf_13 (x := 2) rfl ?_
  refine gg_icmp_ge (pc := 14) hC dX7_itemOf_14 (tgt := 26) rfl (fun _ => ?_) (fun _ => ?_)
  · refine gg_aload_n (pc := 26) hC dX7_itemOf_26 (i := 0) rfl 1 rfl ?_
    refine gg_get (pc := 27) hC dX7_itemOf_27 fX7_64 0 pM_0 (v := .ref (A 18)) rfl ?_
    refine gg_iload_n (pc := 30) hC dX7_itemOf_30 (i := 3) rfl 0 rfl ?_
    refine gg_zald (pc := 31) hC dX7_itemOf_31 18 2 pM_18 rfl ?_
    refine gg_if_eq (pc := 32) hC dX7_itemOf_32 (tgt := 42) rfl (fun _ => ?_) (fun _ => ?_)
    · refine gg_ldc2d (pc := 42) hC dX7_itemOf_42 qX7_293 ?_
      refine gg_aload_n (pc := 45) hC dX7_itemOf_45 (i := 0) rfl 1 rfl ?_
      refine gg_get (pc := 46) hC dX7_itemOf_46 fX7_60 0 pM_0 (v := .ref (A 17)) rfl ?_
      refine gg_iload_n (pc := 49) hC dX7_itemOf_49 (i := 3) rfl 0 rfl ?_
      refine gg_dald (pc := 50) hC dX7_itemOf_50 17 3 pM_17 rfl ?_
      refine gg_dmul (pc := 51) hC dX7_itemOf_51 ?_
      refine gg_d2l (pc := 52) hC dX7_itemOf_52 ?_
      exact gg_lretr (pc := 53) hR dX7_itemOf_53
    · refine gg_iconst (pc := 35) hC dX7_itemOf_35 (x := -1) rfl ?_
      refine gg_callSLr (pc := 36) hC dX7_itemOf_36 cX7_126 (fun _ h => mX7_no h) (Nat.le_of_ble_eq_true rfl) (Nat.le_of_ble_eq_true rfl) (As := [.int (-1 : Int32)]) (rest := []) rfl rfl (Nat.le_of_ble_eq_true rfl) (fun x2 => ?_)
      refine gg_goto (pc := 39) hC dX7_itemOf_39 (tgt := 53) rfl ?_
      exact gg_lretr (pc := 53) hR dX7_itemOf_53
  · refine gg_aload_n (pc := 17) hC dX7_itemOf_17 (i := 0) rfl 1 rfl ?_
    refine gg_get (pc := 18) hC dX7_itemOf_18 fX7_57 0 pM_0 (v := .ref (A 16)) rfl ?_
    refine gg_iload_n (pc := 21) hC dX7_itemOf_21 (i := 3) rfl 0 rfl ?_
    refine gg_lald (pc := 22) hC dX7_itemOf_22 16 1 pM_16 rfl ?_
    refine gg_goto (pc := 23) hC dX7_itemOf_23 (tgt := 53) rfl ?_
    exact gg_lretr (pc := 53) hR dX7_itemOf_53
def fX7_get (v1 : Int32) (v2 : Int32) (σ : zS) : Option (Int64 × zS) :=
    zy1 (fX7_isSheet v1 σ) (fun x1 =>
    if x1 = 0 then (zy1 (fX7_no (-2 : Int32) σ) (fun x2 =>
    some (x2, σ))) else
    (zg (zq v1 4) (zy1 (if (za σ 11 v1.toNatClampNeg) = (-1 : Int32) then (some 1) else
    (zy1 (fX7_hasItem v1 v2 σ) (fun x3 =>
    if x3 = 0 then (some 2) else
    (some 0)))) (fun (x4 : Int32) =>
    if x4 ≤ 0 then (zy1 (fX7_itemOf v1 v2 σ) (fun x5 =>
    some (x5, σ))) else
    (zy2 (fX7_meets x4 σ) (fun x6 s7 =>
    zy1 (fX7_no x6 s7) (fun x8 =>
    some (x8, s7))))))))
set_option maxHeartbeats 4000000 in
set_option maxRecDepth 100000 in
theorem mX7_get {l : Launch} {D : va_G} {A : Nat → Nat} {cA : Nat → ClassId} {v1 : Int32} {v2 : Int32}  {σ : zS} {r : Int64 × zS} (h : fX7_get v1 v2 σ = some r) : zML l D (wM A cA) yX7_get (zws yX7_get cX7_get 4 (some .long)) 2 44 [.ref (A 0), .int v1, .int v2] σ r := by
  refine zm_L (lv := [(0, .ref (A 0)), (1, .int v1), (2, .int v2)]) rfl sM_ok (Nat.le_of_ble_eq_true rfl) rfl (fun C _ _ hC hR => ?_) h
  unfold fX7_get
  refine gg_iload_n (pc := 0) hC dX7_get_0 (i := 1) rfl 1 rfl ?_
  refine gg_callSIr (pc := 1) hC dX7_get_1 cX7_281 (fun _ h => mX7_isSheet h) (Nat.le_of_ble_eq_true rfl) (Nat.le_of_ble_eq_true rfl) (As := [.int v1]) (rest := []) rfl rfl (Nat.le_of_ble_eq_true rfl) (fun x1 => ?_)
  refine gg_if_ne (pc := 4) hC dX7_get_4 (tgt := 13) rfl (fun _ => ?_) (fun _ => ?_)
  · refine gg_bipush (pc := 7) hC dX7_get_7 (x := -2) rfl ?_
    refine gg_callSLr (pc := 9) hC dX7_get_9 cX7_126 (fun _ h => mX7_no h) (Nat.le_of_ble_eq_true rfl) (Nat.le_of_ble_eq_true rfl) (As := [.int (-2 : Int32)]) (rest := []) rfl rfl (Nat.le_of_ble_eq_true rfl) (fun x2 => ?_)
    exact gg_lret (pc := 12) hR dX7_get_12
  · refine gg_aload_n (pc := 13) hC dX7_get_13 (i := 0) rfl 0 rfl ?_
    refine gg_get (pc := 14) hC dX7_get_14 fX7_51 0 pM_0 (v := .ref (A 14)) rfl ?_
    refine gg_iload_n (pc := 17) hC dX7_get_17 (i := 1) rfl 1 rfl ?_
    refine gg_iald (pc := 18) hC dX7_get_18 14 0 pM_14 rfl ?_
    refine gg_iconst (pc := 19) hC dX7_get_19 (x := -1) rfl ?_
    refine gg_join1 (E' := (fun q => zW C (wM A cA) 4 41 [(0, .ref (A 0)), (1, .int v1), (2, .int v2)] [.int q] σ)) ?_ (fun x4 => ?_)
    · refine gg_icmp_ne (pc := 20) hC dX7_get_20 (tgt := 27) rfl (fun _ => ?_) (fun _ => ?_)
      · refine gg_iconst (pc := 23) hC dX7_get_23 (x := 1) rfl ?_
        refine gg_goto (pc := 24) hC dX7_get_24 (tgt := 41) rfl ?_
        exact gg_y (fun h => zW_lv [0, 1, 2] rfl h)
      · refine gg_aload_n (pc := 27) hC dX7_get_27 (i := 0) rfl 0 rfl ?_
        refine gg_iload_n (pc := 28) hC dX7_get_28 (i := 1) rfl 1 rfl ?_
        refine gg_iload_n (pc := 29) hC dX7_get_29 (i := 2) rfl 2 rfl ?_
        refine gg_callVIr (pc := 30) hC dX7_get_30 vX7_287 (fun _ h => mX7_hasItem h) (Nat.le_of_ble_eq_true rfl) (Nat.le_of_ble_eq_true rfl) (As := [.int v1, .int v2]) (rest := []) rfl rfl (Nat.le_of_ble_eq_true rfl) 0 7 pM_0 rfl (fun x3 => ?_)
        refine gg_if_eq (pc := 33) hC dX7_get_33 (tgt := 40) rfl (fun _ => ?_) (fun _ => ?_)
        · refine gg_iconst (pc := 40) hC dX7_get_40 (x := 2) rfl ?_
          exact gg_y (fun h => zW_lv [0, 1, 2] rfl h)
        · refine gg_iconst (pc := 36) hC dX7_get_36 (x := 0) rfl ?_
          refine gg_goto (pc := 37) hC dX7_get_37 (tgt := 41) rfl ?_
          exact gg_y (fun h => zW_lv [0, 1, 2] rfl h)
    · show zG C (wM A cA) 4 _ _ 41 [(0, .ref (A 0)), (1, .int v1), (2, .int v2)] [.int x4] σ
      refine gg_istore_n (pc := 41) hC dX7_get_41 (i := 3) rfl (Nat.le_of_ble_eq_true rfl) (lv' := [(3, .int x4), (0, .ref (A 0)), (1, .int v1), (2, .int v2)]) rfl ?_
      refine gg_iload_n (pc := 42) hC dX7_get_42 (i := 3) rfl 0 rfl ?_
      refine gg_if_le (pc := 43) hC dX7_get_43 (tgt := 57) rfl (fun _ => ?_) (fun _ => ?_)
      · refine gg_aload_n (pc := 57) hC dX7_get_57 (i := 0) rfl 1 rfl ?_
        refine gg_iload_n (pc := 58) hC dX7_get_58 (i := 1) rfl 2 rfl ?_
        refine gg_iload_n (pc := 59) hC dX7_get_59 (i := 2) rfl 3 rfl ?_
        refine gg_callVLr (pc := 60) hC dX7_get_60 vX7_299 (fun _ h => mX7_itemOf h) (Nat.le_of_ble_eq_true rfl) (Nat.le_of_ble_eq_true rfl) (As := [.int v1, .int v2]) (rest := []) rfl rfl (Nat.le_of_ble_eq_true rfl) 0 7 pM_0 rfl (fun x5 => ?_)
        exact gg_lret (pc := 63) hR dX7_get_63
      · refine gg_aload_n (pc := 46) hC dX7_get_46 (i := 0) rfl 1 rfl ?_
        refine gg_iload_n (pc := 47) hC dX7_get_47 (i := 3) rfl 0 rfl ?_
        refine gg_callVI (pc := 48) hC dX7_get_48 vX7_284 (fun _ h => mX7_meets h) (Nat.le_of_ble_eq_true rfl) (Nat.le_of_ble_eq_true rfl) (As := [.int x4]) (rest := []) rfl rfl (Nat.le_of_ble_eq_true rfl) 0 7 pM_0 rfl (fun x6 s7 => ?_)
        refine gg_callSLr (pc := 51) hC dX7_get_51 cX7_126 (fun _ h => mX7_no h) (Nat.le_of_ble_eq_true rfl) (Nat.le_of_ble_eq_true rfl) (As := [.int x6]) (rest := []) rfl rfl (Nat.le_of_ble_eq_true rfl) (fun x8 => ?_)
        refine gg_goto (pc := 54) hC dX7_get_54 (tgt := 63) rfl ?_
        exact gg_lret (pc := 63) hR dX7_get_63
def fX7_isEdge (v1 : Int32) (σ : zS) : Option (Int32) :=
    zy1 (fX7_in v1 0 ((zi σ 0) - 1) σ) (fun x1 =>
    zg (zz x1) (some x1))
set_option maxHeartbeats 4000000 in
set_option maxRecDepth 100000 in
theorem mX7_isEdge {l : Launch} {D : va_G} {A : Nat → Nat} {cA : Nat → ClassId} {v1 : Int32}  {σ : zS} {r : Int32} (h : fX7_isEdge v1 σ = some r) : zMI l D (wM A cA) yX7_isEdge (zws yX7_isEdge cX7_isEdge 2 (some .boolean)) 1 22 [.ref (A 0), .int v1] σ (r, σ) := by
  refine zm_Zr (lv := [(0, .ref (A 0)), (1, .int v1)]) rfl sM_ok (Nat.le_of_ble_eq_true rfl) rfl (fun C _ _ hC hR => ?_) h
  unfold fX7_isEdge
  refine gg_iload_n (pc := 0) hC dX7_isEdge_0 (i := 1) rfl 1 rfl ?_
  refine gg_iconst (pc := 1) hC dX7_isEdge_1 (x := 0) rfl ?_
  refine gg_aload_n (pc := 2) hC dX7_isEdge_2 (i := 0) rfl 0 rfl ?_
  refine gg_get (pc := 3) hC dX7_isEdge_3 fX7_81 0 pM_0 (v := .int (zi σ 0)) rfl ?_
  refine gg_iconst (pc := 6) hC dX7_isEdge_6 (x := 1) rfl ?_
  refine gg_isub (pc := 7) hC dX7_isEdge_7 ?_
  refine gg_callSIr (pc := 8) hC dX7_isEdge_8 cX7_85 (fun _ h => mX7_in h) (Nat.le_of_ble_eq_true rfl) (Nat.le_of_ble_eq_true rfl) (As := [.int v1, .int 0, .int ((zi σ 0) - 1)]) (rest := []) rfl rfl (Nat.le_of_ble_eq_true rfl) (fun x1 => ?_)
  exact gg_zretgr (pc := 11) hR dX7_isEdge_11
def fX7_gone_30 (v2 : Int32) : Nat → Int32 → zS → Option (zS)
  | 0, _, _ => none
  | n + 1, v3, σ =>
    if (zi σ 0) ≤ v3 then (some σ) else
    (zg (zq (v3 + 1) 32) (zg (zq v3 32) (zv (wa σ 0 v3.toNatClampNeg (za σ 0 (v3 + 1).toNatClampNeg)) (fun (s1 : zS) =>
    fX7_gone_30 v2 n (v3 + 1) s1))))
def fX7_gone (v1 : Int32) (σ : zS) : Option (Int32 × zS) :=
    zy1 (fX7_isEdge v1 σ) (fun x1 =>
    if x1 = 0 then (some ((-2 : Int32), σ)) else
    (zg (zq v1 32) (zv (za σ 0 v1.toNatClampNeg) (fun (x2 : Int32) =>
    zv (wi σ 0 ((zi σ 0) - 1)) (fun (s3 : zS) =>
    zy1 (fX7_gone_30 x2 500 v1 s3) (fun (s4 : zS) =>
    some (x2, s4)))))))
set_option maxHeartbeats 4000000 in
set_option maxRecDepth 100000 in
theorem lX7_gone_30 {C : zK} {A : Nat → Nat} {cA : Nat → ClassId} (hC : zOK C (wM A cA) cX7_gone RX7 4 2 43) {v2 : Int32} : ∀ (n : Nat) (v3 : Int32) (σ : zS), zG C (wM A cA) 4 (fun q => zW C (wM A cA) 4 58 [(2, .int v2)] [] q) (fX7_gone_30 v2 n v3 σ) 30 [(0, .ref (A 0)), (2, .int v2), (3, .int v3)] [] σ := by
  intro n
  induction n with
  | zero => intro v3 σ; exact gg_none (o := none)
  | succ n ih =>
    intro v3 σ
    rw [fX7_gone_30]
    refine gg_iload_n (pc := 30) hC dX7_gone_30 (i := 3) rfl 2 rfl ?_
    refine gg_aload_n (pc := 31) hC dX7_gone_31 (i := 0) rfl 0 rfl ?_
    refine gg_get (pc := 32) hC dX7_gone_32 fX7_81 0 pM_0 (v := .int (zi σ 0)) rfl ?_
    refine gg_icmp_ge (pc := 35) hC dX7_gone_35 (tgt := 58) rfl (fun _ => ?_) (fun _ => ?_)
    · exact gg_y (fun h => zW_lv [1] rfl h)
    · refine gg_aload_n (pc := 38) hC dX7_gone_38 (i := 0) rfl 0 rfl ?_
      refine gg_get (pc := 39) hC dX7_gone_39 fX7_7 0 pM_0 (v := .ref (A 1)) rfl ?_
      refine gg_iload_n (pc := 42) hC dX7_gone_42 (i := 3) rfl 2 rfl ?_
      refine gg_aload_n (pc := 43) hC dX7_gone_43 (i := 0) rfl 0 rfl ?_
      refine gg_get (pc := 44) hC dX7_gone_44 fX7_7 0 pM_0 (v := .ref (A 1)) rfl ?_
      refine gg_iload_n (pc := 47) hC dX7_gone_47 (i := 3) rfl 2 rfl ?_
      refine gg_iconst (pc := 48) hC dX7_gone_48 (x := 1) rfl ?_
      refine gg_iadd (pc := 49) hC dX7_gone_49 ?_
      refine gg_iald (pc := 50) hC dX7_gone_50 1 0 pM_1 rfl ?_
      refine gg_iast (pc := 51) hC dX7_gone_51 1 0 pM_1 rfl sM_1 ?_
      refine gg_zvs (fun s1 => ?_)
      refine gg_iinc (pc := 52) hC dX7_gone_52 (y := 0) (j := 2) rfl (z := 1) rfl (Nat.le_of_ble_eq_true rfl) (lv' := [(3, .int (v3 + 1)), (0, .ref (A 0)), (2, .int v2)]) rfl ?_
      refine gg_goto (pc := 55) hC dX7_gone_55 (tgt := 30) rfl ?_
      exact gg_lv [1, 2, 0] rfl (ih _ _)
set_option maxHeartbeats 4000000 in
set_option maxRecDepth 100000 in
theorem mX7_gone {l : Launch} {D : va_G} {A : Nat → Nat} {cA : Nat → ClassId} {v1 : Int32}  {σ : zS} {r : Int32 × zS} (h : fX7_gone v1 σ = some r) : zMI l D (wM A cA) yX7_gone (zws yX7_gone cX7_gone 4 (some .int)) 2 43 [.ref (A 0), .int v1] σ r := by
  refine zm_I (lv := [(0, .ref (A 0)), (1, .int v1)]) rfl sM_ok (Nat.le_of_ble_eq_true rfl) rfl (fun C _ _ hC hR => ?_) h
  unfold fX7_gone
  refine gg_aload_n (pc := 0) hC dX7_gone_0 (i := 0) rfl 0 rfl ?_
  refine gg_iload_n (pc := 1) hC dX7_gone_1 (i := 1) rfl 1 rfl ?_
  refine gg_callVIr (pc := 2) hC dX7_gone_2 vX7_96 (fun _ h => mX7_isEdge h) (Nat.le_of_ble_eq_true rfl) (Nat.le_of_ble_eq_true rfl) (As := [.int v1]) (rest := []) rfl rfl (Nat.le_of_ble_eq_true rfl) 0 7 pM_0 rfl (fun x1 => ?_)
  refine gg_if_ne (pc := 5) hC dX7_gone_5 (tgt := 11) rfl (fun _ => ?_) (fun _ => ?_)
  · refine gg_bipush (pc := 8) hC dX7_gone_8 (x := -2) rfl ?_
    exact gg_iret (pc := 10) hR dX7_gone_10
  · refine gg_aload_n (pc := 11) hC dX7_gone_11 (i := 0) rfl 0 rfl ?_
    refine gg_get (pc := 12) hC dX7_gone_12 fX7_7 0 pM_0 (v := .ref (A 1)) rfl ?_
    refine gg_iload_n (pc := 15) hC dX7_gone_15 (i := 1) rfl 1 rfl ?_
    refine gg_iald (pc := 16) hC dX7_gone_16 1 0 pM_1 rfl ?_
    refine gg_zvi (fun x2 => ?_)
    refine gg_istore_n (pc := 17) hC dX7_gone_17 (i := 2) rfl (Nat.le_of_ble_eq_true rfl) (lv' := [(2, .int x2), (0, .ref (A 0)), (1, .int v1)]) rfl ?_
    refine gg_aload_n (pc := 18) hC dX7_gone_18 (i := 0) rfl 1 rfl ?_
    refine gg_dup (pc := 19) hC dX7_gone_19 rfl ?_
    refine gg_get (pc := 20) hC dX7_gone_20 fX7_81 0 pM_0 (v := .int (zi σ 0)) rfl ?_
    refine gg_iconst (pc := 23) hC dX7_gone_23 (x := 1) rfl ?_
    refine gg_isub (pc := 24) hC dX7_gone_24 ?_
    refine gg_put (pc := 25) hC dX7_gone_25 fX7_81 tX7_2 0 pM_0 rfl rfl rfl (Nat.le_of_ble_eq_true rfl) sM_0_1 ?_
    refine gg_zvs (fun s3 => ?_)
    refine gg_iload_n (pc := 28) hC dX7_gone_28 (i := 1) rfl 2 rfl ?_
    refine gg_istore_n (pc := 29) hC dX7_gone_29 (i := 3) rfl (Nat.le_of_ble_eq_true rfl) (lv' := [(3, .int v1), (2, .int x2), (0, .ref (A 0)), (1, .int v1)]) rfl ?_
    refine gg_join1 (E' := (fun q => zW C (wM A cA) 4 58 [(2, .int x2)] [] q)) (gg_lv [2, 1, 0] rfl (lX7_gone_30 hC  500 _ _)) (fun s4 => ?_)
    show zG C (wM A cA) 4 _ _ 58 [(2, .int x2)] [] s4
    refine gg_iload_n (pc := 58) hC dX7_gone_58 (i := 2) rfl 0 rfl ?_
    exact gg_iret (pc := 59) hR dX7_gone_59
def fX7_hit (v1 : Int32) (v2 : Int32) (σ : zS) : Option (Int32 × zS) :=
    zy1 (fX7_in v1 0 59 σ) (fun x1 =>
    if x1 = 0 then (some ((-2 : Int32), σ)) else
    (zy1 (fX7_in v2 1 99 σ) (fun x2 =>
    if x2 = 0 then (some ((-2 : Int32), σ)) else
    (zy1 (fX7_allHits σ) (fun x3 =>
    if (x3 + v2) ≤ 400 then (zy1 (fX7_codeOf v1 σ) (fun x4 =>
    zg (zq x4 12) (zg (zq x4 12) (zv (wa σ 2 x4.toNatClampNeg ((za σ 2 x4.toNatClampNeg) + v2)) (fun (s5 : zS) =>
    zy1 (fX7_codeOf v1 s5) (fun x6 =>
    zg (zq x6 12) (some ((za s5 2 x6.toNatClampNeg), s5)))))))) else
    (some ((-4 : Int32), σ)))))))
set_option maxHeartbeats 4000000 in
set_option maxRecDepth 100000 in
theorem mX7_hit {l : Launch} {D : va_G} {A : Nat → Nat} {cA : Nat → ClassId} {v1 : Int32} {v2 : Int32}  {σ : zS} {r : Int32 × zS} (h : fX7_hit v1 v2 σ = some r) : zMI l D (wM A cA) yX7_hit (zws yX7_hit cX7_hit 3 (some .int)) 1 22 [.ref (A 0), .int v1, .int v2] σ r := by
  refine zm_I (lv := [(0, .ref (A 0)), (1, .int v1), (2, .int v2)]) rfl sM_ok (Nat.le_of_ble_eq_true rfl) rfl (fun C _ _ hC hR => ?_) h
  unfold fX7_hit
  refine gg_iload_n (pc := 0) hC dX7_hit_0 (i := 1) rfl 1 rfl ?_
  refine gg_iconst (pc := 1) hC dX7_hit_1 (x := 0) rfl ?_
  refine gg_bipush (pc := 2) hC dX7_hit_2 (x := 59) rfl ?_
  refine gg_callSIr (pc := 4) hC dX7_hit_4 cX7_85 (fun _ h => mX7_in h) (Nat.le_of_ble_eq_true rfl) (Nat.le_of_ble_eq_true rfl) (As := [.int v1, .int 0, .int 59]) (rest := []) rfl rfl (Nat.le_of_ble_eq_true rfl) (fun x1 => ?_)
  refine gg_if_eq (pc := 7) hC dX7_hit_7 (tgt := 20) rfl (fun _ => ?_) (fun _ => ?_)
  · refine gg_bipush (pc := 20) hC dX7_hit_20 (x := -2) rfl ?_
    exact gg_iret (pc := 22) hR dX7_hit_22
  · refine gg_iload_n (pc := 10) hC dX7_hit_10 (i := 2) rfl 2 rfl ?_
    refine gg_iconst (pc := 11) hC dX7_hit_11 (x := 1) rfl ?_
    refine gg_bipush (pc := 12) hC dX7_hit_12 (x := 99) rfl ?_
    refine gg_callSIr (pc := 14) hC dX7_hit_14 cX7_85 (fun _ h => mX7_in h) (Nat.le_of_ble_eq_true rfl) (Nat.le_of_ble_eq_true rfl) (As := [.int v2, .int 1, .int 99]) (rest := []) rfl rfl (Nat.le_of_ble_eq_true rfl) (fun x2 => ?_)
    refine gg_if_ne (pc := 17) hC dX7_hit_17 (tgt := 23) rfl (fun _ => ?_) (fun _ => ?_)
    · refine gg_bipush (pc := 20) hC dX7_hit_20 (x := -2) rfl ?_
      exact gg_iret (pc := 22) hR dX7_hit_22
    · refine gg_aload_n (pc := 23) hC dX7_hit_23 (i := 0) rfl 0 rfl ?_
      refine gg_callVIr (pc := 24) hC dX7_hit_24 vX7_103 (fun _ h => mX7_allHits h) (Nat.le_of_ble_eq_true rfl) (Nat.le_of_ble_eq_true rfl) (As := []) (rest := []) rfl rfl (Nat.le_of_ble_eq_true rfl) 0 7 pM_0 rfl (fun x3 => ?_)
      refine gg_iload_n (pc := 27) hC dX7_hit_27 (i := 2) rfl 2 rfl ?_
      refine gg_iadd (pc := 28) hC dX7_hit_28 ?_
      refine gg_sipush (pc := 29) hC dX7_hit_29 (x := 400) rfl ?_
      refine gg_icmp_le (pc := 32) hC dX7_hit_32 (tgt := 38) rfl (fun _ => ?_) (fun _ => ?_)
      · refine gg_aload_n (pc := 38) hC dX7_hit_38 (i := 0) rfl 0 rfl ?_
        refine gg_get (pc := 39) hC dX7_hit_39 fX7_17 0 pM_0 (v := .ref (A 3)) rfl ?_
        refine gg_aload_n (pc := 42) hC dX7_hit_42 (i := 0) rfl 0 rfl ?_
        refine gg_iload_n (pc := 43) hC dX7_hit_43 (i := 1) rfl 1 rfl ?_
        refine gg_callVIr (pc := 44) hC dX7_hit_44 vX7_113 (fun _ h => mX7_codeOf h) (Nat.le_of_ble_eq_true rfl) (Nat.le_of_ble_eq_true rfl) (As := [.int v1]) (rest := [.ref (A 3)]) rfl rfl (Nat.le_of_ble_eq_true rfl) 0 7 pM_0 rfl (fun x4 => ?_)
        refine gg_dup2 (pc := 47) hC dX7_hit_47 rfl rfl ?_
        refine gg_iald (pc := 48) hC dX7_hit_48 3 0 pM_3 rfl ?_
        refine gg_iload_n (pc := 49) hC dX7_hit_49 (i := 2) rfl 2 rfl ?_
        refine gg_iadd (pc := 50) hC dX7_hit_50 ?_
        refine gg_iast (pc := 51) hC dX7_hit_51 3 0 pM_3 rfl sM_3 ?_
        refine gg_zvs (fun s5 => ?_)
        refine gg_aload_n (pc := 52) hC dX7_hit_52 (i := 0) rfl 0 rfl ?_
        refine gg_get (pc := 53) hC dX7_hit_53 fX7_17 0 pM_0 (v := .ref (A 3)) rfl ?_
        refine gg_aload_n (pc := 56) hC dX7_hit_56 (i := 0) rfl 0 rfl ?_
        refine gg_iload_n (pc := 57) hC dX7_hit_57 (i := 1) rfl 1 rfl ?_
        refine gg_callVIr (pc := 58) hC dX7_hit_58 vX7_113 (fun _ h => mX7_codeOf h) (Nat.le_of_ble_eq_true rfl) (Nat.le_of_ble_eq_true rfl) (As := [.int v1]) (rest := [.ref (A 3)]) rfl rfl (Nat.le_of_ble_eq_true rfl) 0 7 pM_0 rfl (fun x6 => ?_)
        refine gg_iald (pc := 61) hC dX7_hit_61 3 0 pM_3 rfl ?_
        exact gg_iret (pc := 62) hR dX7_hit_62
      · refine gg_bipush (pc := 35) hC dX7_hit_35 (x := -4) rfl ?_
        exact gg_iret (pc := 37) hR dX7_hit_37
def fX7_keeps (v1 : Int32) (v2 : UInt64) (σ : zS) : Option (zS) :=
    zg (zq v1 160) (zv (wd σ 0 v1.toNatClampNeg v2) (fun (s1 : zS) =>
    zg (zq v1 160) (zv (wa s1 13 v1.toNatClampNeg (vp_nar .boolean 0)) (fun (s2 : zS) =>
    some s2))))
set_option maxHeartbeats 4000000 in
set_option maxRecDepth 100000 in
theorem mX7_keeps {l : Launch} {D : va_G} {A : Nat → Nat} {cA : Nat → ClassId} {v1 : Int32} {v2 : UInt64}  {σ : zS} {r : zS} (h : fX7_keeps v1 v2 σ = some r) : zMV l D (wM A cA) yX7_keeps (zws yX7_keeps cX7_keeps 4 none) 0 0 [.ref (A 0), .int v1, .double v2] σ r := by
  refine zm_V (lv := [(0, .ref (A 0)), (1, .int v1), (2, .double v2)]) rfl sM_ok (Nat.le_of_ble_eq_true rfl) rfl (fun C _ _ hC hR => ?_) h
  unfold fX7_keeps
  refine gg_aload_n (pc := 0) hC dX7_keeps_0 (i := 0) rfl 0 rfl ?_
  refine gg_get (pc := 1) hC dX7_keeps_1 fX7_60 0 pM_0 (v := .ref (A 17)) rfl ?_
  refine gg_iload_n (pc := 4) hC dX7_keeps_4 (i := 1) rfl 1 rfl ?_
  refine gg_dload_n (pc := 5) hC dX7_keeps_5 (i := 2) rfl 2 rfl ?_
  refine gg_dast (pc := 6) hC dX7_keeps_6 17 3 pM_17 rfl sM_17 ?_
  refine gg_zvs (fun s1 => ?_)
  refine gg_aload_n (pc := 7) hC dX7_keeps_7 (i := 0) rfl 0 rfl ?_
  refine gg_get (pc := 8) hC dX7_keeps_8 fX7_64 0 pM_0 (v := .ref (A 18)) rfl ?_
  refine gg_iload_n (pc := 11) hC dX7_keeps_11 (i := 1) rfl 1 rfl ?_
  refine gg_iconst (pc := 12) hC dX7_keeps_12 (x := 0) rfl ?_
  refine gg_zast (pc := 13) hC dX7_keeps_13 18 2 pM_18 rfl sM_18 ?_
  refine gg_zvs (fun s2 => ?_)
  exact gg_vret (pc := 14) hR dX7_keeps_14
def fX7_lose (v1 : Int32) (σ : zS) : Option (Int32 × zS) :=
    zy1 (fX7_isSheet v1 σ) (fun x1 =>
    if x1 = 0 then (some ((-2 : Int32), σ)) else
    (zg (zq v1 4) (if (za σ 11 v1.toNatClampNeg) = (-1 : Int32) then (zy2 (fX7_meets 1 σ) (fun x2 s3 =>
    some (x2, s3))) else
    (zg (zq v1 4) (zv (wa σ 11 v1.toNatClampNeg (-1 : Int32)) (fun (s4 : zS) =>
    zg (zq v1 4) (some ((za s4 12 v1.toNatClampNeg), s4))))))))
set_option maxHeartbeats 4000000 in
set_option maxRecDepth 100000 in
theorem mX7_lose {l : Launch} {D : va_G} {A : Nat → Nat} {cA : Nat → ClassId} {v1 : Int32}  {σ : zS} {r : Int32 × zS} (h : fX7_lose v1 σ = some r) : zMI l D (wM A cA) yX7_lose (zws yX7_lose cX7_lose 2 (some .int)) 2 42 [.ref (A 0), .int v1] σ r := by
  refine zm_I (lv := [(0, .ref (A 0)), (1, .int v1)]) rfl sM_ok (Nat.le_of_ble_eq_true rfl) rfl (fun C _ _ hC hR => ?_) h
  unfold fX7_lose
  refine gg_iload_n (pc := 0) hC dX7_lose_0 (i := 1) rfl 1 rfl ?_
  refine gg_callSIr (pc := 1) hC dX7_lose_1 cX7_281 (fun _ h => mX7_isSheet h) (Nat.le_of_ble_eq_true rfl) (Nat.le_of_ble_eq_true rfl) (As := [.int v1]) (rest := []) rfl rfl (Nat.le_of_ble_eq_true rfl) (fun x1 => ?_)
  refine gg_if_ne (pc := 4) hC dX7_lose_4 (tgt := 10) rfl (fun _ => ?_) (fun _ => ?_)
  · refine gg_bipush (pc := 7) hC dX7_lose_7 (x := -2) rfl ?_
    exact gg_iret (pc := 9) hR dX7_lose_9
  · refine gg_aload_n (pc := 10) hC dX7_lose_10 (i := 0) rfl 0 rfl ?_
    refine gg_get (pc := 11) hC dX7_lose_11 fX7_51 0 pM_0 (v := .ref (A 14)) rfl ?_
    refine gg_iload_n (pc := 14) hC dX7_lose_14 (i := 1) rfl 1 rfl ?_
    refine gg_iald (pc := 15) hC dX7_lose_15 14 0 pM_14 rfl ?_
    refine gg_iconst (pc := 16) hC dX7_lose_16 (x := -1) rfl ?_
    refine gg_icmp_ne (pc := 17) hC dX7_lose_17 (tgt := 26) rfl (fun _ => ?_) (fun _ => ?_)
    · refine gg_aload_n (pc := 20) hC dX7_lose_20 (i := 0) rfl 0 rfl ?_
      refine gg_iconst (pc := 21) hC dX7_lose_21 (x := 1) rfl ?_
      refine gg_callVI (pc := 22) hC dX7_lose_22 vX7_284 (fun _ h => mX7_meets h) (Nat.le_of_ble_eq_true rfl) (Nat.le_of_ble_eq_true rfl) (As := [.int 1]) (rest := []) rfl rfl (Nat.le_of_ble_eq_true rfl) 0 7 pM_0 rfl (fun x2 s3 => ?_)
      exact gg_iret (pc := 25) hR dX7_lose_25
    · refine gg_aload_n (pc := 26) hC dX7_lose_26 (i := 0) rfl 0 rfl ?_
      refine gg_get (pc := 27) hC dX7_lose_27 fX7_51 0 pM_0 (v := .ref (A 14)) rfl ?_
      refine gg_iload_n (pc := 30) hC dX7_lose_30 (i := 1) rfl 1 rfl ?_
      refine gg_iconst (pc := 31) hC dX7_lose_31 (x := -1) rfl ?_
      refine gg_iast (pc := 32) hC dX7_lose_32 14 0 pM_14 rfl sM_14 ?_
      refine gg_zvs (fun s4 => ?_)
      refine gg_aload_n (pc := 33) hC dX7_lose_33 (i := 0) rfl 0 rfl ?_
      refine gg_get (pc := 34) hC dX7_lose_34 fX7_54 0 pM_0 (v := .ref (A 15)) rfl ?_
      refine gg_iload_n (pc := 37) hC dX7_lose_37 (i := 1) rfl 1 rfl ?_
      refine gg_iald (pc := 38) hC dX7_lose_38 15 0 pM_15 rfl ?_
      exact gg_iret (pc := 39) hR dX7_lose_39
def fX7_mend (v1 : Int32) (σ : zS) : Option (Int32 × zS) :=
    zy1 (fX7_in v1 0 1 σ) (fun x1 =>
    if x1 = 0 then (some ((-2 : Int32), σ)) else
    (zv (zi σ 3) (fun (x2 : Int32) =>
    zv (wi σ 3 v1) (fun (s3 : zS) =>
    some (x2, s3)))))
set_option maxHeartbeats 4000000 in
set_option maxRecDepth 100000 in
theorem mX7_mend {l : Launch} {D : va_G} {A : Nat → Nat} {cA : Nat → ClassId} {v1 : Int32}  {σ : zS} {r : Int32 × zS} (h : fX7_mend v1 σ = some r) : zMI l D (wM A cA) yX7_mend (zws yX7_mend cX7_mend 3 (some .int)) 1 22 [.ref (A 0), .int v1] σ r := by
  refine zm_I (lv := [(0, .ref (A 0)), (1, .int v1)]) rfl sM_ok (Nat.le_of_ble_eq_true rfl) rfl (fun C _ _ hC hR => ?_) h
  unfold fX7_mend
  refine gg_iload_n (pc := 0) hC dX7_mend_0 (i := 1) rfl 1 rfl ?_
  refine gg_iconst (pc := 1) hC dX7_mend_1 (x := 0) rfl ?_
  refine gg_iconst (pc := 2) hC dX7_mend_2 (x := 1) rfl ?_
  refine gg_callSIr (pc := 3) hC dX7_mend_3 cX7_85 (fun _ h => mX7_in h) (Nat.le_of_ble_eq_true rfl) (Nat.le_of_ble_eq_true rfl) (As := [.int v1, .int 0, .int 1]) (rest := []) rfl rfl (Nat.le_of_ble_eq_true rfl) (fun x1 => ?_)
  refine gg_if_ne (pc := 6) hC dX7_mend_6 (tgt := 12) rfl (fun _ => ?_) (fun _ => ?_)
  · refine gg_bipush (pc := 9) hC dX7_mend_9 (x := -2) rfl ?_
    exact gg_iret (pc := 11) hR dX7_mend_11
  · refine gg_aload_n (pc := 12) hC dX7_mend_12 (i := 0) rfl 0 rfl ?_
    refine gg_get (pc := 13) hC dX7_mend_13 fX7_156 0 pM_0 (v := .int (zi σ 3)) rfl ?_
    refine gg_zvi (fun x2 => ?_)
    refine gg_istore_n (pc := 16) hC dX7_mend_16 (i := 2) rfl (Nat.le_of_ble_eq_true rfl) (lv' := [(2, .int x2), (0, .ref (A 0)), (1, .int v1)]) rfl ?_
    refine gg_aload_n (pc := 17) hC dX7_mend_17 (i := 0) rfl 1 rfl ?_
    refine gg_iload_n (pc := 18) hC dX7_mend_18 (i := 1) rfl 2 rfl ?_
    refine gg_put (pc := 19) hC dX7_mend_19 fX7_156 tX7_2 0 pM_0 rfl rfl rfl (Nat.le_of_ble_eq_true rfl) sM_0_9 ?_
    refine gg_zvs (fun s3 => ?_)
    refine gg_iload_n (pc := 22) hC dX7_mend_22 (i := 2) rfl 0 rfl ?_
    exact gg_iret (pc := 23) hR dX7_mend_23
def fX7_mode  (σ : zS) : Option (Int32) :=
    zy1 (fX7_modeNow σ) (fun x1 =>
    some x1)
set_option maxHeartbeats 4000000 in
set_option maxRecDepth 100000 in
theorem mX7_mode {l : Launch} {D : va_G} {A : Nat → Nat} {cA : Nat → ClassId}   {σ : zS} {r : Int32} (h : fX7_mode  σ = some r) : zMI l D (wM A cA) yX7_mode (zws yX7_mode cX7_mode 1 (some .int)) 2 45 [.ref (A 0)] σ (r, σ) := by
  refine zm_Ir (lv := [(0, .ref (A 0))]) rfl sM_ok (Nat.le_of_ble_eq_true rfl) rfl (fun C _ _ hC hR => ?_) h
  unfold fX7_mode
  refine gg_aload_n (pc := 0) hC dX7_mode_0 (i := 0) rfl 0 rfl ?_
  refine gg_callVIr (pc := 1) hC dX7_mode_1 vX7_150 (fun _ h => mX7_modeNow h) (Nat.le_of_ble_eq_true rfl) (Nat.le_of_ble_eq_true rfl) (As := []) (rest := []) rfl rfl (Nat.le_of_ble_eq_true rfl) 0 7 pM_0 rfl (fun x1 => ?_)
  exact gg_iretr (pc := 4) hR dX7_mode_4
def fX7_nominal (v1 : Int32) (σ : zS) : Option (Int32 × zS) :=
    zy1 (fX7_in v1 0 600 σ) (fun x1 =>
    if x1 = 0 then (some ((-2 : Int32), σ)) else
    (zv (zi σ 2) (fun (x2 : Int32) =>
    zv (wi σ 2 v1) (fun (s3 : zS) =>
    some (x2, s3)))))
set_option maxHeartbeats 4000000 in
set_option maxRecDepth 100000 in
theorem mX7_nominal {l : Launch} {D : va_G} {A : Nat → Nat} {cA : Nat → ClassId} {v1 : Int32}  {σ : zS} {r : Int32 × zS} (h : fX7_nominal v1 σ = some r) : zMI l D (wM A cA) yX7_nominal (zws yX7_nominal cX7_nominal 3 (some .int)) 1 22 [.ref (A 0), .int v1] σ r := by
  refine zm_I (lv := [(0, .ref (A 0)), (1, .int v1)]) rfl sM_ok (Nat.le_of_ble_eq_true rfl) rfl (fun C _ _ hC hR => ?_) h
  unfold fX7_nominal
  refine gg_iload_n (pc := 0) hC dX7_nominal_0 (i := 1) rfl 1 rfl ?_
  refine gg_iconst (pc := 1) hC dX7_nominal_1 (x := 0) rfl ?_
  refine gg_sipush (pc := 2) hC dX7_nominal_2 (x := 600) rfl ?_
  refine gg_callSIr (pc := 5) hC dX7_nominal_5 cX7_85 (fun _ h => mX7_in h) (Nat.le_of_ble_eq_true rfl) (Nat.le_of_ble_eq_true rfl) (As := [.int v1, .int 0, .int 600]) (rest := []) rfl rfl (Nat.le_of_ble_eq_true rfl) (fun x1 => ?_)
  refine gg_if_ne (pc := 8) hC dX7_nominal_8 (tgt := 14) rfl (fun _ => ?_) (fun _ => ?_)
  · refine gg_bipush (pc := 11) hC dX7_nominal_11 (x := -2) rfl ?_
    exact gg_iret (pc := 13) hR dX7_nominal_13
  · refine gg_aload_n (pc := 14) hC dX7_nominal_14 (i := 0) rfl 0 rfl ?_
    refine gg_get (pc := 15) hC dX7_nominal_15 fX7_153 0 pM_0 (v := .int (zi σ 2)) rfl ?_
    refine gg_zvi (fun x2 => ?_)
    refine gg_istore_n (pc := 18) hC dX7_nominal_18 (i := 2) rfl (Nat.le_of_ble_eq_true rfl) (lv' := [(2, .int x2), (0, .ref (A 0)), (1, .int v1)]) rfl ?_
    refine gg_aload_n (pc := 19) hC dX7_nominal_19 (i := 0) rfl 1 rfl ?_
    refine gg_iload_n (pc := 20) hC dX7_nominal_20 (i := 1) rfl 2 rfl ?_
    refine gg_put (pc := 21) hC dX7_nominal_21 fX7_153 tX7_2 0 pM_0 rfl rfl rfl (Nat.le_of_ble_eq_true rfl) sM_0_8 ?_
    refine gg_zvs (fun s3 => ?_)
    refine gg_iload_n (pc := 24) hC dX7_nominal_24 (i := 2) rfl 0 rfl ?_
    exact gg_iret (pc := 25) hR dX7_nominal_25
def fX7_off (v1 : Int32) (v2 : Int32) (σ : zS) : Option (Int32 × zS) :=
    zy1 (fX7_isFit v1 v2 σ) (fun x1 =>
    if x1 = 0 then (some ((-2 : Int32), σ)) else
    (zy2 (fX7_offOf v1 v2 σ) (fun x2 s3 =>
    some (x2, s3))))
set_option maxHeartbeats 4000000 in
set_option maxRecDepth 100000 in
theorem mX7_off {l : Launch} {D : va_G} {A : Nat → Nat} {cA : Nat → ClassId} {v1 : Int32} {v2 : Int32}  {σ : zS} {r : Int32 × zS} (h : fX7_off v1 v2 σ = some r) : zMI l D (wM A cA) yX7_off (zws yX7_off cX7_off 3 (some .int)) 5 129 [.ref (A 0), .int v1, .int v2] σ r := by
  refine zm_I (lv := [(0, .ref (A 0)), (1, .int v1), (2, .int v2)]) rfl sM_ok (Nat.le_of_ble_eq_true rfl) rfl (fun C _ _ hC hR => ?_) h
  unfold fX7_off
  refine gg_aload_n (pc := 0) hC dX7_off_0 (i := 0) rfl 0 rfl ?_
  refine gg_iload_n (pc := 1) hC dX7_off_1 (i := 1) rfl 1 rfl ?_
  refine gg_iload_n (pc := 2) hC dX7_off_2 (i := 2) rfl 2 rfl ?_
  refine gg_callVIr (pc := 3) hC dX7_off_3 vX7_246 (fun _ h => mX7_isFit h) (Nat.le_of_ble_eq_true rfl) (Nat.le_of_ble_eq_true rfl) (As := [.int v1, .int v2]) (rest := []) rfl rfl (Nat.le_of_ble_eq_true rfl) 0 7 pM_0 rfl (fun x1 => ?_)
  refine gg_if_eq (pc := 6) hC dX7_off_6 (tgt := 18) rfl (fun _ => ?_) (fun _ => ?_)
  · refine gg_bipush (pc := 18) hC dX7_off_18 (x := -2) rfl ?_
    exact gg_iret (pc := 20) hR dX7_off_20
  · refine gg_aload_n (pc := 9) hC dX7_off_9 (i := 0) rfl 0 rfl ?_
    refine gg_iload_n (pc := 10) hC dX7_off_10 (i := 1) rfl 1 rfl ?_
    refine gg_iload_n (pc := 11) hC dX7_off_11 (i := 2) rfl 2 rfl ?_
    refine gg_callVI (pc := 12) hC dX7_off_12 vX7_254 (fun _ h => mX7_offOf h) (Nat.le_of_ble_eq_true rfl) (Nat.le_of_ble_eq_true rfl) (As := [.int v1, .int v2]) (rest := []) rfl rfl (Nat.le_of_ble_eq_true rfl) 0 7 pM_0 rfl (fun x2 s3 => ?_)
    refine gg_goto (pc := 15) hC dX7_off_15 (tgt := 20) rfl ?_
    exact gg_iret (pc := 20) hR dX7_off_20
def fX7_put (v1 : Int32) (v2 : Int32) (v3 : Int32) (v4 : Int32) (σ : zS) : Option (Int32 × zS) :=
    zy1 (fX7_isSheet v1 σ) (fun x1 =>
    if x1 = 0 then (some ((-2 : Int32), σ)) else
    (zy1 (fX7_in v2 0 3 σ) (fun x2 =>
    if x2 = 0 then (some ((-2 : Int32), σ)) else
    (zg (zq v1 4) (zy1 (if (za σ 11 v1.toNatClampNeg) = (-1 : Int32) then (some 1) else
    (zg (zq v1 4) (if (za σ 11 v1.toNatClampNeg) = v2 then (zy1 (fX7_hasItem v1 v3 σ) (fun x3 =>
    if x3 = 0 then (some 2) else
    (some 0))) else
    (some 3)))) (fun (x4 : Int32) =>
    if x4 ≤ 0 then (zy1 (if v2 = 1 then (some ((v4.toInt64) * (100000007 : Int64))) else
    (some (v4.toInt64))) (fun (x5 : Int64) =>
    zg (zq ((40 * v1) + v3) 160) (zv (wj σ 2 ((40 * v1) + v3).toNatClampNeg x5) (fun (s6 : zS) =>
    zy1 (if v2 = 2 then (zg (zn32 (FP.fdiv (FP.i2f v4) (1090519040 : UInt32))) (zg (zn64 (FP.f2d (FP.fdiv (FP.i2f v4) (1090519040 : UInt32)))) (some (FP.f2d (FP.fdiv (FP.i2f v4) (1090519040 : UInt32)))))) else
    (zg (zn64 (FP.ddiv (FP.i2d v4) (4620693217682128896 : UInt64))) (some (FP.ddiv (FP.i2d v4) (4620693217682128896 : UInt64))))) (fun (x7 : UInt64) =>
    zy1 (fX7_keeps ((40 * v1) + v3) x7 s6) (fun s8 =>
    some (1, s8))))))) else
    (zy2 (fX7_meets x4 σ) (fun x9 s10 =>
    some (x9, s10)))))))))
set_option maxHeartbeats 4000000 in
set_option maxRecDepth 100000 in
theorem mX7_put {l : Launch} {D : va_G} {A : Nat → Nat} {cA : Nat → ClassId} {v1 : Int32} {v2 : Int32} {v3 : Int32} {v4 : Int32}  {σ : zS} {r : Int32 × zS} (h : fX7_put v1 v2 v3 v4 σ = some r) : zMI l D (wM A cA) yX7_put (zws yX7_put cX7_put 6 (some .int)) 2 44 [.ref (A 0), .int v1, .int v2, .int v3, .int v4] σ r := by
  refine zm_I (lv := [(0, .ref (A 0)), (1, .int v1), (2, .int v2), (3, .int v3), (4, .int v4)]) rfl sM_ok (Nat.le_of_ble_eq_true rfl) rfl (fun C _ _ hC hR => ?_) h
  unfold fX7_put
  refine gg_iload_n (pc := 0) hC dX7_put_0 (i := 1) rfl 1 rfl ?_
  refine gg_callSIr (pc := 1) hC dX7_put_1 cX7_281 (fun _ h => mX7_isSheet h) (Nat.le_of_ble_eq_true rfl) (Nat.le_of_ble_eq_true rfl) (As := [.int v1]) (rest := []) rfl rfl (Nat.le_of_ble_eq_true rfl) (fun x1 => ?_)
  refine gg_if_eq (pc := 4) hC dX7_put_4 (tgt := 16) rfl (fun _ => ?_) (fun _ => ?_)
  · refine gg_bipush (pc := 16) hC dX7_put_16 (x := -2) rfl ?_
    exact gg_iret (pc := 18) hR dX7_put_18
  · refine gg_iload_n (pc := 7) hC dX7_put_7 (i := 2) rfl 2 rfl ?_
    refine gg_iconst (pc := 8) hC dX7_put_8 (x := 0) rfl ?_
    refine gg_iconst (pc := 9) hC dX7_put_9 (x := 3) rfl ?_
    refine gg_callSIr (pc := 10) hC dX7_put_10 cX7_85 (fun _ h => mX7_in h) (Nat.le_of_ble_eq_true rfl) (Nat.le_of_ble_eq_true rfl) (As := [.int v2, .int 0, .int 3]) (rest := []) rfl rfl (Nat.le_of_ble_eq_true rfl) (fun x2 => ?_)
    refine gg_if_ne (pc := 13) hC dX7_put_13 (tgt := 19) rfl (fun _ => ?_) (fun _ => ?_)
    · refine gg_bipush (pc := 16) hC dX7_put_16 (x := -2) rfl ?_
      exact gg_iret (pc := 18) hR dX7_put_18
    · refine gg_aload_n (pc := 19) hC dX7_put_19 (i := 0) rfl 0 rfl ?_
      refine gg_get (pc := 20) hC dX7_put_20 fX7_51 0 pM_0 (v := .ref (A 14)) rfl ?_
      refine gg_iload_n (pc := 23) hC dX7_put_23 (i := 1) rfl 1 rfl ?_
      refine gg_iald (pc := 24) hC dX7_put_24 14 0 pM_14 rfl ?_
      refine gg_iconst (pc := 25) hC dX7_put_25 (x := -1) rfl ?_
      refine gg_join1 (E' := (fun q => zW C (wM A cA) 6 61 [(0, .ref (A 0)), (1, .int v1), (2, .int v2), (3, .int v3), (4, .int v4)] [.int q] σ)) ?_ (fun x4 => ?_)
      · refine gg_icmp_ne (pc := 26) hC dX7_put_26 (tgt := 33) rfl (fun _ => ?_) (fun _ => ?_)
        · refine gg_iconst (pc := 29) hC dX7_put_29 (x := 1) rfl ?_
          refine gg_goto (pc := 30) hC dX7_put_30 (tgt := 61) rfl ?_
          exact gg_y (fun h => zW_lv [0, 1, 2, 3, 4] rfl h)
        · refine gg_aload_n (pc := 33) hC dX7_put_33 (i := 0) rfl 0 rfl ?_
          refine gg_get (pc := 34) hC dX7_put_34 fX7_51 0 pM_0 (v := .ref (A 14)) rfl ?_
          refine gg_iload_n (pc := 37) hC dX7_put_37 (i := 1) rfl 1 rfl ?_
          refine gg_iald (pc := 38) hC dX7_put_38 14 0 pM_14 rfl ?_
          refine gg_iload_n (pc := 39) hC dX7_put_39 (i := 2) rfl 2 rfl ?_
          refine gg_icmp_eq (pc := 40) hC dX7_put_40 (tgt := 47) rfl (fun _ => ?_) (fun _ => ?_)
          · refine gg_aload_n (pc := 47) hC dX7_put_47 (i := 0) rfl 0 rfl ?_
            refine gg_iload_n (pc := 48) hC dX7_put_48 (i := 1) rfl 1 rfl ?_
            refine gg_iload_n (pc := 49) hC dX7_put_49 (i := 3) rfl 3 rfl ?_
            refine gg_callVIr (pc := 50) hC dX7_put_50 vX7_287 (fun _ h => mX7_hasItem h) (Nat.le_of_ble_eq_true rfl) (Nat.le_of_ble_eq_true rfl) (As := [.int v1, .int v3]) (rest := []) rfl rfl (Nat.le_of_ble_eq_true rfl) 0 7 pM_0 rfl (fun x3 => ?_)
            refine gg_if_eq (pc := 53) hC dX7_put_53 (tgt := 60) rfl (fun _ => ?_) (fun _ => ?_)
            · refine gg_iconst (pc := 60) hC dX7_put_60 (x := 2) rfl ?_
              exact gg_y (fun h => zW_lv [0, 1, 2, 3, 4] rfl h)
            · refine gg_iconst (pc := 56) hC dX7_put_56 (x := 0) rfl ?_
              refine gg_goto (pc := 57) hC dX7_put_57 (tgt := 61) rfl ?_
              exact gg_y (fun h => zW_lv [0, 1, 2, 3, 4] rfl h)
          · refine gg_iconst (pc := 43) hC dX7_put_43 (x := 3) rfl ?_
            refine gg_goto (pc := 44) hC dX7_put_44 (tgt := 61) rfl ?_
            exact gg_y (fun h => zW_lv [0, 1, 2, 3, 4] rfl h)
      · show zG C (wM A cA) 6 _ _ 61 [(0, .ref (A 0)), (1, .int v1), (2, .int v2), (3, .int v3), (4, .int v4)] [.int x4] σ
        refine gg_istore (pc := 61) hC dX7_put_61 (Nat.le_of_ble_eq_true rfl) (lv' := [(5, .int x4), (0, .ref (A 0)), (1, .int v1), (2, .int v2), (3, .int v3), (4, .int v4)]) rfl ?_
        refine gg_iload (pc := 63) hC dX7_put_63 0 rfl ?_
        refine gg_if_le (pc := 65) hC dX7_put_65 (tgt := 75) rfl (fun _ => ?_) (fun _ => ?_)
        · refine gg_aload_n (pc := 75) hC dX7_put_75 (i := 0) rfl 1 rfl ?_
          refine gg_get (pc := 76) hC dX7_put_76 fX7_57 0 pM_0 (v := .ref (A 16)) rfl ?_
          refine gg_bipush (pc := 79) hC dX7_put_79 (x := 40) rfl ?_
          refine gg_iload_n (pc := 81) hC dX7_put_81 (i := 1) rfl 2 rfl ?_
          refine gg_imul (pc := 82) hC dX7_put_82 ?_
          refine gg_iload_n (pc := 83) hC dX7_put_83 (i := 3) rfl 4 rfl ?_
          refine gg_iadd (pc := 84) hC dX7_put_84 ?_
          refine gg_iload_n (pc := 85) hC dX7_put_85 (i := 2) rfl 3 rfl ?_
          refine gg_iconst (pc := 86) hC dX7_put_86 (x := 1) rfl ?_
          refine gg_join1 (E' := (fun q => zW C (wM A cA) 6 103 [(0, .ref (A 0)), (1, .int v1), (2, .int v2), (3, .int v3), (4, .int v4)] [.long q, .int ((40 * v1) + v3), .ref (A 16)] σ)) ?_ (fun x5 => ?_)
          · refine gg_icmp_ne (pc := 87) hC dX7_put_87 (tgt := 100) rfl (fun _ => ?_) (fun _ => ?_)
            · refine gg_iload (pc := 90) hC dX7_put_90 5 rfl ?_
              refine gg_i2l (pc := 92) hC dX7_put_92 ?_
              refine gg_ldc2 (pc := 93) hC dX7_put_93 qX7_290 ?_
              refine gg_lmul (pc := 96) hC dX7_put_96 ?_
              refine gg_goto (pc := 97) hC dX7_put_97 (tgt := 103) rfl ?_
              exact gg_y (fun h => zW_lv [1, 2, 3, 4, 5] rfl h)
            · refine gg_iload (pc := 100) hC dX7_put_100 5 rfl ?_
              refine gg_i2l (pc := 102) hC dX7_put_102 ?_
              exact gg_y (fun h => zW_lv [1, 2, 3, 4, 5] rfl h)
          · show zG C (wM A cA) 6 _ _ 103 [(0, .ref (A 0)), (1, .int v1), (2, .int v2), (3, .int v3), (4, .int v4)] [.long x5, .int ((40 * v1) + v3), .ref (A 16)] σ
            refine gg_last (pc := 103) hC dX7_put_103 16 1 pM_16 rfl sM_16 ?_
            refine gg_zvs (fun s6 => ?_)
            refine gg_aload_n (pc := 104) hC dX7_put_104 (i := 0) rfl 0 rfl ?_
            refine gg_bipush (pc := 105) hC dX7_put_105 (x := 40) rfl ?_
            refine gg_iload_n (pc := 107) hC dX7_put_107 (i := 1) rfl 1 rfl ?_
            refine gg_imul (pc := 108) hC dX7_put_108 ?_
            refine gg_iload_n (pc := 109) hC dX7_put_109 (i := 3) rfl 3 rfl ?_
            refine gg_iadd (pc := 110) hC dX7_put_110 ?_
            refine gg_iload_n (pc := 111) hC dX7_put_111 (i := 2) rfl 2 rfl ?_
            refine gg_iconst (pc := 112) hC dX7_put_112 (x := 2) rfl ?_
            refine gg_join1 (E' := (fun q => zW C (wM A cA) 6 134 [] [.double q, .int ((40 * v1) + v3), .ref (A 0)] s6)) ?_ (fun x7 => ?_)
            · refine gg_icmp_ne (pc := 113) hC dX7_put_113 (tgt := 127) rfl (fun _ => ?_) (fun _ => ?_)
              · refine gg_iload (pc := 116) hC dX7_put_116 4 rfl ?_
                refine gg_i2f (pc := 118) hC dX7_put_118 ?_
                refine gg_ldcfw (pc := 119) hC dX7_put_119 qX7_292 ?_
                refine gg_fdiv (pc := 122) hC dX7_put_122 ?_
                refine gg_f2d (pc := 123) hC dX7_put_123 ?_
                refine gg_goto (pc := 124) hC dX7_put_124 (tgt := 134) rfl ?_
                exact gg_y (fun h => zW_lv [] rfl h)
              · refine gg_iload (pc := 127) hC dX7_put_127 4 rfl ?_
                refine gg_i2d (pc := 129) hC dX7_put_129 ?_
                refine gg_ldc2d (pc := 130) hC dX7_put_130 qX7_293 ?_
                refine gg_ddiv (pc := 133) hC dX7_put_133 ?_
                exact gg_y (fun h => zW_lv [] rfl h)
            · show zG C (wM A cA) 6 _ _ 134 [] [.double x7, .int ((40 * v1) + v3), .ref (A 0)] s6
              refine gg_callVV (pc := 134) hC dX7_put_134 vX7_295 (fun _ h => mX7_keeps h) (Nat.le_of_ble_eq_true rfl) (Nat.le_of_ble_eq_true rfl) (As := [.int ((40 * v1) + v3), .double x7]) (rest := []) rfl rfl (Nat.le_of_ble_eq_true rfl) 0 7 pM_0 rfl (fun s8 => ?_)
              refine gg_iconst (pc := 137) hC dX7_put_137 (x := 1) rfl ?_
              exact gg_iret (pc := 138) hR dX7_put_138
        · refine gg_aload_n (pc := 68) hC dX7_put_68 (i := 0) rfl 1 rfl ?_
          refine gg_iload (pc := 69) hC dX7_put_69 0 rfl ?_
          refine gg_callVI (pc := 71) hC dX7_put_71 vX7_284 (fun _ h => mX7_meets h) (Nat.le_of_ble_eq_true rfl) (Nat.le_of_ble_eq_true rfl) (As := [.int x4]) (rest := []) rfl rfl (Nat.le_of_ble_eq_true rfl) 0 7 pM_0 rfl (fun x9 s10 => ?_)
          exact gg_iret (pc := 74) hR dX7_put_74
def fX7_rank (v1 : Int32) (σ : zS) : Option (Int32 × zS) :=
    zy2 (fX7_rankOf v1 σ) (fun x1 s2 =>
    some (x1, s2))
set_option maxHeartbeats 4000000 in
set_option maxRecDepth 100000 in
theorem mX7_rank {l : Launch} {D : va_G} {A : Nat → Nat} {cA : Nat → ClassId} {v1 : Int32}  {σ : zS} {r : Int32 × zS} (h : fX7_rank v1 σ = some r) : zMI l D (wM A cA) yX7_rank (zws yX7_rank cX7_rank 2 (some .int)) 4 97 [.ref (A 0), .int v1] σ r := by
  refine zm_I (lv := [(0, .ref (A 0)), (1, .int v1)]) rfl sM_ok (Nat.le_of_ble_eq_true rfl) rfl (fun C _ _ hC hR => ?_) h
  unfold fX7_rank
  refine gg_aload_n (pc := 0) hC dX7_rank_0 (i := 0) rfl 0 rfl ?_
  refine gg_iload_n (pc := 1) hC dX7_rank_1 (i := 1) rfl 1 rfl ?_
  refine gg_callVI (pc := 2) hC dX7_rank_2 vX7_275 (fun _ h => mX7_rankOf h) (Nat.le_of_ble_eq_true rfl) (Nat.le_of_ble_eq_true rfl) (As := [.int v1]) (rest := []) rfl rfl (Nat.le_of_ble_eq_true rfl) 0 7 pM_0 rfl (fun x1 s2 => ?_)
  exact gg_iret (pc := 5) hR dX7_rank_5
def fX7_reference (v1 : Int32) (σ : zS) : Option (Int64 × zS) :=
    zy1 (fX7_in v1 0 1 σ) (fun x1 =>
    if x1 = 0 then (zy1 (fX7_no (-2 : Int32) σ) (fun x2 =>
    some (x2, σ))) else
    (zy2 (fX7_referenceOf v1 σ) (fun x3 s4 =>
    some (x3, s4))))
set_option maxHeartbeats 4000000 in
set_option maxRecDepth 100000 in
theorem mX7_reference {l : Launch} {D : va_G} {A : Nat → Nat} {cA : Nat → ClassId} {v1 : Int32}  {σ : zS} {r : Int64 × zS} (h : fX7_reference v1 σ = some r) : zML l D (wM A cA) yX7_reference (zws yX7_reference cX7_reference 2 (some .long)) 4 93 [.ref (A 0), .int v1] σ r := by
  refine zm_L (lv := [(0, .ref (A 0)), (1, .int v1)]) rfl sM_ok (Nat.le_of_ble_eq_true rfl) rfl (fun C _ _ hC hR => ?_) h
  unfold fX7_reference
  refine gg_iload_n (pc := 0) hC dX7_reference_0 (i := 1) rfl 1 rfl ?_
  refine gg_iconst (pc := 1) hC dX7_reference_1 (x := 0) rfl ?_
  refine gg_iconst (pc := 2) hC dX7_reference_2 (x := 1) rfl ?_
  refine gg_callSIr (pc := 3) hC dX7_reference_3 cX7_85 (fun _ h => mX7_in h) (Nat.le_of_ble_eq_true rfl) (Nat.le_of_ble_eq_true rfl) (As := [.int v1, .int 0, .int 1]) (rest := []) rfl rfl (Nat.le_of_ble_eq_true rfl) (fun x1 => ?_)
  refine gg_if_eq (pc := 6) hC dX7_reference_6 (tgt := 17) rfl (fun _ => ?_) (fun _ => ?_)
  · refine gg_bipush (pc := 17) hC dX7_reference_17 (x := -2) rfl ?_
    refine gg_callSLr (pc := 19) hC dX7_reference_19 cX7_126 (fun _ h => mX7_no h) (Nat.le_of_ble_eq_true rfl) (Nat.le_of_ble_eq_true rfl) (As := [.int (-2 : Int32)]) (rest := []) rfl rfl (Nat.le_of_ble_eq_true rfl) (fun x2 => ?_)
    exact gg_lret (pc := 22) hR dX7_reference_22
  · refine gg_aload_n (pc := 9) hC dX7_reference_9 (i := 0) rfl 0 rfl ?_
    refine gg_iload_n (pc := 10) hC dX7_reference_10 (i := 1) rfl 1 rfl ?_
    refine gg_callVL (pc := 11) hC dX7_reference_11 vX7_191 (fun _ h => mX7_referenceOf h) (Nat.le_of_ble_eq_true rfl) (Nat.le_of_ble_eq_true rfl) (As := [.int v1]) (rest := []) rfl rfl (Nat.le_of_ble_eq_true rfl) 0 7 pM_0 rfl (fun x3 s4 => ?_)
    refine gg_goto (pc := 14) hC dX7_reference_14 (tgt := 22) rfl ?_
    exact gg_lret (pc := 22) hR dX7_reference_22
def fX7_seen (v1 : Int32) (v2 : Int32) (σ : zS) : Option (Int32 × zS) :=
    zy1 (fX7_isEdge v1 σ) (fun x1 =>
    if x1 = 0 then (some ((-2 : Int32), σ)) else
    (zy1 (fX7_in v2 0 7 σ) (fun x2 =>
    if x2 = 0 then (some ((-2 : Int32), σ)) else
    (zy2 (fX7_seenOf v1 v2 σ) (fun x3 s4 =>
    some (x3, s4))))))
set_option maxHeartbeats 4000000 in
set_option maxRecDepth 100000 in
theorem mX7_seen {l : Launch} {D : va_G} {A : Nat → Nat} {cA : Nat → ClassId} {v1 : Int32} {v2 : Int32}  {σ : zS} {r : Int32 × zS} (h : fX7_seen v1 v2 σ = some r) : zMI l D (wM A cA) yX7_seen (zws yX7_seen cX7_seen 3 (some .int)) 4 94 [.ref (A 0), .int v1, .int v2] σ r := by
  refine zm_I (lv := [(0, .ref (A 0)), (1, .int v1), (2, .int v2)]) rfl sM_ok (Nat.le_of_ble_eq_true rfl) rfl (fun C _ _ hC hR => ?_) h
  unfold fX7_seen
  refine gg_aload_n (pc := 0) hC dX7_seen_0 (i := 0) rfl 0 rfl ?_
  refine gg_iload_n (pc := 1) hC dX7_seen_1 (i := 1) rfl 1 rfl ?_
  refine gg_callVIr (pc := 2) hC dX7_seen_2 vX7_96 (fun _ h => mX7_isEdge h) (Nat.le_of_ble_eq_true rfl) (Nat.le_of_ble_eq_true rfl) (As := [.int v1]) (rest := []) rfl rfl (Nat.le_of_ble_eq_true rfl) 0 7 pM_0 rfl (fun x1 => ?_)
  refine gg_if_eq (pc := 5) hC dX7_seen_5 (tgt := 27) rfl (fun _ => ?_) (fun _ => ?_)
  · refine gg_bipush (pc := 27) hC dX7_seen_27 (x := -2) rfl ?_
    exact gg_iret (pc := 29) hR dX7_seen_29
  · refine gg_iload_n (pc := 8) hC dX7_seen_8 (i := 2) rfl 2 rfl ?_
    refine gg_iconst (pc := 9) hC dX7_seen_9 (x := 0) rfl ?_
    refine gg_bipush (pc := 10) hC dX7_seen_10 (x := 7) rfl ?_
    refine gg_callSIr (pc := 12) hC dX7_seen_12 cX7_85 (fun _ h => mX7_in h) (Nat.le_of_ble_eq_true rfl) (Nat.le_of_ble_eq_true rfl) (As := [.int v2, .int 0, .int 7]) (rest := []) rfl rfl (Nat.le_of_ble_eq_true rfl) (fun x2 => ?_)
    refine gg_if_eq (pc := 15) hC dX7_seen_15 (tgt := 27) rfl (fun _ => ?_) (fun _ => ?_)
    · refine gg_bipush (pc := 27) hC dX7_seen_27 (x := -2) rfl ?_
      exact gg_iret (pc := 29) hR dX7_seen_29
    · refine gg_aload_n (pc := 18) hC dX7_seen_18 (i := 0) rfl 0 rfl ?_
      refine gg_iload_n (pc := 19) hC dX7_seen_19 (i := 1) rfl 1 rfl ?_
      refine gg_iload_n (pc := 20) hC dX7_seen_20 (i := 2) rfl 2 rfl ?_
      refine gg_callVI (pc := 21) hC dX7_seen_21 vX7_185 (fun _ h => mX7_seenOf h) (Nat.le_of_ble_eq_true rfl) (Nat.le_of_ble_eq_true rfl) (As := [.int v1, .int v2]) (rest := []) rfl rfl (Nat.le_of_ble_eq_true rfl) 0 7 pM_0 rfl (fun x3 s4 => ?_)
      refine gg_goto (pc := 24) hC dX7_seen_24 (tgt := 29) rfl ?_
      exact gg_iret (pc := 29) hR dX7_seen_29
def fX7_sheet_55 (v1 : Int32) (v3 : Int32) : Nat → Int32 → zS → Option (zS)
  | 0, _, _ => none
  | n + 1, v4, σ =>
    if ((40 * v1) + 40) ≤ v4 then (some σ) else
    (zg (zq v4 160) (zv (wj σ 2 v4.toNatClampNeg (0 : Int64)) (fun (s1 : zS) =>
    zg (zq v4 160) (zv (wd s1 0 v4.toNatClampNeg FP.dconst0) (fun (s2 : zS) =>
    zg (zq v4 160) (zv (wa s2 13 v4.toNatClampNeg (vp_nar .boolean 0)) (fun (s3 : zS) =>
    fX7_sheet_55 v1 v3 n (v4 + 1) s3)))))))
def fX7_sheet (v1 : Int32) (v2 : Int32) (v3 : Int32) (σ : zS) : Option (Int32 × zS) :=
    zy1 (fX7_isSheet v1 σ) (fun x1 =>
    if x1 = 0 then (some ((-2 : Int32), σ)) else
    (zy1 (fX7_in v2 0 3 σ) (fun x2 =>
    if x2 = 0 then (some ((-2 : Int32), σ)) else
    (if v3 ≤ 40 then (if 0 ≤ v3 then (zg (zq v1 4) (zv (wa σ 11 v1.toNatClampNeg v2) (fun (s3 : zS) =>
    zg (zq v1 4) (zv (wa s3 12 v1.toNatClampNeg v3) (fun (s4 : zS) =>
    zv (40 * v1) (fun (x5 : Int32) =>
    zy1 (fX7_sheet_55 v1 v3 500 x5 s4) (fun (s6 : zS) =>
    some (v3, s6)))))))) else
    (zy2 (fX7_meets 5 σ) (fun x7 s8 =>
    some (x7, s8)))) else
    (some ((-2 : Int32), σ))))))
set_option maxHeartbeats 4000000 in
set_option maxRecDepth 100000 in
theorem lX7_sheet_55 {C : zK} {A : Nat → Nat} {cA : Nat → ClassId} (hC : zOK C (wM A cA) cX7_sheet RX7 5 2 42) {v1 : Int32} {v3 : Int32} : ∀ (n : Nat) (v4 : Int32) (σ : zS), zG C (wM A cA) 5 (fun q => zW C (wM A cA) 5 97 [(3, .int v3)] [] q) (fX7_sheet_55 v1 v3 n v4 σ) 55 [(0, .ref (A 0)), (1, .int v1), (3, .int v3), (4, .int v4)] [] σ := by
  intro n
  induction n with
  | zero => intro v4 σ; exact gg_none (o := none)
  | succ n ih =>
    intro v4 σ
    rw [fX7_sheet_55]
    refine gg_iload (pc := 55) hC dX7_sheet_55 3 rfl ?_
    refine gg_bipush (pc := 57) hC dX7_sheet_57 (x := 40) rfl ?_
    refine gg_iload_n (pc := 59) hC dX7_sheet_59 (i := 1) rfl 1 rfl ?_
    refine gg_imul (pc := 60) hC dX7_sheet_60 ?_
    refine gg_bipush (pc := 61) hC dX7_sheet_61 (x := 40) rfl ?_
    refine gg_iadd (pc := 63) hC dX7_sheet_63 ?_
    refine gg_icmp_ge (pc := 64) hC dX7_sheet_64 (tgt := 97) rfl (fun _ => ?_) (fun _ => ?_)
    · exact gg_y (fun h => zW_lv [2] rfl h)
    · refine gg_aload_n (pc := 67) hC dX7_sheet_67 (i := 0) rfl 0 rfl ?_
      refine gg_get (pc := 68) hC dX7_sheet_68 fX7_57 0 pM_0 (v := .ref (A 16)) rfl ?_
      refine gg_iload (pc := 71) hC dX7_sheet_71 3 rfl ?_
      refine gg_lconst (pc := 73) hC dX7_sheet_73 (x := 0) rfl ?_
      refine gg_last (pc := 74) hC dX7_sheet_74 16 1 pM_16 rfl sM_16 ?_
      refine gg_zvs (fun s1 => ?_)
      refine gg_aload_n (pc := 75) hC dX7_sheet_75 (i := 0) rfl 0 rfl ?_
      refine gg_get (pc := 76) hC dX7_sheet_76 fX7_60 0 pM_0 (v := .ref (A 17)) rfl ?_
      refine gg_iload (pc := 79) hC dX7_sheet_79 3 rfl ?_
      refine gg_dconst0 (pc := 81) hC dX7_sheet_81 ?_
      refine gg_dast (pc := 82) hC dX7_sheet_82 17 3 pM_17 rfl sM_17 ?_
      refine gg_zvs (fun s2 => ?_)
      refine gg_aload_n (pc := 83) hC dX7_sheet_83 (i := 0) rfl 0 rfl ?_
      refine gg_get (pc := 84) hC dX7_sheet_84 fX7_64 0 pM_0 (v := .ref (A 18)) rfl ?_
      refine gg_iload (pc := 87) hC dX7_sheet_87 3 rfl ?_
      refine gg_iconst (pc := 89) hC dX7_sheet_89 (x := 0) rfl ?_
      refine gg_zast (pc := 90) hC dX7_sheet_90 18 2 pM_18 rfl sM_18 ?_
      refine gg_zvs (fun s3 => ?_)
      refine gg_iinc (pc := 91) hC dX7_sheet_91 (y := 0) (j := 3) rfl (z := 1) rfl (Nat.le_of_ble_eq_true rfl) (lv' := [(4, .int (v4 + 1)), (0, .ref (A 0)), (1, .int v1), (3, .int v3)]) rfl ?_
      refine gg_goto (pc := 94) hC dX7_sheet_94 (tgt := 55) rfl ?_
      exact gg_lv [1, 2, 3, 0] rfl (ih _ _)
set_option maxHeartbeats 4000000 in
set_option maxRecDepth 100000 in
theorem mX7_sheet {l : Launch} {D : va_G} {A : Nat → Nat} {cA : Nat → ClassId} {v1 : Int32} {v2 : Int32} {v3 : Int32}  {σ : zS} {r : Int32 × zS} (h : fX7_sheet v1 v2 v3 σ = some r) : zMI l D (wM A cA) yX7_sheet (zws yX7_sheet cX7_sheet 5 (some .int)) 2 42 [.ref (A 0), .int v1, .int v2, .int v3] σ r := by
  refine zm_I (lv := [(0, .ref (A 0)), (1, .int v1), (2, .int v2), (3, .int v3)]) rfl sM_ok (Nat.le_of_ble_eq_true rfl) rfl (fun C _ _ hC hR => ?_) h
  unfold fX7_sheet
  refine gg_iload_n (pc := 0) hC dX7_sheet_0 (i := 1) rfl 1 rfl ?_
  refine gg_callSIr (pc := 1) hC dX7_sheet_1 cX7_281 (fun _ h => mX7_isSheet h) (Nat.le_of_ble_eq_true rfl) (Nat.le_of_ble_eq_true rfl) (As := [.int v1]) (rest := []) rfl rfl (Nat.le_of_ble_eq_true rfl) (fun x1 => ?_)
  refine gg_if_eq (pc := 4) hC dX7_sheet_4 (tgt := 22) rfl (fun _ => ?_) (fun _ => ?_)
  · refine gg_bipush (pc := 22) hC dX7_sheet_22 (x := -2) rfl ?_
    exact gg_iret (pc := 24) hR dX7_sheet_24
  · refine gg_iload_n (pc := 7) hC dX7_sheet_7 (i := 2) rfl 2 rfl ?_
    refine gg_iconst (pc := 8) hC dX7_sheet_8 (x := 0) rfl ?_
    refine gg_iconst (pc := 9) hC dX7_sheet_9 (x := 3) rfl ?_
    refine gg_callSIr (pc := 10) hC dX7_sheet_10 cX7_85 (fun _ h => mX7_in h) (Nat.le_of_ble_eq_true rfl) (Nat.le_of_ble_eq_true rfl) (As := [.int v2, .int 0, .int 3]) (rest := []) rfl rfl (Nat.le_of_ble_eq_true rfl) (fun x2 => ?_)
    refine gg_if_eq (pc := 13) hC dX7_sheet_13 (tgt := 22) rfl (fun _ => ?_) (fun _ => ?_)
    · refine gg_bipush (pc := 22) hC dX7_sheet_22 (x := -2) rfl ?_
      exact gg_iret (pc := 24) hR dX7_sheet_24
    · refine gg_iload_n (pc := 16) hC dX7_sheet_16 (i := 3) rfl 3 rfl ?_
      refine gg_bipush (pc := 17) hC dX7_sheet_17 (x := 40) rfl ?_
      refine gg_icmp_le (pc := 19) hC dX7_sheet_19 (tgt := 25) rfl (fun _ => ?_) (fun _ => ?_)
      · refine gg_iload_n (pc := 25) hC dX7_sheet_25 (i := 3) rfl 3 rfl ?_
        refine gg_if_ge (pc := 26) hC dX7_sheet_26 (tgt := 35) rfl (fun _ => ?_) (fun _ => ?_)
        · refine gg_aload_n (pc := 35) hC dX7_sheet_35 (i := 0) rfl 0 rfl ?_
          refine gg_get (pc := 36) hC dX7_sheet_36 fX7_51 0 pM_0 (v := .ref (A 14)) rfl ?_
          refine gg_iload_n (pc := 39) hC dX7_sheet_39 (i := 1) rfl 1 rfl ?_
          refine gg_iload_n (pc := 40) hC dX7_sheet_40 (i := 2) rfl 2 rfl ?_
          refine gg_iast (pc := 41) hC dX7_sheet_41 14 0 pM_14 rfl sM_14 ?_
          refine gg_zvs (fun s3 => ?_)
          refine gg_aload_n (pc := 42) hC dX7_sheet_42 (i := 0) rfl 0 rfl ?_
          refine gg_get (pc := 43) hC dX7_sheet_43 fX7_54 0 pM_0 (v := .ref (A 15)) rfl ?_
          refine gg_iload_n (pc := 46) hC dX7_sheet_46 (i := 1) rfl 1 rfl ?_
          refine gg_iload_n (pc := 47) hC dX7_sheet_47 (i := 3) rfl 3 rfl ?_
          refine gg_iast (pc := 48) hC dX7_sheet_48 15 0 pM_15 rfl sM_15 ?_
          refine gg_zvs (fun s4 => ?_)
          refine gg_bipush (pc := 49) hC dX7_sheet_49 (x := 40) rfl ?_
          refine gg_iload_n (pc := 51) hC dX7_sheet_51 (i := 1) rfl 1 rfl ?_
          refine gg_imul (pc := 52) hC dX7_sheet_52 ?_
          refine gg_zvi (fun x5 => ?_)
          refine gg_istore (pc := 53) hC dX7_sheet_53 (Nat.le_of_ble_eq_true rfl) (lv' := [(4, .int x5), (0, .ref (A 0)), (1, .int v1), (2, .int v2), (3, .int v3)]) rfl ?_
          refine gg_join1 (E' := (fun q => zW C (wM A cA) 5 97 [(3, .int v3)] [] q)) (gg_lv [1, 2, 4, 0] rfl (lX7_sheet_55 hC  500 _ _)) (fun s6 => ?_)
          show zG C (wM A cA) 5 _ _ 97 [(3, .int v3)] [] s6
          refine gg_iload_n (pc := 97) hC dX7_sheet_97 (i := 3) rfl 0 rfl ?_
          exact gg_iret (pc := 98) hR dX7_sheet_98
        · refine gg_aload_n (pc := 29) hC dX7_sheet_29 (i := 0) rfl 0 rfl ?_
          refine gg_iconst (pc := 30) hC dX7_sheet_30 (x := 5) rfl ?_
          refine gg_callVI (pc := 31) hC dX7_sheet_31 vX7_284 (fun _ h => mX7_meets h) (Nat.le_of_ble_eq_true rfl) (Nat.le_of_ble_eq_true rfl) (As := [.int 5]) (rest := []) rfl rfl (Nat.le_of_ble_eq_true rfl) 0 7 pM_0 rfl (fun x7 s8 => ?_)
          exact gg_iret (pc := 34) hR dX7_sheet_34
      · refine gg_bipush (pc := 22) hC dX7_sheet_22 (x := -2) rfl ?_
        exact gg_iret (pc := 24) hR dX7_sheet_24
def fX7_stamp (v1 : Int32) (v2 : Int32) (σ : zS) : Option (Int64 × zS) :=
    zy1 (fX7_isEdge v1 σ) (fun x1 =>
    if x1 = 0 then (zy1 (fX7_no (-2 : Int32) σ) (fun x2 =>
    some (x2, σ))) else
    (zy1 (fX7_in v2 0 1 σ) (fun x3 =>
    if x3 = 0 then (zy1 (fX7_no (-2 : Int32) σ) (fun x4 =>
    some (x4, σ))) else
    (zy2 (fX7_stampOf v1 v2 σ) (fun x5 s6 =>
    some (x5, s6))))))
set_option maxHeartbeats 4000000 in
set_option maxRecDepth 100000 in
theorem mX7_stamp {l : Launch} {D : va_G} {A : Nat → Nat} {cA : Nat → ClassId} {v1 : Int32} {v2 : Int32}  {σ : zS} {r : Int64 × zS} (h : fX7_stamp v1 v2 σ = some r) : zML l D (wM A cA) yX7_stamp (zws yX7_stamp cX7_stamp 3 (some .long)) 4 94 [.ref (A 0), .int v1, .int v2] σ r := by
  refine zm_L (lv := [(0, .ref (A 0)), (1, .int v1), (2, .int v2)]) rfl sM_ok (Nat.le_of_ble_eq_true rfl) rfl (fun C _ _ hC hR => ?_) h
  unfold fX7_stamp
  refine gg_aload_n (pc := 0) hC dX7_stamp_0 (i := 0) rfl 0 rfl ?_
  refine gg_iload_n (pc := 1) hC dX7_stamp_1 (i := 1) rfl 1 rfl ?_
  refine gg_callVIr (pc := 2) hC dX7_stamp_2 vX7_96 (fun _ h => mX7_isEdge h) (Nat.le_of_ble_eq_true rfl) (Nat.le_of_ble_eq_true rfl) (As := [.int v1]) (rest := []) rfl rfl (Nat.le_of_ble_eq_true rfl) 0 7 pM_0 rfl (fun x1 => ?_)
  refine gg_if_eq (pc := 5) hC dX7_stamp_5 (tgt := 26) rfl (fun _ => ?_) (fun _ => ?_)
  · refine gg_bipush (pc := 26) hC dX7_stamp_26 (x := -2) rfl ?_
    refine gg_callSLr (pc := 28) hC dX7_stamp_28 cX7_126 (fun _ h => mX7_no h) (Nat.le_of_ble_eq_true rfl) (Nat.le_of_ble_eq_true rfl) (As := [.int (-2 : Int32)]) (rest := []) rfl rfl (Nat.le_of_ble_eq_true rfl) (fun x2 => ?_)
    exact gg_lret (pc := 31) hR dX7_stamp_31
  · refine gg_iload_n (pc := 8) hC dX7_stamp_8 (i := 2) rfl 2 rfl ?_
    refine gg_iconst (pc := 9) hC dX7_stamp_9 (x := 0) rfl ?_
    refine gg_iconst (pc := 10) hC dX7_stamp_10 (x := 1) rfl ?_
    refine gg_callSIr (pc := 11) hC dX7_stamp_11 cX7_85 (fun _ h => mX7_in h) (Nat.le_of_ble_eq_true rfl) (Nat.le_of_ble_eq_true rfl) (As := [.int v2, .int 0, .int 1]) (rest := []) rfl rfl (Nat.le_of_ble_eq_true rfl) (fun x3 => ?_)
    refine gg_if_eq (pc := 14) hC dX7_stamp_14 (tgt := 26) rfl (fun _ => ?_) (fun _ => ?_)
    · refine gg_bipush (pc := 26) hC dX7_stamp_26 (x := -2) rfl ?_
      refine gg_callSLr (pc := 28) hC dX7_stamp_28 cX7_126 (fun _ h => mX7_no h) (Nat.le_of_ble_eq_true rfl) (Nat.le_of_ble_eq_true rfl) (As := [.int (-2 : Int32)]) (rest := []) rfl rfl (Nat.le_of_ble_eq_true rfl) (fun x4 => ?_)
      exact gg_lret (pc := 31) hR dX7_stamp_31
    · refine gg_aload_n (pc := 17) hC dX7_stamp_17 (i := 0) rfl 0 rfl ?_
      refine gg_iload_n (pc := 18) hC dX7_stamp_18 (i := 1) rfl 1 rfl ?_
      refine gg_iload_n (pc := 19) hC dX7_stamp_19 (i := 2) rfl 2 rfl ?_
      refine gg_callVL (pc := 20) hC dX7_stamp_20 vX7_188 (fun _ h => mX7_stampOf h) (Nat.le_of_ble_eq_true rfl) (Nat.le_of_ble_eq_true rfl) (As := [.int v1, .int v2]) (rest := []) rfl rfl (Nat.le_of_ble_eq_true rfl) 0 7 pM_0 rfl (fun x5 s6 => ?_)
      refine gg_goto (pc := 23) hC dX7_stamp_23 (tgt := 31) rfl ?_
      exact gg_lret (pc := 31) hR dX7_stamp_31
def fX7_sweep_41 (v1 : Int32) (v2 : Int32) : Nat → Int32 → zS → Option (zS)
  | 0, _, _ => none
  | n + 1, v3, σ =>
    if v2 ≤ v3 then (some σ) else
    (zy1 (fX7_codeOf ((v3 * v1) - (v3 * v1) / 60 * 60) σ) (fun x1 =>
    zg (zq x1 12) (zg (zq x1 12) (zv (wa σ 2 x1.toNatClampNeg ((za σ 2 x1.toNatClampNeg) + 1)) (fun (s2 : zS) =>
    fX7_sweep_41 v1 v2 n (v3 + 1) s2)))))
def fX7_sweep (v1 : Int32) (v2 : Int32) (σ : zS) : Option (Int32 × zS) :=
    zy1 (fX7_in v1 1 59 σ) (fun x1 =>
    if x1 = 0 then (some ((-2 : Int32), σ)) else
    (zy1 (fX7_in v2 1 400 σ) (fun x2 =>
    if x2 = 0 then (some ((-2 : Int32), σ)) else
    (zy1 (fX7_allHits σ) (fun x3 =>
    if (x3 + v2) ≤ 400 then (zy1 (fX7_sweep_41 v1 v2 500 0 σ) (fun (s4 : zS) =>
    zy1 (fX7_allHits s4) (fun x5 =>
    some (x5, s4)))) else
    (some ((-4 : Int32), σ)))))))
set_option maxHeartbeats 4000000 in
set_option maxRecDepth 100000 in
theorem lX7_sweep_41 {C : zK} {A : Nat → Nat} {cA : Nat → ClassId} (hC : zOK C (wM A cA) cX7_sweep RX7 4 1 22) {v1 : Int32} {v2 : Int32} : ∀ (n : Nat) (v3 : Int32) (σ : zS), zG C (wM A cA) 4 (fun q => zW C (wM A cA) 4 71 [(0, .ref (A 0))] [] q) (fX7_sweep_41 v1 v2 n v3 σ) 41 [(0, .ref (A 0)), (1, .int v1), (2, .int v2), (3, .int v3)] [] σ := by
  intro n
  induction n with
  | zero => intro v3 σ; exact gg_none (o := none)
  | succ n ih =>
    intro v3 σ
    rw [fX7_sweep_41]
    refine gg_iload_n (pc := 41) hC dX7_sweep_41 (i := 3) rfl 3 rfl ?_
    refine gg_iload_n (pc := 42) hC dX7_sweep_42 (i := 2) rfl 2 rfl ?_
    refine gg_icmp_ge (pc := 43) hC dX7_sweep_43 (tgt := 71) rfl (fun _ => ?_) (fun _ => ?_)
    · exact gg_y (fun h => zW_lv [0] rfl h)
    · refine gg_aload_n (pc := 46) hC dX7_sweep_46 (i := 0) rfl 0 rfl ?_
      refine gg_get (pc := 47) hC dX7_sweep_47 fX7_17 0 pM_0 (v := .ref (A 3)) rfl ?_
      refine gg_aload_n (pc := 50) hC dX7_sweep_50 (i := 0) rfl 0 rfl ?_
      refine gg_iload_n (pc := 51) hC dX7_sweep_51 (i := 3) rfl 3 rfl ?_
      refine gg_iload_n (pc := 52) hC dX7_sweep_52 (i := 1) rfl 1 rfl ?_
      refine gg_imul (pc := 53) hC dX7_sweep_53 ?_
      refine gg_bipush (pc := 54) hC dX7_sweep_54 (x := 60) rfl ?_
      refine gg_irem (pc := 56) hC dX7_sweep_56 (by decide) ?_
      refine gg_callVIr (pc := 57) hC dX7_sweep_57 vX7_113 (fun _ h => mX7_codeOf h) (Nat.le_of_ble_eq_true rfl) (Nat.le_of_ble_eq_true rfl) (As := [.int ((v3 * v1) - (v3 * v1) / 60 * 60)]) (rest := [.ref (A 3)]) rfl rfl (Nat.le_of_ble_eq_true rfl) 0 7 pM_0 rfl (fun x1 => ?_)
      refine gg_dup2 (pc := 60) hC dX7_sweep_60 rfl rfl ?_
      refine gg_iald (pc := 61) hC dX7_sweep_61 3 0 pM_3 rfl ?_
      refine gg_iconst (pc := 62) hC dX7_sweep_62 (x := 1) rfl ?_
      refine gg_iadd (pc := 63) hC dX7_sweep_63 ?_
      refine gg_iast (pc := 64) hC dX7_sweep_64 3 0 pM_3 rfl sM_3 ?_
      refine gg_zvs (fun s2 => ?_)
      refine gg_iinc (pc := 65) hC dX7_sweep_65 (y := 0) (j := 3) rfl (z := 1) rfl (Nat.le_of_ble_eq_true rfl) (lv' := [(3, .int (v3 + 1)), (0, .ref (A 0)), (1, .int v1), (2, .int v2)]) rfl ?_
      refine gg_goto (pc := 68) hC dX7_sweep_68 (tgt := 41) rfl ?_
      exact gg_lv [1, 2, 3, 0] rfl (ih _ _)
set_option maxHeartbeats 4000000 in
set_option maxRecDepth 100000 in
theorem mX7_sweep {l : Launch} {D : va_G} {A : Nat → Nat} {cA : Nat → ClassId} {v1 : Int32} {v2 : Int32}  {σ : zS} {r : Int32 × zS} (h : fX7_sweep v1 v2 σ = some r) : zMI l D (wM A cA) yX7_sweep (zws yX7_sweep cX7_sweep 4 (some .int)) 1 22 [.ref (A 0), .int v1, .int v2] σ r := by
  refine zm_I (lv := [(0, .ref (A 0)), (1, .int v1), (2, .int v2)]) rfl sM_ok (Nat.le_of_ble_eq_true rfl) rfl (fun C _ _ hC hR => ?_) h
  unfold fX7_sweep
  refine gg_iload_n (pc := 0) hC dX7_sweep_0 (i := 1) rfl 1 rfl ?_
  refine gg_iconst (pc := 1) hC dX7_sweep_1 (x := 1) rfl ?_
  refine gg_bipush (pc := 2) hC dX7_sweep_2 (x := 59) rfl ?_
  refine gg_callSIr (pc := 4) hC dX7_sweep_4 cX7_85 (fun _ h => mX7_in h) (Nat.le_of_ble_eq_true rfl) (Nat.le_of_ble_eq_true rfl) (As := [.int v1, .int 1, .int 59]) (rest := []) rfl rfl (Nat.le_of_ble_eq_true rfl) (fun x1 => ?_)
  refine gg_if_eq (pc := 7) hC dX7_sweep_7 (tgt := 21) rfl (fun _ => ?_) (fun _ => ?_)
  · refine gg_bipush (pc := 21) hC dX7_sweep_21 (x := -2) rfl ?_
    exact gg_iret (pc := 23) hR dX7_sweep_23
  · refine gg_iload_n (pc := 10) hC dX7_sweep_10 (i := 2) rfl 2 rfl ?_
    refine gg_iconst (pc := 11) hC dX7_sweep_11 (x := 1) rfl ?_
    refine gg_sipush (pc := 12) hC dX7_sweep_12 (x := 400) rfl ?_
    refine gg_callSIr (pc := 15) hC dX7_sweep_15 cX7_85 (fun _ h => mX7_in h) (Nat.le_of_ble_eq_true rfl) (Nat.le_of_ble_eq_true rfl) (As := [.int v2, .int 1, .int 400]) (rest := []) rfl rfl (Nat.le_of_ble_eq_true rfl) (fun x2 => ?_)
    refine gg_if_ne (pc := 18) hC dX7_sweep_18 (tgt := 24) rfl (fun _ => ?_) (fun _ => ?_)
    · refine gg_bipush (pc := 21) hC dX7_sweep_21 (x := -2) rfl ?_
      exact gg_iret (pc := 23) hR dX7_sweep_23
    · refine gg_aload_n (pc := 24) hC dX7_sweep_24 (i := 0) rfl 0 rfl ?_
      refine gg_callVIr (pc := 25) hC dX7_sweep_25 vX7_103 (fun _ h => mX7_allHits h) (Nat.le_of_ble_eq_true rfl) (Nat.le_of_ble_eq_true rfl) (As := []) (rest := []) rfl rfl (Nat.le_of_ble_eq_true rfl) 0 7 pM_0 rfl (fun x3 => ?_)
      refine gg_iload_n (pc := 28) hC dX7_sweep_28 (i := 2) rfl 2 rfl ?_
      refine gg_iadd (pc := 29) hC dX7_sweep_29 ?_
      refine gg_sipush (pc := 30) hC dX7_sweep_30 (x := 400) rfl ?_
      refine gg_icmp_le (pc := 33) hC dX7_sweep_33 (tgt := 39) rfl (fun _ => ?_) (fun _ => ?_)
      · refine gg_iconst (pc := 39) hC dX7_sweep_39 (x := 0) rfl ?_
        refine gg_istore_n (pc := 40) hC dX7_sweep_40 (i := 3) rfl (Nat.le_of_ble_eq_true rfl) (lv' := [(3, .int 0), (0, .ref (A 0)), (1, .int v1), (2, .int v2)]) rfl ?_
        refine gg_join1 (E' := (fun q => zW C (wM A cA) 4 71 [(0, .ref (A 0))] [] q)) (gg_lv [1, 2, 3, 0] rfl (lX7_sweep_41 hC  500 _ _)) (fun s4 => ?_)
        show zG C (wM A cA) 4 _ _ 71 [(0, .ref (A 0))] [] s4
        refine gg_aload_n (pc := 71) hC dX7_sweep_71 (i := 0) rfl 0 rfl ?_
        refine gg_callVIr (pc := 72) hC dX7_sweep_72 vX7_103 (fun _ h => mX7_allHits h) (Nat.le_of_ble_eq_true rfl) (Nat.le_of_ble_eq_true rfl) (As := []) (rest := []) rfl rfl (Nat.le_of_ble_eq_true rfl) 0 7 pM_0 rfl (fun x5 => ?_)
        exact gg_iret (pc := 75) hR dX7_sweep_75
      · refine gg_bipush (pc := 36) hC dX7_sweep_36 (x := -4) rfl ?_
        exact gg_iret (pc := 38) hR dX7_sweep_38
def fX7_type (v1 : Int32) (σ : zS) : Option (Int32 × zS) :=
    zy1 (fX7_in v1 0 255 σ) (fun x1 =>
    if x1 = 0 then (some ((-2 : Int32), σ)) else
    (if (zi σ 1) = 5 then (some ((-4 : Int32), σ)) else
    (zg (zq (zi σ 1) 5) (zv (wa σ 5 (zi σ 1).toNatClampNeg v1) (fun (s2 : zS) =>
    zv (wi s2 1 ((zi s2 1) + 1)) (fun (s3 : zS) =>
    some ((zi s3 1), s3)))))))
set_option maxHeartbeats 4000000 in
set_option maxRecDepth 100000 in
theorem mX7_type {l : Launch} {D : va_G} {A : Nat → Nat} {cA : Nat → ClassId} {v1 : Int32}  {σ : zS} {r : Int32 × zS} (h : fX7_type v1 σ = some r) : zMI l D (wM A cA) yX7_type (zws yX7_type cX7_type 2 (some .int)) 1 22 [.ref (A 0), .int v1] σ r := by
  refine zm_I (lv := [(0, .ref (A 0)), (1, .int v1)]) rfl sM_ok (Nat.le_of_ble_eq_true rfl) rfl (fun C _ _ hC hR => ?_) h
  unfold fX7_type
  refine gg_iload_n (pc := 0) hC dX7_type_0 (i := 1) rfl 1 rfl ?_
  refine gg_iconst (pc := 1) hC dX7_type_1 (x := 0) rfl ?_
  refine gg_sipush (pc := 2) hC dX7_type_2 (x := 255) rfl ?_
  refine gg_callSIr (pc := 5) hC dX7_type_5 cX7_85 (fun _ h => mX7_in h) (Nat.le_of_ble_eq_true rfl) (Nat.le_of_ble_eq_true rfl) (As := [.int v1, .int 0, .int 255]) (rest := []) rfl rfl (Nat.le_of_ble_eq_true rfl) (fun x1 => ?_)
  refine gg_if_ne (pc := 8) hC dX7_type_8 (tgt := 14) rfl (fun _ => ?_) (fun _ => ?_)
  · refine gg_bipush (pc := 11) hC dX7_type_11 (x := -2) rfl ?_
    exact gg_iret (pc := 13) hR dX7_type_13
  · refine gg_aload_n (pc := 14) hC dX7_type_14 (i := 0) rfl 0 rfl ?_
    refine gg_get (pc := 15) hC dX7_type_15 fX7_143 0 pM_0 (v := .int (zi σ 1)) rfl ?_
    refine gg_iconst (pc := 18) hC dX7_type_18 (x := 5) rfl ?_
    refine gg_icmp_ne (pc := 19) hC dX7_type_19 (tgt := 25) rfl (fun _ => ?_) (fun _ => ?_)
    · refine gg_bipush (pc := 22) hC dX7_type_22 (x := -4) rfl ?_
      exact gg_iret (pc := 24) hR dX7_type_24
    · refine gg_aload_n (pc := 25) hC dX7_type_25 (i := 0) rfl 0 rfl ?_
      refine gg_get (pc := 26) hC dX7_type_26 fX7_26 0 pM_0 (v := .ref (A 6)) rfl ?_
      refine gg_aload_n (pc := 29) hC dX7_type_29 (i := 0) rfl 0 rfl ?_
      refine gg_get (pc := 30) hC dX7_type_30 fX7_143 0 pM_0 (v := .int (zi σ 1)) rfl ?_
      refine gg_iload_n (pc := 33) hC dX7_type_33 (i := 1) rfl 1 rfl ?_
      refine gg_iast (pc := 34) hC dX7_type_34 6 0 pM_6 rfl sM_6 ?_
      refine gg_zvs (fun s2 => ?_)
      refine gg_aload_n (pc := 35) hC dX7_type_35 (i := 0) rfl 0 rfl ?_
      refine gg_dup (pc := 36) hC dX7_type_36 rfl ?_
      refine gg_get (pc := 37) hC dX7_type_37 fX7_143 0 pM_0 (v := .int (zi s2 1)) rfl ?_
      refine gg_iconst (pc := 40) hC dX7_type_40 (x := 1) rfl ?_
      refine gg_iadd (pc := 41) hC dX7_type_41 ?_
      refine gg_put (pc := 42) hC dX7_type_42 fX7_143 tX7_2 0 pM_0 rfl rfl rfl (Nat.le_of_ble_eq_true rfl) sM_0_7 ?_
      refine gg_zvs (fun s3 => ?_)
      refine gg_aload_n (pc := 45) hC dX7_type_45 (i := 0) rfl 0 rfl ?_
      refine gg_get (pc := 46) hC dX7_type_46 fX7_143 0 pM_0 (v := .int (zi s3 1)) rfl ?_
      exact gg_iret (pc := 49) hR dX7_type_49
def fX7_variance (v1 : Int32) (v2 : Int32) (σ : zS) : Option (Int64 × zS) :=
    zy1 (fX7_in v1 1 15 σ) (fun x1 =>
    if x1 = 0 then (zy1 (fX7_no (-2 : Int32) σ) (fun x2 =>
    some (x2, σ))) else
    (zy1 (fX7_in v2 0 1 σ) (fun x3 =>
    if x3 = 0 then (zy1 (fX7_no (-2 : Int32) σ) (fun x4 =>
    some (x4, σ))) else
    (zy2 (fX7_varianceOf v1 v2 σ) (fun x5 s6 =>
    some (x5, s6))))))
set_option maxHeartbeats 4000000 in
set_option maxRecDepth 100000 in
theorem mX7_variance {l : Launch} {D : va_G} {A : Nat → Nat} {cA : Nat → ClassId} {v1 : Int32} {v2 : Int32}  {σ : zS} {r : Int64 × zS} (h : fX7_variance v1 v2 σ = some r) : zML l D (wM A cA) yX7_variance (zws yX7_variance cX7_variance 3 (some .long)) 4 94 [.ref (A 0), .int v1, .int v2] σ r := by
  refine zm_L (lv := [(0, .ref (A 0)), (1, .int v1), (2, .int v2)]) rfl sM_ok (Nat.le_of_ble_eq_true rfl) rfl (fun C _ _ hC hR => ?_) h
  unfold fX7_variance
  refine gg_iload_n (pc := 0) hC dX7_variance_0 (i := 1) rfl 1 rfl ?_
  refine gg_iconst (pc := 1) hC dX7_variance_1 (x := 1) rfl ?_
  refine gg_bipush (pc := 2) hC dX7_variance_2 (x := 15) rfl ?_
  refine gg_callSIr (pc := 4) hC dX7_variance_4 cX7_85 (fun _ h => mX7_in h) (Nat.le_of_ble_eq_true rfl) (Nat.le_of_ble_eq_true rfl) (As := [.int v1, .int 1, .int 15]) (rest := []) rfl rfl (Nat.le_of_ble_eq_true rfl) (fun x1 => ?_)
  refine gg_if_eq (pc := 7) hC dX7_variance_7 (tgt := 28) rfl (fun _ => ?_) (fun _ => ?_)
  · refine gg_bipush (pc := 28) hC dX7_variance_28 (x := -2) rfl ?_
    refine gg_callSLr (pc := 30) hC dX7_variance_30 cX7_126 (fun _ h => mX7_no h) (Nat.le_of_ble_eq_true rfl) (Nat.le_of_ble_eq_true rfl) (As := [.int (-2 : Int32)]) (rest := []) rfl rfl (Nat.le_of_ble_eq_true rfl) (fun x2 => ?_)
    exact gg_lret (pc := 33) hR dX7_variance_33
  · refine gg_iload_n (pc := 10) hC dX7_variance_10 (i := 2) rfl 2 rfl ?_
    refine gg_iconst (pc := 11) hC dX7_variance_11 (x := 0) rfl ?_
    refine gg_iconst (pc := 12) hC dX7_variance_12 (x := 1) rfl ?_
    refine gg_callSIr (pc := 13) hC dX7_variance_13 cX7_85 (fun _ h => mX7_in h) (Nat.le_of_ble_eq_true rfl) (Nat.le_of_ble_eq_true rfl) (As := [.int v2, .int 0, .int 1]) (rest := []) rfl rfl (Nat.le_of_ble_eq_true rfl) (fun x3 => ?_)
    refine gg_if_eq (pc := 16) hC dX7_variance_16 (tgt := 28) rfl (fun _ => ?_) (fun _ => ?_)
    · refine gg_bipush (pc := 28) hC dX7_variance_28 (x := -2) rfl ?_
      refine gg_callSLr (pc := 30) hC dX7_variance_30 cX7_126 (fun _ h => mX7_no h) (Nat.le_of_ble_eq_true rfl) (Nat.le_of_ble_eq_true rfl) (As := [.int (-2 : Int32)]) (rest := []) rfl rfl (Nat.le_of_ble_eq_true rfl) (fun x4 => ?_)
      exact gg_lret (pc := 33) hR dX7_variance_33
    · refine gg_aload_n (pc := 19) hC dX7_variance_19 (i := 0) rfl 0 rfl ?_
      refine gg_iload_n (pc := 20) hC dX7_variance_20 (i := 1) rfl 1 rfl ?_
      refine gg_iload_n (pc := 21) hC dX7_variance_21 (i := 2) rfl 2 rfl ?_
      refine gg_callVL (pc := 22) hC dX7_variance_22 vX7_266 (fun _ h => mX7_varianceOf h) (Nat.le_of_ble_eq_true rfl) (Nat.le_of_ble_eq_true rfl) (As := [.int v1, .int v2]) (rest := []) rfl rfl (Nat.le_of_ble_eq_true rfl) 0 7 pM_0 rfl (fun x5 s6 => ?_)
      refine gg_goto (pc := 25) hC dX7_variance_25 (tgt := 33) rfl ?_
      exact gg_lret (pc := 33) hR dX7_variance_33
def fX7_where (v1 : Int32) (v2 : Int32) (σ : zS) : Option (Int32 × zS) :=
    zy1 (fX7_isGate v1 σ) (fun x1 =>
    if x1 = 0 then (some ((-2 : Int32), σ)) else
    (zy1 (fX7_in v2 0 2 σ) (fun x2 =>
    if x2 = 0 then (some ((-2 : Int32), σ)) else
    (zy2 (fX7_whereOf v1 v2 σ) (fun x3 s4 =>
    some (x3, s4))))))
set_option maxHeartbeats 4000000 in
set_option maxRecDepth 100000 in
theorem mX7_where {l : Launch} {D : va_G} {A : Nat → Nat} {cA : Nat → ClassId} {v1 : Int32} {v2 : Int32}  {σ : zS} {r : Int32 × zS} (h : fX7_where v1 v2 σ = some r) : zMI l D (wM A cA) yX7_where (zws yX7_where cX7_where 3 (some .int)) 5 115 [.ref (A 0), .int v1, .int v2] σ r := by
  refine zm_I (lv := [(0, .ref (A 0)), (1, .int v1), (2, .int v2)]) rfl sM_ok (Nat.le_of_ble_eq_true rfl) rfl (fun C _ _ hC hR => ?_) h
  unfold fX7_where
  refine gg_aload_n (pc := 0) hC dX7_where_0 (i := 0) rfl 0 rfl ?_
  refine gg_iload_n (pc := 1) hC dX7_where_1 (i := 1) rfl 1 rfl ?_
  refine gg_callVIr (pc := 2) hC dX7_where_2 vX7_206 (fun _ h => mX7_isGate h) (Nat.le_of_ble_eq_true rfl) (Nat.le_of_ble_eq_true rfl) (As := [.int v1]) (rest := []) rfl rfl (Nat.le_of_ble_eq_true rfl) 0 7 pM_0 rfl (fun x1 => ?_)
  refine gg_if_eq (pc := 5) hC dX7_where_5 (tgt := 26) rfl (fun _ => ?_) (fun _ => ?_)
  · refine gg_bipush (pc := 26) hC dX7_where_26 (x := -2) rfl ?_
    exact gg_iret (pc := 28) hR dX7_where_28
  · refine gg_iload_n (pc := 8) hC dX7_where_8 (i := 2) rfl 2 rfl ?_
    refine gg_iconst (pc := 9) hC dX7_where_9 (x := 0) rfl ?_
    refine gg_iconst (pc := 10) hC dX7_where_10 (x := 2) rfl ?_
    refine gg_callSIr (pc := 11) hC dX7_where_11 cX7_85 (fun _ h => mX7_in h) (Nat.le_of_ble_eq_true rfl) (Nat.le_of_ble_eq_true rfl) (As := [.int v2, .int 0, .int 2]) (rest := []) rfl rfl (Nat.le_of_ble_eq_true rfl) (fun x2 => ?_)
    refine gg_if_eq (pc := 14) hC dX7_where_14 (tgt := 26) rfl (fun _ => ?_) (fun _ => ?_)
    · refine gg_bipush (pc := 26) hC dX7_where_26 (x := -2) rfl ?_
      exact gg_iret (pc := 28) hR dX7_where_28
    · refine gg_aload_n (pc := 17) hC dX7_where_17 (i := 0) rfl 0 rfl ?_
      refine gg_iload_n (pc := 18) hC dX7_where_18 (i := 1) rfl 1 rfl ?_
      refine gg_iload_n (pc := 19) hC dX7_where_19 (i := 2) rfl 2 rfl ?_
      refine gg_callVI (pc := 20) hC dX7_where_20 vX7_209 (fun _ h => mX7_whereOf h) (Nat.le_of_ble_eq_true rfl) (Nat.le_of_ble_eq_true rfl) (As := [.int v1, .int v2]) (rest := []) rfl rfl (Nat.le_of_ble_eq_true rfl) 0 7 pM_0 rfl (fun x3 s4 => ?_)
      refine gg_goto (pc := 23) hC dX7_where_23 (tgt := 28) rfl ?_
      exact gg_iret (pc := 28) hR dX7_where_28
def fX7_wipe  (σ : zS) : Option (Int32 × zS) :=
    zv (zi σ 1) (fun (x1 : Int32) =>
    zv (wi σ 1 0) (fun (s2 : zS) =>
    some (x1, s2)))
set_option maxHeartbeats 4000000 in
set_option maxRecDepth 100000 in
theorem mX7_wipe {l : Launch} {D : va_G} {A : Nat → Nat} {cA : Nat → ClassId}   {σ : zS} {r : Int32 × zS} (h : fX7_wipe  σ = some r) : zMI l D (wM A cA) yX7_wipe (zws yX7_wipe cX7_wipe 2 (some .int)) 0 0 [.ref (A 0)] σ r := by
  refine zm_I (lv := [(0, .ref (A 0))]) rfl sM_ok (Nat.le_of_ble_eq_true rfl) rfl (fun C _ _ hC hR => ?_) h
  unfold fX7_wipe
  refine gg_aload_n (pc := 0) hC dX7_wipe_0 (i := 0) rfl 0 rfl ?_
  refine gg_get (pc := 1) hC dX7_wipe_1 fX7_143 0 pM_0 (v := .int (zi σ 1)) rfl ?_
  refine gg_zvi (fun x1 => ?_)
  refine gg_istore_n (pc := 4) hC dX7_wipe_4 (i := 1) rfl (Nat.le_of_ble_eq_true rfl) (lv' := [(1, .int x1), (0, .ref (A 0))]) rfl ?_
  refine gg_aload_n (pc := 5) hC dX7_wipe_5 (i := 0) rfl 1 rfl ?_
  refine gg_iconst (pc := 6) hC dX7_wipe_6 (x := 0) rfl ?_
  refine gg_put (pc := 7) hC dX7_wipe_7 fX7_143 tX7_2 0 pM_0 rfl rfl rfl (Nat.le_of_ble_eq_true rfl) sM_0_7 ?_
  refine gg_zvs (fun s2 => ?_)
  refine gg_iload_n (pc := 10) hC dX7_wipe_10 (i := 1) rfl 0 rfl ?_
  exact gg_iret (pc := 11) hR dX7_wipe_11
def fX7_worst  (σ : zS) : Option (Int32) :=
    zy1 (fX7_worstNow σ) (fun x1 =>
    some x1)
set_option maxHeartbeats 4000000 in
set_option maxRecDepth 100000 in
theorem mX7_worst {l : Launch} {D : va_G} {A : Nat → Nat} {cA : Nat → ClassId}   {σ : zS} {r : Int32} (h : fX7_worst  σ = some r) : zMI l D (wM A cA) yX7_worst (zws yX7_worst cX7_worst 1 (some .int)) 3 67 [.ref (A 0)] σ (r, σ) := by
  refine zm_Ir (lv := [(0, .ref (A 0))]) rfl sM_ok (Nat.le_of_ble_eq_true rfl) rfl (fun C _ _ hC hR => ?_) h
  unfold fX7_worst
  refine gg_aload_n (pc := 0) hC dX7_worst_0 (i := 0) rfl 0 rfl ?_
  refine gg_callVIr (pc := 1) hC dX7_worst_1 vX7_140 (fun _ h => mX7_worstNow h) (Nat.le_of_ble_eq_true rfl) (Nat.le_of_ble_eq_true rfl) (As := []) (rest := []) rfl rfl (Nat.le_of_ble_eq_true rfl) 0 7 pM_0 rfl (fun x1 => ?_)
  exact gg_iretr (pc := 4) hR dX7_worst_4
def fX7_write_54 (v1 : Int32) : Nat → Int32 → Int32 → zS → Option (Int32 × zS)
  | 0, _, _, _ => none
  | n + 1, v2, v3, σ =>
    if 15 < v3 then (some (v2, σ)) else
    (zg (zq v1 4) (if (za σ 12 v1.toNatClampNeg) < v3 then (some (v2, σ)) else
    (zy1 (if (zi σ 0) ≤ (2 * v3) then (some 0) else
    (some 1)) (fun (x1 : Int32) =>
    zy2 (if x1 = 0 then (some (FP.dconst0, σ)) else
    (zy2 (fX7_varianceOf v3 0 σ) (fun x2 s3 =>
    zy2 (fX7_varianceOf v3 1 s3) (fun x4 s5 =>
    zg (zn64 (FP.ddiv (FP.l2d x2) (FP.l2d x4))) (some ((FP.ddiv (FP.l2d x2) (FP.l2d x4)), s5)))))) (fun (x6 : UInt64) (s7 : zS) =>
    zy1 (fX7_keeps (((40 * v1) + v3) - 1) x6 s7) (fun s8 =>
    zy1 (if x1 = 0 then (some 1) else
    (some 0)) (fun (x9 : Int32) =>
    zg (zq (((40 * v1) + v3) - 1) 160) (zv (wa s8 13 (((40 * v1) + v3) - 1).toNatClampNeg (vp_nar .boolean x9)) (fun (s10 : zS) =>
    zy1 (if x1 = 0 then (some 0) else
    (some 1)) (fun (x11 : Int32) =>
    zv (v2 + x11) (fun (x12 : Int32) =>
    fX7_write_54 v1 n x12 (v3 + 1) s10)))))))))))
def fX7_write (v1 : Int32) (σ : zS) : Option (Int32 × zS) :=
    zy1 (fX7_isSheet v1 σ) (fun x1 =>
    if x1 = 0 then (some ((-2 : Int32), σ)) else
    (zg (zq v1 4) (if (za σ 11 v1.toNatClampNeg) = (-1 : Int32) then (zg (zq v1 4) (zy1 (if (za σ 11 v1.toNatClampNeg) = (-1 : Int32) then (some 1) else
    (some 3)) (fun (x2 : Int32) =>
    zy2 (fX7_meets x2 σ) (fun x3 s4 =>
    some (x3, s4))))) else
    (zg (zq v1 4) (if (za σ 11 v1.toNatClampNeg) = 3 then (zy2 (fX7_write_54 v1 500 0 1 σ) (fun (x5 : Int32) (s6 : zS) =>
    some (x5, s6))) else
    (zg (zq v1 4) (zy1 (if (za σ 11 v1.toNatClampNeg) = (-1 : Int32) then (some 1) else
    (some 3)) (fun (x7 : Int32) =>
    zy2 (fX7_meets x7 σ) (fun x8 s9 =>
    some (x8, s9))))))))))
set_option maxHeartbeats 4000000 in
set_option maxRecDepth 100000 in
theorem lX7_write_54 {C : zK} {A : Nat → Nat} {cA : Nat → ClassId} (hC : zOK C (wM A cA) cX7_write RX7 5 4 94) {v1 : Int32} : ∀ (n : Nat) (v2 : Int32) (v3 : Int32) (σ : zS), zG C (wM A cA) 5 (fun q => zW C (wM A cA) 5 165 [(2, .int q.1)] [] q.2) (fX7_write_54 v1 n v2 v3 σ) 54 [(0, .ref (A 0)), (1, .int v1), (2, .int v2), (3, .int v3)] [] σ := by
  intro n
  induction n with
  | zero => intro v2 v3 σ; exact gg_none (o := none)
  | succ n ih =>
    intro v2 v3 σ
    rw [fX7_write_54]
    refine gg_iload_n (pc := 54) hC dX7_write_54 (i := 3) rfl 3 rfl ?_
    refine gg_bipush (pc := 55) hC dX7_write_55 (x := 15) rfl ?_
    refine gg_icmp_gt (pc := 57) hC dX7_write_57 (tgt := 165) rfl (fun _ => ?_) (fun _ => ?_)
    · exact gg_y (fun h => zW_lv [2] rfl h)
    · refine gg_iload_n (pc := 60) hC dX7_write_60 (i := 3) rfl 3 rfl ?_
      refine gg_aload_n (pc := 61) hC dX7_write_61 (i := 0) rfl 0 rfl ?_
      refine gg_get (pc := 62) hC dX7_write_62 fX7_54 0 pM_0 (v := .ref (A 15)) rfl ?_
      refine gg_iload_n (pc := 65) hC dX7_write_65 (i := 1) rfl 1 rfl ?_
      refine gg_iald (pc := 66) hC dX7_write_66 15 0 pM_15 rfl ?_
      refine gg_icmp_gt (pc := 67) hC dX7_write_67 (tgt := 165) rfl (fun _ => ?_) (fun _ => ?_)
      · exact gg_y (fun h => zW_lv [2] rfl h)
      · refine gg_aload_n (pc := 70) hC dX7_write_70 (i := 0) rfl 0 rfl ?_
        refine gg_get (pc := 71) hC dX7_write_71 fX7_81 0 pM_0 (v := .int (zi σ 0)) rfl ?_
        refine gg_iconst (pc := 74) hC dX7_write_74 (x := 2) rfl ?_
        refine gg_iload_n (pc := 75) hC dX7_write_75 (i := 3) rfl 3 rfl ?_
        refine gg_imul (pc := 76) hC dX7_write_76 ?_
        refine gg_join1 (E' := (fun q => zW C (wM A cA) 5 85 [(0, .ref (A 0)), (1, .int v1), (2, .int v2), (3, .int v3)] [.int q] σ)) ?_ (fun x1 => ?_)
        · refine gg_icmp_le (pc := 77) hC dX7_write_77 (tgt := 84) rfl (fun _ => ?_) (fun _ => ?_)
          · refine gg_iconst (pc := 84) hC dX7_write_84 (x := 0) rfl ?_
            exact gg_y (fun h => zW_lv [0, 1, 2, 3] rfl h)
          · refine gg_iconst (pc := 80) hC dX7_write_80 (x := 1) rfl ?_
            refine gg_goto (pc := 81) hC dX7_write_81 (tgt := 85) rfl ?_
            exact gg_y (fun h => zW_lv [0, 1, 2, 3] rfl h)
        · show zG C (wM A cA) 5 _ _ 85 [(0, .ref (A 0)), (1, .int v1), (2, .int v2), (3, .int v3)] [.int x1] σ
          refine gg_istore (pc := 85) hC dX7_write_85 (Nat.le_of_ble_eq_true rfl) (lv' := [(4, .int x1), (0, .ref (A 0)), (1, .int v1), (2, .int v2), (3, .int v3)]) rfl ?_
          refine gg_aload_n (pc := 87) hC dX7_write_87 (i := 0) rfl 1 rfl ?_
          refine gg_bipush (pc := 88) hC dX7_write_88 (x := 40) rfl ?_
          refine gg_iload_n (pc := 90) hC dX7_write_90 (i := 1) rfl 2 rfl ?_
          refine gg_imul (pc := 91) hC dX7_write_91 ?_
          refine gg_iload_n (pc := 92) hC dX7_write_92 (i := 3) rfl 4 rfl ?_
          refine gg_iadd (pc := 93) hC dX7_write_93 ?_
          refine gg_iconst (pc := 94) hC dX7_write_94 (x := 1) rfl ?_
          refine gg_isub (pc := 95) hC dX7_write_95 ?_
          refine gg_iload (pc := 96) hC dX7_write_96 0 rfl ?_
          refine gg_join2 (E' := (fun q => zW C (wM A cA) 5 120 [(0, .ref (A 0)), (1, .int v1), (2, .int v2), (3, .int v3), (4, .int x1)] [.double q.1, .int (((40 * v1) + v3) - 1), .ref (A 0)] q.2)) ?_ (fun x6 s7 => ?_)
          · refine gg_if_eq (pc := 98) hC dX7_write_98 (tgt := 119) rfl (fun _ => ?_) (fun _ => ?_)
            · refine gg_dconst0 (pc := 119) hC dX7_write_119 ?_
              exact gg_y (fun h => zW_lv [1, 2, 3, 4, 0] rfl h)
            · refine gg_aload_n (pc := 101) hC dX7_write_101 (i := 0) rfl 1 rfl ?_
              refine gg_iload_n (pc := 102) hC dX7_write_102 (i := 3) rfl 4 rfl ?_
              refine gg_iconst (pc := 103) hC dX7_write_103 (x := 0) rfl ?_
              refine gg_callVL (pc := 104) hC dX7_write_104 vX7_266 (fun _ h => mX7_varianceOf h) (Nat.le_of_ble_eq_true rfl) (Nat.le_of_ble_eq_true rfl) (As := [.int v3, .int 0]) (rest := [.int (((40 * v1) + v3) - 1), .ref (A 0)]) rfl rfl (Nat.le_of_ble_eq_true rfl) 0 7 pM_0 rfl (fun x2 s3 => ?_)
              refine gg_l2d (pc := 107) hC dX7_write_107 ?_
              refine gg_aload_n (pc := 108) hC dX7_write_108 (i := 0) rfl 1 rfl ?_
              refine gg_iload_n (pc := 109) hC dX7_write_109 (i := 3) rfl 4 rfl ?_
              refine gg_iconst (pc := 110) hC dX7_write_110 (x := 1) rfl ?_
              refine gg_callVL (pc := 111) hC dX7_write_111 vX7_266 (fun _ h => mX7_varianceOf h) (Nat.le_of_ble_eq_true rfl) (Nat.le_of_ble_eq_true rfl) (As := [.int v3, .int 1]) (rest := [.double (FP.l2d x2), .int (((40 * v1) + v3) - 1), .ref (A 0)]) rfl rfl (Nat.le_of_ble_eq_true rfl) 0 7 pM_0 rfl (fun x4 s5 => ?_)
              refine gg_l2d (pc := 114) hC dX7_write_114 ?_
              refine gg_ddiv (pc := 115) hC dX7_write_115 ?_
              refine gg_goto (pc := 116) hC dX7_write_116 (tgt := 120) rfl ?_
              exact gg_y (fun h => zW_lv [1, 2, 3, 4, 0] rfl h)
          · show zG C (wM A cA) 5 _ _ 120 [(0, .ref (A 0)), (1, .int v1), (2, .int v2), (3, .int v3), (4, .int x1)] [.double x6, .int (((40 * v1) + v3) - 1), .ref (A 0)] s7
            refine gg_callVV (pc := 120) hC dX7_write_120 vX7_295 (fun _ h => mX7_keeps h) (Nat.le_of_ble_eq_true rfl) (Nat.le_of_ble_eq_true rfl) (As := [.int (((40 * v1) + v3) - 1), .double x6]) (rest := []) rfl rfl (Nat.le_of_ble_eq_true rfl) 0 7 pM_0 rfl (fun s8 => ?_)
            refine gg_aload_n (pc := 123) hC dX7_write_123 (i := 0) rfl 0 rfl ?_
            refine gg_get (pc := 124) hC dX7_write_124 fX7_64 0 pM_0 (v := .ref (A 18)) rfl ?_
            refine gg_bipush (pc := 127) hC dX7_write_127 (x := 40) rfl ?_
            refine gg_iload_n (pc := 129) hC dX7_write_129 (i := 1) rfl 1 rfl ?_
            refine gg_imul (pc := 130) hC dX7_write_130 ?_
            refine gg_iload_n (pc := 131) hC dX7_write_131 (i := 3) rfl 3 rfl ?_
            refine gg_iadd (pc := 132) hC dX7_write_132 ?_
            refine gg_iconst (pc := 133) hC dX7_write_133 (x := 1) rfl ?_
            refine gg_isub (pc := 134) hC dX7_write_134 ?_
            refine gg_iload (pc := 135) hC dX7_write_135 4 rfl ?_
            refine gg_join1 (E' := (fun q => zW C (wM A cA) 5 145 [(0, .ref (A 0)), (1, .int v1), (2, .int v2), (3, .int v3), (4, .int x1)] [.int q, .int (((40 * v1) + v3) - 1), .ref (A 18)] s8)) ?_ (fun x9 => ?_)
            · refine gg_if_ne (pc := 137) hC dX7_write_137 (tgt := 144) rfl (fun _ => ?_) (fun _ => ?_)
              · refine gg_iconst (pc := 140) hC dX7_write_140 (x := 1) rfl ?_
                refine gg_goto (pc := 141) hC dX7_write_141 (tgt := 145) rfl ?_
                exact gg_y (fun h => zW_lv [0, 1, 2, 3, 4] rfl h)
              · refine gg_iconst (pc := 144) hC dX7_write_144 (x := 0) rfl ?_
                exact gg_y (fun h => zW_lv [0, 1, 2, 3, 4] rfl h)
            · show zG C (wM A cA) 5 _ _ 145 [(0, .ref (A 0)), (1, .int v1), (2, .int v2), (3, .int v3), (4, .int x1)] [.int x9, .int (((40 * v1) + v3) - 1), .ref (A 18)] s8
              refine gg_zast (pc := 145) hC dX7_write_145 18 2 pM_18 rfl sM_18 ?_
              refine gg_zvs (fun s10 => ?_)
              refine gg_iload_n (pc := 146) hC dX7_write_146 (i := 2) rfl 2 rfl ?_
              refine gg_iload (pc := 147) hC dX7_write_147 4 rfl ?_
              refine gg_join1 (E' := (fun q => zW C (wM A cA) 5 157 [(0, .ref (A 0)), (1, .int v1), (3, .int v3)] [.int q, .int v2] s10)) ?_ (fun x11 => ?_)
              · refine gg_if_eq (pc := 149) hC dX7_write_149 (tgt := 156) rfl (fun _ => ?_) (fun _ => ?_)
                · refine gg_iconst (pc := 156) hC dX7_write_156 (x := 0) rfl ?_
                  exact gg_y (fun h => zW_lv [0, 1, 3] rfl h)
                · refine gg_iconst (pc := 152) hC dX7_write_152 (x := 1) rfl ?_
                  refine gg_goto (pc := 153) hC dX7_write_153 (tgt := 157) rfl ?_
                  exact gg_y (fun h => zW_lv [0, 1, 3] rfl h)
              · show zG C (wM A cA) 5 _ _ 157 [(0, .ref (A 0)), (1, .int v1), (3, .int v3)] [.int x11, .int v2] s10
                refine gg_iadd (pc := 157) hC dX7_write_157 ?_
                refine gg_zvi (fun x12 => ?_)
                refine gg_istore_n (pc := 158) hC dX7_write_158 (i := 2) rfl (Nat.le_of_ble_eq_true rfl) (lv' := [(2, .int x12), (0, .ref (A 0)), (1, .int v1), (3, .int v3)]) rfl ?_
                refine gg_iinc (pc := 159) hC dX7_write_159 (y := 0) (j := 3) rfl (z := 1) rfl (Nat.le_of_ble_eq_true rfl) (lv' := [(3, .int (v3 + 1)), (2, .int x12), (0, .ref (A 0)), (1, .int v1)]) rfl ?_
                refine gg_goto (pc := 162) hC dX7_write_162 (tgt := 54) rfl ?_
                exact gg_lv [2, 3, 1, 0] rfl (ih _ _ _)
set_option maxHeartbeats 4000000 in
set_option maxRecDepth 100000 in
theorem mX7_write {l : Launch} {D : va_G} {A : Nat → Nat} {cA : Nat → ClassId} {v1 : Int32}  {σ : zS} {r : Int32 × zS} (h : fX7_write v1 σ = some r) : zMI l D (wM A cA) yX7_write (zws yX7_write cX7_write 5 (some .int)) 4 94 [.ref (A 0), .int v1] σ r := by
  refine zm_I (lv := [(0, .ref (A 0)), (1, .int v1)]) rfl sM_ok (Nat.le_of_ble_eq_true rfl) rfl (fun C _ _ hC hR => ?_) h
  unfold fX7_write
  refine gg_iload_n (pc := 0) hC dX7_write_0 (i := 1) rfl 1 rfl ?_
  refine gg_callSIr (pc := 1) hC dX7_write_1 cX7_281 (fun _ h => mX7_isSheet h) (Nat.le_of_ble_eq_true rfl) (Nat.le_of_ble_eq_true rfl) (As := [.int v1]) (rest := []) rfl rfl (Nat.le_of_ble_eq_true rfl) (fun x1 => ?_)
  refine gg_if_ne (pc := 4) hC dX7_write_4 (tgt := 10) rfl (fun _ => ?_) (fun _ => ?_)
  · refine gg_bipush (pc := 7) hC dX7_write_7 (x := -2) rfl ?_
    exact gg_iret (pc := 9) hR dX7_write_9
  · refine gg_aload_n (pc := 10) hC dX7_write_10 (i := 0) rfl 0 rfl ?_
    refine gg_get (pc := 11) hC dX7_write_11 fX7_51 0 pM_0 (v := .ref (A 14)) rfl ?_
    refine gg_iload_n (pc := 14) hC dX7_write_14 (i := 1) rfl 1 rfl ?_
    refine gg_iald (pc := 15) hC dX7_write_15 14 0 pM_14 rfl ?_
    refine gg_iconst (pc := 16) hC dX7_write_16 (x := -1) rfl ?_
    refine gg_icmp_eq (pc := 17) hC dX7_write_17 (tgt := 30) rfl (fun _ => ?_) (fun _ => ?_)
    · refine gg_aload_n (pc := 30) hC dX7_write_30 (i := 0) rfl 0 rfl ?_
      refine gg_aload_n (pc := 31) hC dX7_write_31 (i := 0) rfl 0 rfl ?_
      refine gg_get (pc := 32) hC dX7_write_32 fX7_51 0 pM_0 (v := .ref (A 14)) rfl ?_
      refine gg_iload_n (pc := 35) hC dX7_write_35 (i := 1) rfl 1 rfl ?_
      refine gg_iald (pc := 36) hC dX7_write_36 14 0 pM_14 rfl ?_
      refine gg_iconst (pc := 37) hC dX7_write_37 (x := -1) rfl ?_
      refine gg_join1 (E' := (fun q => zW C (wM A cA) 5 46 [] [.int q, .ref (A 0)] σ)) ?_ (fun x2 => ?_)
      · refine gg_icmp_ne (pc := 38) hC dX7_write_38 (tgt := 45) rfl (fun _ => ?_) (fun _ => ?_)
        · refine gg_iconst (pc := 41) hC dX7_write_41 (x := 1) rfl ?_
          refine gg_goto (pc := 42) hC dX7_write_42 (tgt := 46) rfl ?_
          exact gg_y (fun h => zW_lv [] rfl h)
        · refine gg_iconst (pc := 45) hC dX7_write_45 (x := 3) rfl ?_
          exact gg_y (fun h => zW_lv [] rfl h)
      · show zG C (wM A cA) 5 _ _ 46 [] [.int x2, .ref (A 0)] σ
        refine gg_callVI (pc := 46) hC dX7_write_46 vX7_284 (fun _ h => mX7_meets h) (Nat.le_of_ble_eq_true rfl) (Nat.le_of_ble_eq_true rfl) (As := [.int x2]) (rest := []) rfl rfl (Nat.le_of_ble_eq_true rfl) 0 7 pM_0 rfl (fun x3 s4 => ?_)
        exact gg_iret (pc := 49) hR dX7_write_49
    · refine gg_aload_n (pc := 20) hC dX7_write_20 (i := 0) rfl 0 rfl ?_
      refine gg_get (pc := 21) hC dX7_write_21 fX7_51 0 pM_0 (v := .ref (A 14)) rfl ?_
      refine gg_iload_n (pc := 24) hC dX7_write_24 (i := 1) rfl 1 rfl ?_
      refine gg_iald (pc := 25) hC dX7_write_25 14 0 pM_14 rfl ?_
      refine gg_iconst (pc := 26) hC dX7_write_26 (x := 3) rfl ?_
      refine gg_icmp_eq (pc := 27) hC dX7_write_27 (tgt := 50) rfl (fun _ => ?_) (fun _ => ?_)
      · refine gg_iconst (pc := 50) hC dX7_write_50 (x := 0) rfl ?_
        refine gg_istore_n (pc := 51) hC dX7_write_51 (i := 2) rfl (Nat.le_of_ble_eq_true rfl) (lv' := [(2, .int 0), (0, .ref (A 0)), (1, .int v1)]) rfl ?_
        refine gg_iconst (pc := 52) hC dX7_write_52 (x := 1) rfl ?_
        refine gg_istore_n (pc := 53) hC dX7_write_53 (i := 3) rfl (Nat.le_of_ble_eq_true rfl) (lv' := [(3, .int 1), (2, .int 0), (0, .ref (A 0)), (1, .int v1)]) rfl ?_
        refine gg_join2 (E' := (fun q => zW C (wM A cA) 5 165 [(2, .int q.1)] [] q.2)) (gg_lv [2, 3, 1, 0] rfl (lX7_write_54 hC  500 _ _ _)) (fun x5 s6 => ?_)
        show zG C (wM A cA) 5 _ _ 165 [(2, .int x5)] [] s6
        refine gg_iload_n (pc := 165) hC dX7_write_165 (i := 2) rfl 0 rfl ?_
        exact gg_iret (pc := 166) hR dX7_write_166
      · refine gg_aload_n (pc := 30) hC dX7_write_30 (i := 0) rfl 0 rfl ?_
        refine gg_aload_n (pc := 31) hC dX7_write_31 (i := 0) rfl 0 rfl ?_
        refine gg_get (pc := 32) hC dX7_write_32 fX7_51 0 pM_0 (v := .ref (A 14)) rfl ?_
        refine gg_iload_n (pc := 35) hC dX7_write_35 (i := 1) rfl 1 rfl ?_
        refine gg_iald (pc := 36) hC dX7_write_36 14 0 pM_14 rfl ?_
        refine gg_iconst (pc := 37) hC dX7_write_37 (x := -1) rfl ?_
        refine gg_join1 (E' := (fun q => zW C (wM A cA) 5 46 [] [.int q, .ref (A 0)] σ)) ?_ (fun x7 => ?_)
        · refine gg_icmp_ne (pc := 38) hC dX7_write_38 (tgt := 45) rfl (fun _ => ?_) (fun _ => ?_)
          · refine gg_iconst (pc := 41) hC dX7_write_41 (x := 1) rfl ?_
            refine gg_goto (pc := 42) hC dX7_write_42 (tgt := 46) rfl ?_
            exact gg_y (fun h => zW_lv [] rfl h)
          · refine gg_iconst (pc := 45) hC dX7_write_45 (x := 3) rfl ?_
            exact gg_y (fun h => zW_lv [] rfl h)
        · show zG C (wM A cA) 5 _ _ 46 [] [.int x7, .ref (A 0)] σ
          refine gg_callVI (pc := 46) hC dX7_write_46 vX7_284 (fun _ h => mX7_meets h) (Nat.le_of_ble_eq_true rfl) (Nat.le_of_ble_eq_true rfl) (As := [.int x7]) (rest := []) rfl rfl (Nat.le_of_ble_eq_true rfl) 0 7 pM_0 rfl (fun x8 s9 => ?_)
          exact gg_iret (pc := 49) hR dX7_write_49

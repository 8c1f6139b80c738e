def fX7_in (v0 : Int32) (v1 : Int32) (v2 : Int32) (σ : zS) : Option (Int32) :=
    if v0 < v1 then (some 0) else
    (if v2 < v0 then (some 0) else
    (some 1))
set_option maxHeartbeats 4000000 in
set_option maxRecDepth 100000 in
theorem mX7_in {l : Launch} {D : va_G} {A : Nat → Nat} {cA : Nat → ClassId} {v0 : Int32} {v1 : Int32} {v2 : Int32}  {σ : zS} {r : Int32} (h : fX7_in v0 v1 v2 σ = some r) : zMI l D (wM A cA) yX7_in (zws yX7_in cX7_in 3 (some .boolean)) 0 0 [.int v0, .int v1, .int v2] σ (r, σ) := by
  refine zm_Zr (lv := [(0, .int v0), (1, .int v1), (2, .int v2)]) rfl sM_ok (Nat.le_of_ble_eq_true rfl) rfl (fun C _ _ hC hR => ?_) h
  unfold fX7_in
  refine gg_iload_n (pc := 0) hC dX7_in_0 (i := 0) rfl 0 rfl ?_
  refine gg_iload_n (pc := 1) hC dX7_in_1 (i := 1) rfl 1 rfl ?_
  refine gg_icmp_lt (pc := 2) hC dX7_in_2 (tgt := 14) rfl (fun _ => ?_) (fun _ => ?_)
  · refine gg_iconst (pc := 14) hC dX7_in_14 (x := 0) rfl ?_
    exact gg_zretr (pc := 15) hR dX7_in_15 rfl
  · refine gg_iload_n (pc := 5) hC dX7_in_5 (i := 0) rfl 0 rfl ?_
    refine gg_iload_n (pc := 6) hC dX7_in_6 (i := 2) rfl 2 rfl ?_
    refine gg_icmp_gt (pc := 7) hC dX7_in_7 (tgt := 14) rfl (fun _ => ?_) (fun _ => ?_)
    · refine gg_iconst (pc := 14) hC dX7_in_14 (x := 0) rfl ?_
      exact gg_zretr (pc := 15) hR dX7_in_15 rfl
    · refine gg_iconst (pc := 10) hC dX7_in_10 (x := 1) rfl ?_
      refine gg_goto (pc := 11) hC dX7_in_11 (tgt := 15) rfl ?_
      exact gg_zretr (pc := 15) hR dX7_in_15 rfl
def fX7_placeFor_2 (v1 : Int32) (σ : zS) : Nat → Int32 → Option (Int32)
  | 0, _ => none
  | n + 1, v2 =>
    if (zi σ 0) ≤ v2 then (some v2) else
    (zg (zq v2 32) (if v1 ≤ (za σ 0 v2.toNatClampNeg) then (some v2) else
    (fX7_placeFor_2 v1 σ n (v2 + 1))))
def fX7_placeFor (v1 : Int32) (σ : zS) : Option (Int32) :=
    zy1 (fX7_placeFor_2 v1 σ 500 0) (fun (x1 : Int32) =>
    some x1)
set_option maxHeartbeats 4000000 in
set_option maxRecDepth 100000 in
theorem lX7_placeFor_2 {C : zK} {A : Nat → Nat} {cA : Nat → ClassId} (hC : zOK C (wM A cA) cX7_placeFor RX7 3 0 0) {v1 : Int32} {σ : zS} : ∀ (n : Nat) (v2 : Int32), zG C (wM A cA) 3 (fun q => zW C (wM A cA) 3 26 [(2, .int q)] [] σ) (fX7_placeFor_2 v1 σ n v2) 2 [(0, .ref (A 0)), (1, .int v1), (2, .int v2)] [] σ := by
  intro n
  induction n with
  | zero => intro v2; exact gg_none (o := none)
  | succ n ih =>
    intro v2
    rw [fX7_placeFor_2]
    refine gg_iload_n (pc := 2) hC dX7_placeFor_2 (i := 2) rfl 2 rfl ?_
    refine gg_aload_n (pc := 3) hC dX7_placeFor_3 (i := 0) rfl 0 rfl ?_
    refine gg_get (pc := 4) hC dX7_placeFor_4 fX7_81 0 pM_0 (v := .int (zi σ 0)) rfl ?_
    refine gg_icmp_ge (pc := 7) hC dX7_placeFor_7 (tgt := 26) rfl (fun _ => ?_) (fun _ => ?_)
    · exact gg_y (fun h => zW_lv [2] rfl h)
    · refine gg_aload_n (pc := 10) hC dX7_placeFor_10 (i := 0) rfl 0 rfl ?_
      refine gg_get (pc := 11) hC dX7_placeFor_11 fX7_7 0 pM_0 (v := .ref (A 1)) rfl ?_
      refine gg_iload_n (pc := 14) hC dX7_placeFor_14 (i := 2) rfl 2 rfl ?_
      refine gg_iald (pc := 15) hC dX7_placeFor_15 1 0 pM_1 rfl ?_
      refine gg_iload_n (pc := 16) hC dX7_placeFor_16 (i := 1) rfl 1 rfl ?_
      refine gg_icmp_ge (pc := 17) hC dX7_placeFor_17 (tgt := 26) rfl (fun _ => ?_) (fun _ => ?_)
      · exact gg_y (fun h => zW_lv [2] rfl h)
      · refine gg_iinc (pc := 20) hC dX7_placeFor_20 (y := 0) (j := 2) rfl (z := 1) rfl (Nat.le_of_ble_eq_true rfl) (lv' := [(2, .int (v2 + 1)), (0, .ref (A 0)), (1, .int v1)]) rfl ?_
        refine gg_goto (pc := 23) hC dX7_placeFor_23 (tgt := 2) rfl ?_
        exact gg_lv [1, 2, 0] rfl (ih _)
set_option maxHeartbeats 4000000 in
set_option maxRecDepth 100000 in
theorem mX7_placeFor {l : Launch} {D : va_G} {A : Nat → Nat} {cA : Nat → ClassId} {v1 : Int32}  {σ : zS} {r : Int32} (h : fX7_placeFor v1 σ = some r) : zMI l D (wM A cA) yX7_placeFor (zws yX7_placeFor cX7_placeFor 3 (some .int)) 0 0 [.ref (A 0), .int v1] σ (r, σ) := by
  refine zm_Ir (lv := [(0, .ref (A 0)), (1, .int v1)]) rfl sM_ok (Nat.le_of_ble_eq_true rfl) rfl (fun C _ _ hC hR => ?_) h
  unfold fX7_placeFor
  refine gg_iconst (pc := 0) hC dX7_placeFor_0 (x := 0) rfl ?_
  refine gg_istore_n (pc := 1) hC dX7_placeFor_1 (i := 2) rfl (Nat.le_of_ble_eq_true rfl) (lv' := [(2, .int 0), (0, .ref (A 0)), (1, .int v1)]) rfl ?_
  refine gg_join1 (E' := (fun q => zW C (wM A cA) 3 26 [(2, .int q)] [] σ)) (gg_lv [1, 2, 0] rfl (lX7_placeFor_2 hC  500 _)) (fun x1 => ?_)
  show zG C (wM A cA) 3 _ _ 26 [(2, .int x1)] [] σ
  refine gg_iload_n (pc := 26) hC dX7_placeFor_26 (i := 2) rfl 0 rfl ?_
  exact gg_iretr (pc := 27) hR dX7_placeFor_27
def fX7_adds_58 (v1 : Int32) (v2 : Int32) : Nat → Int32 → zS → Option (zS)
  | 0, _, _ => none
  | n + 1, v3, σ =>
    if v3 ≤ v2 then (some σ) else
    (zg (zq (v3 - 1) 32) (zg (zq v3 32) (zv (wa σ 0 v3.toNatClampNeg (za σ 0 (v3 - 1).toNatClampNeg)) (fun (s1 : zS) =>
    fX7_adds_58 v1 v2 n (v3 + (-1)) s1))))
def fX7_adds (v1 : Int32) (σ : zS) : Option (Int32 × zS) :=
    zy1 (fX7_in v1 0 5999 σ) (fun x1 =>
    if x1 = 0 then (some ((-2 : Int32), σ)) else
    (zy1 (fX7_placeFor v1 σ) (fun x2 =>
    if (zi σ 0) ≤ x2 then (if (zi σ 0) = 32 then (some ((-4 : Int32), σ)) else
    (zv (zi σ 0) (fun (x3 : Int32) =>
    zy1 (fX7_adds_58 v1 x2 500 x3 σ) (fun (s4 : zS) =>
    zg (zq x2 32) (zv (wa s4 0 x2.toNatClampNeg v1) (fun (s5 : zS) =>
    zv (wi s5 0 ((zi s5 0) + 1)) (fun (s6 : zS) =>
    some (x2, s6)))))))) else
    (zg (zq x2 32) (if (za σ 0 x2.toNatClampNeg) = v1 then (some ((-3 : Int32), σ)) else
    (if (zi σ 0) = 32 then (some ((-4 : Int32), σ)) else
    (zv (zi σ 0) (fun (x7 : Int32) =>
    zy1 (fX7_adds_58 v1 x2 500 x7 σ) (fun (s8 : zS) =>
    zg (zq x2 32) (zv (wa s8 0 x2.toNatClampNeg v1) (fun (s9 : zS) =>
    zv (wi s9 0 ((zi s9 0) + 1)) (fun (s10 : zS) =>
    some (x2, s10)))))))))))))
set_option maxHeartbeats 4000000 in
set_option maxRecDepth 100000 in
theorem lX7_adds_58 {C : zK} {A : Nat → Nat} {cA : Nat → ClassId} (hC : zOK C (wM A cA) cX7_adds RX7 4 1 22) {v1 : Int32} {v2 : Int32} : ∀ (n : Nat) (v3 : Int32) (σ : zS), zG C (wM A cA) 4 (fun q => zW C (wM A cA) 4 83 [(0, .ref (A 0)), (1, .int v1), (2, .int v2)] [] q) (fX7_adds_58 v1 v2 n v3 σ) 58 [(0, .ref (A 0)), (1, .int v1), (2, .int v2), (3, .int v3)] [] σ := by
  intro n
  induction n with
  | zero => intro v3 σ; exact gg_none (o := none)
  | succ n ih =>
    intro v3 σ
    rw [fX7_adds_58]
    refine gg_iload_n (pc := 58) hC dX7_adds_58 (i := 3) rfl 3 rfl ?_
    refine gg_iload_n (pc := 59) hC dX7_adds_59 (i := 2) rfl 2 rfl ?_
    refine gg_icmp_le (pc := 60) hC dX7_adds_60 (tgt := 83) rfl (fun _ => ?_) (fun _ => ?_)
    · exact gg_y (fun h => zW_lv [0, 1, 2] rfl h)
    · refine gg_aload_n (pc := 63) hC dX7_adds_63 (i := 0) rfl 0 rfl ?_
      refine gg_get (pc := 64) hC dX7_adds_64 fX7_7 0 pM_0 (v := .ref (A 1)) rfl ?_
      refine gg_iload_n (pc := 67) hC dX7_adds_67 (i := 3) rfl 3 rfl ?_
      refine gg_aload_n (pc := 68) hC dX7_adds_68 (i := 0) rfl 0 rfl ?_
      refine gg_get (pc := 69) hC dX7_adds_69 fX7_7 0 pM_0 (v := .ref (A 1)) rfl ?_
      refine gg_iload_n (pc := 72) hC dX7_adds_72 (i := 3) rfl 3 rfl ?_
      refine gg_iconst (pc := 73) hC dX7_adds_73 (x := 1) rfl ?_
      refine gg_isub (pc := 74) hC dX7_adds_74 ?_
      refine gg_iald (pc := 75) hC dX7_adds_75 1 0 pM_1 rfl ?_
      refine gg_iast (pc := 76) hC dX7_adds_76 1 0 pM_1 rfl sM_1 ?_
      refine gg_zvs (fun s1 => ?_)
      refine gg_iinc (pc := 77) hC dX7_adds_77 (y := 0) (j := 3) rfl (z := -1) rfl (Nat.le_of_ble_eq_true rfl) (lv' := [(3, .int (v3 + (-1))), (0, .ref (A 0)), (1, .int v1), (2, .int v2)]) rfl ?_
      refine gg_goto (pc := 80) hC dX7_adds_80 (tgt := 58) rfl ?_
      exact gg_lv [1, 2, 3, 0] rfl (ih _ _)
set_option maxHeartbeats 4000000 in
set_option maxRecDepth 100000 in
theorem mX7_adds {l : Launch} {D : va_G} {A : Nat → Nat} {cA : Nat → ClassId} {v1 : Int32}  {σ : zS} {r : Int32 × zS} (h : fX7_adds v1 σ = some r) : zMI l D (wM A cA) yX7_adds (zws yX7_adds cX7_adds 4 (some .int)) 1 22 [.ref (A 0), .int v1] σ r := by
  refine zm_I (lv := [(0, .ref (A 0)), (1, .int v1)]) rfl sM_ok (Nat.le_of_ble_eq_true rfl) rfl (fun C _ _ hC hR => ?_) h
  unfold fX7_adds
  refine gg_iload_n (pc := 0) hC dX7_adds_0 (i := 1) rfl 1 rfl ?_
  refine gg_iconst (pc := 1) hC dX7_adds_1 (x := 0) rfl ?_
  refine gg_sipush (pc := 2) hC dX7_adds_2 (x := 5999) rfl ?_
  refine gg_callSIr (pc := 5) hC dX7_adds_5 cX7_85 (fun _ h => mX7_in h) (Nat.le_of_ble_eq_true rfl) (Nat.le_of_ble_eq_true rfl) (As := [.int v1, .int 0, .int 5999]) (rest := []) rfl rfl (Nat.le_of_ble_eq_true rfl) (fun x1 => ?_)
  refine gg_if_ne (pc := 8) hC dX7_adds_8 (tgt := 14) rfl (fun _ => ?_) (fun _ => ?_)
  · refine gg_bipush (pc := 11) hC dX7_adds_11 (x := -2) rfl ?_
    exact gg_iret (pc := 13) hR dX7_adds_13
  · refine gg_aload_n (pc := 14) hC dX7_adds_14 (i := 0) rfl 0 rfl ?_
    refine gg_iload_n (pc := 15) hC dX7_adds_15 (i := 1) rfl 1 rfl ?_
    refine gg_callVIr (pc := 16) hC dX7_adds_16 vX7_89 (fun _ h => mX7_placeFor h) (Nat.le_of_ble_eq_true rfl) (Nat.le_of_ble_eq_true rfl) (As := [.int v1]) (rest := []) rfl rfl (Nat.le_of_ble_eq_true rfl) 0 7 pM_0 rfl (fun x2 => ?_)
    refine gg_istore_n (pc := 19) hC dX7_adds_19 (i := 2) rfl (Nat.le_of_ble_eq_true rfl) (lv' := [(2, .int x2), (0, .ref (A 0)), (1, .int v1)]) rfl ?_
    refine gg_iload_n (pc := 20) hC dX7_adds_20 (i := 2) rfl 0 rfl ?_
    refine gg_aload_n (pc := 21) hC dX7_adds_21 (i := 0) rfl 1 rfl ?_
    refine gg_get (pc := 22) hC dX7_adds_22 fX7_81 0 pM_0 (v := .int (zi σ 0)) rfl ?_
    refine gg_icmp_ge (pc := 25) hC dX7_adds_25 (tgt := 41) rfl (fun _ => ?_) (fun _ => ?_)
    · refine gg_aload_n (pc := 41) hC dX7_adds_41 (i := 0) rfl 1 rfl ?_
      refine gg_get (pc := 42) hC dX7_adds_42 fX7_81 0 pM_0 (v := .int (zi σ 0)) rfl ?_
      refine gg_bipush (pc := 45) hC dX7_adds_45 (x := 32) rfl ?_
      refine gg_icmp_ne (pc := 47) hC dX7_adds_47 (tgt := 53) rfl (fun _ => ?_) (fun _ => ?_)
      · refine gg_bipush (pc := 50) hC dX7_adds_50 (x := -4) rfl ?_
        exact gg_iret (pc := 52) hR dX7_adds_52
      · refine gg_aload_n (pc := 53) hC dX7_adds_53 (i := 0) rfl 1 rfl ?_
        refine gg_get (pc := 54) hC dX7_adds_54 fX7_81 0 pM_0 (v := .int (zi σ 0)) rfl ?_
        refine gg_zvi (fun x3 => ?_)
        refine gg_istore_n (pc := 57) hC dX7_adds_57 (i := 3) rfl (Nat.le_of_ble_eq_true rfl) (lv' := [(3, .int x3), (2, .int x2), (0, .ref (A 0)), (1, .int v1)]) rfl ?_
        refine gg_join1 (E' := (fun q => zW C (wM A cA) 4 83 [(0, .ref (A 0)), (1, .int v1), (2, .int x2)] [] q)) (gg_lv [2, 3, 1, 0] rfl (lX7_adds_58 hC  500 _ _)) (fun s4 => ?_)
        show zG C (wM A cA) 4 _ _ 83 [(0, .ref (A 0)), (1, .int v1), (2, .int x2)] [] s4
        refine gg_aload_n (pc := 83) hC dX7_adds_83 (i := 0) rfl 0 rfl ?_
        refine gg_get (pc := 84) hC dX7_adds_84 fX7_7 0 pM_0 (v := .ref (A 1)) rfl ?_
        refine gg_iload_n (pc := 87) hC dX7_adds_87 (i := 2) rfl 2 rfl ?_
        refine gg_iload_n (pc := 88) hC dX7_adds_88 (i := 1) rfl 1 rfl ?_
        refine gg_iast (pc := 89) hC dX7_adds_89 1 0 pM_1 rfl sM_1 ?_
        refine gg_zvs (fun s5 => ?_)
        refine gg_aload_n (pc := 90) hC dX7_adds_90 (i := 0) rfl 0 rfl ?_
        refine gg_dup (pc := 91) hC dX7_adds_91 rfl ?_
        refine gg_get (pc := 92) hC dX7_adds_92 fX7_81 0 pM_0 (v := .int (zi s5 0)) rfl ?_
        refine gg_iconst (pc := 95) hC dX7_adds_95 (x := 1) rfl ?_
        refine gg_iadd (pc := 96) hC dX7_adds_96 ?_
        refine gg_put (pc := 97) hC dX7_adds_97 fX7_81 tX7_2 0 pM_0 rfl rfl rfl (Nat.le_of_ble_eq_true rfl) sM_0_1 ?_
        refine gg_zvs (fun s6 => ?_)
        refine gg_iload_n (pc := 100) hC dX7_adds_100 (i := 2) rfl 2 rfl ?_
        exact gg_iret (pc := 101) hR dX7_adds_101
    · refine gg_aload_n (pc := 28) hC dX7_adds_28 (i := 0) rfl 1 rfl ?_
      refine gg_get (pc := 29) hC dX7_adds_29 fX7_7 0 pM_0 (v := .ref (A 1)) rfl ?_
      refine gg_iload_n (pc := 32) hC dX7_adds_32 (i := 2) rfl 0 rfl ?_
      refine gg_iald (pc := 33) hC dX7_adds_33 1 0 pM_1 rfl ?_
      refine gg_iload_n (pc := 34) hC dX7_adds_34 (i := 1) rfl 2 rfl ?_
      refine gg_icmp_ne (pc := 35) hC dX7_adds_35 (tgt := 41) rfl (fun _ => ?_) (fun _ => ?_)
      · refine gg_bipush (pc := 38) hC dX7_adds_38 (x := -3) rfl ?_
        exact gg_iret (pc := 40) hR dX7_adds_40
      · refine gg_aload_n (pc := 41) hC dX7_adds_41 (i := 0) rfl 1 rfl ?_
        refine gg_get (pc := 42) hC dX7_adds_42 fX7_81 0 pM_0 (v := .int (zi σ 0)) rfl ?_
        refine gg_bipush (pc := 45) hC dX7_adds_45 (x := 32) rfl ?_
        refine gg_icmp_ne (pc := 47) hC dX7_adds_47 (tgt := 53) rfl (fun _ => ?_) (fun _ => ?_)
        · refine gg_bipush (pc := 50) hC dX7_adds_50 (x := -4) rfl ?_
          exact gg_iret (pc := 52) hR dX7_adds_52
        · refine gg_aload_n (pc := 53) hC dX7_adds_53 (i := 0) rfl 1 rfl ?_
          refine gg_get (pc := 54) hC dX7_adds_54 fX7_81 0 pM_0 (v := .int (zi σ 0)) rfl ?_
          refine gg_zvi (fun x7 => ?_)
          refine gg_istore_n (pc := 57) hC dX7_adds_57 (i := 3) rfl (Nat.le_of_ble_eq_true rfl) (lv' := [(3, .int x7), (2, .int x2), (0, .ref (A 0)), (1, .int v1)]) rfl ?_
          refine gg_join1 (E' := (fun q => zW C (wM A cA) 4 83 [(0, .ref (A 0)), (1, .int v1), (2, .int x2)] [] q)) (gg_lv [2, 3, 1, 0] rfl (lX7_adds_58 hC  500 _ _)) (fun s8 => ?_)
          show zG C (wM A cA) 4 _ _ 83 [(0, .ref (A 0)), (1, .int v1), (2, .int x2)] [] s8
          refine gg_aload_n (pc := 83) hC dX7_adds_83 (i := 0) rfl 0 rfl ?_
          refine gg_get (pc := 84) hC dX7_adds_84 fX7_7 0 pM_0 (v := .ref (A 1)) rfl ?_
          refine gg_iload_n (pc := 87) hC dX7_adds_87 (i := 2) rfl 2 rfl ?_
          refine gg_iload_n (pc := 88) hC dX7_adds_88 (i := 1) rfl 1 rfl ?_
          refine gg_iast (pc := 89) hC dX7_adds_89 1 0 pM_1 rfl sM_1 ?_
          refine gg_zvs (fun s9 => ?_)
          refine gg_aload_n (pc := 90) hC dX7_adds_90 (i := 0) rfl 0 rfl ?_
          refine gg_dup (pc := 91) hC dX7_adds_91 rfl ?_
          refine gg_get (pc := 92) hC dX7_adds_92 fX7_81 0 pM_0 (v := .int (zi s9 0)) rfl ?_
          refine gg_iconst (pc := 95) hC dX7_adds_95 (x := 1) rfl ?_
          refine gg_iadd (pc := 96) hC dX7_adds_96 ?_
          refine gg_put (pc := 97) hC dX7_adds_97 fX7_81 tX7_2 0 pM_0 rfl rfl rfl (Nat.le_of_ble_eq_true rfl) sM_0_1 ?_
          refine gg_zvs (fun s10 => ?_)
          refine gg_iload_n (pc := 100) hC dX7_adds_100 (i := 2) rfl 2 rfl ?_
          exact gg_iret (pc := 101) hR dX7_adds_101
def fX7_allHits_4 (σ : zS) : Nat → Int32 → Int32 → Option (Int32)
  | 0, _, _ => none
  | n + 1, v1, v2 =>
    if 12 ≤ v2 then (some v1) else
    (zg (zq v2 12) (zv (v1 + (za σ 2 v2.toNatClampNeg)) (fun (x1 : Int32) =>
    fX7_allHits_4 σ n x1 (v2 + 1))))
def fX7_allHits  (σ : zS) : Option (Int32) :=
    zy1 (fX7_allHits_4 σ 500 0 0) (fun (x1 : Int32) =>
    some x1)
set_option maxHeartbeats 4000000 in
set_option maxRecDepth 100000 in
theorem lX7_allHits_4 {C : zK} {A : Nat → Nat} {cA : Nat → ClassId} (hC : zOK C (wM A cA) cX7_allHits RX7 3 0 0) {σ : zS} : ∀ (n : Nat) (v1 : Int32) (v2 : Int32), zG C (wM A cA) 3 (fun q => zW C (wM A cA) 3 25 [(1, .int q)] [] σ) (fX7_allHits_4 σ n v1 v2) 4 [(0, .ref (A 0)), (1, .int v1), (2, .int v2)] [] σ := by
  intro n
  induction n with
  | zero => intro v1 v2; exact gg_none (o := none)
  | succ n ih =>
    intro v1 v2
    rw [fX7_allHits_4]
    refine gg_iload_n (pc := 4) hC dX7_allHits_4 (i := 2) rfl 2 rfl ?_
    refine gg_bipush (pc := 5) hC dX7_allHits_5 (x := 12) rfl ?_
    refine gg_icmp_ge (pc := 7) hC dX7_allHits_7 (tgt := 25) rfl (fun _ => ?_) (fun _ => ?_)
    · exact gg_y (fun h => zW_lv [1] rfl h)
    · refine gg_iload_n (pc := 10) hC dX7_allHits_10 (i := 1) rfl 1 rfl ?_
      refine gg_aload_n (pc := 11) hC dX7_allHits_11 (i := 0) rfl 0 rfl ?_
      refine gg_get (pc := 12) hC dX7_allHits_12 fX7_17 0 pM_0 (v := .ref (A 3)) rfl ?_
      refine gg_iload_n (pc := 15) hC dX7_allHits_15 (i := 2) rfl 2 rfl ?_
      refine gg_iald (pc := 16) hC dX7_allHits_16 3 0 pM_3 rfl ?_
      refine gg_iadd (pc := 17) hC dX7_allHits_17 ?_
      refine gg_zvi (fun x1 => ?_)
      refine gg_istore_n (pc := 18) hC dX7_allHits_18 (i := 1) rfl (Nat.le_of_ble_eq_true rfl) (lv' := [(1, .int x1), (0, .ref (A 0)), (2, .int v2)]) rfl ?_
      refine gg_iinc (pc := 19) hC dX7_allHits_19 (y := 0) (j := 2) rfl (z := 1) rfl (Nat.le_of_ble_eq_true rfl) (lv' := [(2, .int (v2 + 1)), (1, .int x1), (0, .ref (A 0))]) rfl ?_
      refine gg_goto (pc := 22) hC dX7_allHits_22 (tgt := 4) rfl ?_
      exact gg_lv [2, 1, 0] rfl (ih _ _)
set_option maxHeartbeats 4000000 in
set_option maxRecDepth 100000 in
theorem mX7_allHits {l : Launch} {D : va_G} {A : Nat → Nat} {cA : Nat → ClassId}   {σ : zS} {r : Int32} (h : fX7_allHits  σ = some r) : zMI l D (wM A cA) yX7_allHits (zws yX7_allHits cX7_allHits 3 (some .int)) 0 0 [.ref (A 0)] σ (r, σ) := by
  refine zm_Ir (lv := [(0, .ref (A 0))]) rfl sM_ok (Nat.le_of_ble_eq_true rfl) rfl (fun C _ _ hC hR => ?_) h
  unfold fX7_allHits
  refine gg_iconst (pc := 0) hC dX7_allHits_0 (x := 0) rfl ?_
  refine gg_istore_n (pc := 1) hC dX7_allHits_1 (i := 1) rfl (Nat.le_of_ble_eq_true rfl) (lv' := [(1, .int 0), (0, .ref (A 0))]) rfl ?_
  refine gg_iconst (pc := 2) hC dX7_allHits_2 (x := 0) rfl ?_
  refine gg_istore_n (pc := 3) hC dX7_allHits_3 (i := 2) rfl (Nat.le_of_ble_eq_true rfl) (lv' := [(2, .int 0), (1, .int 0), (0, .ref (A 0))]) rfl ?_
  refine gg_join1 (E' := (fun q => zW C (wM A cA) 3 25 [(1, .int q)] [] σ)) (gg_lv [2, 1, 0] rfl (lX7_allHits_4 hC  500 _ _)) (fun x1 => ?_)
  show zG C (wM A cA) 3 _ _ 25 [(1, .int x1)] [] σ
  refine gg_iload_n (pc := 25) hC dX7_allHits_25 (i := 1) rfl 0 rfl ?_
  exact gg_iretr (pc := 26) hR dX7_allHits_26
def fX7_back  (σ : zS) : Option (Int32 × zS) :=
    if (zi σ 4) = 0 then (some ((-3 : Int32), σ)) else
    (zv (wi σ 4 ((zi σ 4) - 1)) (fun (s1 : zS) =>
    some ((zi s1 4), s1)))
set_option maxHeartbeats 4000000 in
set_option maxRecDepth 100000 in
theorem mX7_back {l : Launch} {D : va_G} {A : Nat → Nat} {cA : Nat → ClassId}   {σ : zS} {r : Int32 × zS} (h : fX7_back  σ = some r) : zMI l D (wM A cA) yX7_back (zws yX7_back cX7_back 1 (some .int)) 0 0 [.ref (A 0)] σ r := by
  refine zm_I (lv := [(0, .ref (A 0))]) rfl sM_ok (Nat.le_of_ble_eq_true rfl) rfl (fun C _ _ hC hR => ?_) h
  unfold fX7_back
  refine gg_aload_n (pc := 0) hC dX7_back_0 (i := 0) rfl 0 rfl ?_
  refine gg_get (pc := 1) hC dX7_back_1 fX7_194 0 pM_0 (v := .int (zi σ 4)) rfl ?_
  refine gg_if_ne (pc := 4) hC dX7_back_4 (tgt := 10) rfl (fun _ => ?_) (fun _ => ?_)
  · refine gg_bipush (pc := 7) hC dX7_back_7 (x := -3) rfl ?_
    exact gg_iret (pc := 9) hR dX7_back_9
  · refine gg_aload_n (pc := 10) hC dX7_back_10 (i := 0) rfl 0 rfl ?_
    refine gg_dup (pc := 11) hC dX7_back_11 rfl ?_
    refine gg_get (pc := 12) hC dX7_back_12 fX7_194 0 pM_0 (v := .int (zi σ 4)) rfl ?_
    refine gg_iconst (pc := 15) hC dX7_back_15 (x := 1) rfl ?_
    refine gg_isub (pc := 16) hC dX7_back_16 ?_
    refine gg_put (pc := 17) hC dX7_back_17 fX7_194 tX7_2 0 pM_0 rfl rfl rfl (Nat.le_of_ble_eq_true rfl) sM_0_19 ?_
    refine gg_zvs (fun s1 => ?_)
    refine gg_aload_n (pc := 20) hC dX7_back_20 (i := 0) rfl 0 rfl ?_
    refine gg_get (pc := 21) hC dX7_back_21 fX7_194 0 pM_0 (v := .int (zi s1 4)) rfl ?_
    exact gg_iret (pc := 24) hR dX7_back_24
def fX7_firstOf (v1 : Int32) (σ : zS) : Option (Int32) :=
    zg (zq v1 14) (some (za σ 4 v1.toNatClampNeg))
set_option maxHeartbeats 4000000 in
set_option maxRecDepth 100000 in
theorem mX7_firstOf {l : Launch} {D : va_G} {A : Nat → Nat} {cA : Nat → ClassId} {v1 : Int32}  {σ : zS} {r : Int32} (h : fX7_firstOf v1 σ = some r) : zMI l D (wM A cA) yX7_firstOf (zws yX7_firstOf cX7_firstOf 2 (some .int)) 0 0 [.ref (A 0), .int v1] σ (r, σ) := by
  refine zm_Ir (lv := [(0, .ref (A 0)), (1, .int v1)]) rfl sM_ok (Nat.le_of_ble_eq_true rfl) rfl (fun C _ _ hC hR => ?_) h
  unfold fX7_firstOf
  refine gg_aload_n (pc := 0) hC dX7_firstOf_0 (i := 0) rfl 0 rfl ?_
  refine gg_get (pc := 1) hC dX7_firstOf_1 fX7_23 0 pM_0 (v := .ref (A 5)) rfl ?_
  refine gg_iload_n (pc := 4) hC dX7_firstOf_4 (i := 1) rfl 1 rfl ?_
  refine gg_iald (pc := 5) hC dX7_firstOf_5 5 0 pM_5 rfl ?_
  exact gg_iretr (pc := 6) hR dX7_firstOf_6
def fX7_widthOf (v1 : Int32) (σ : zS) : Option (Int32) :=
    zy1 (fX7_firstOf (v1 + 1) σ) (fun x1 =>
    zy1 (fX7_firstOf v1 σ) (fun x2 =>
    some (x1 - x2)))
set_option maxHeartbeats 4000000 in
set_option maxRecDepth 100000 in
theorem mX7_widthOf {l : Launch} {D : va_G} {A : Nat → Nat} {cA : Nat → ClassId} {v1 : Int32}  {σ : zS} {r : Int32} (h : fX7_widthOf v1 σ = some r) : zMI l D (wM A cA) yX7_widthOf (zws yX7_widthOf cX7_widthOf 2 (some .int)) 1 21 [.ref (A 0), .int v1] σ (r, σ) := by
  refine zm_Ir (lv := [(0, .ref (A 0)), (1, .int v1)]) rfl sM_ok (Nat.le_of_ble_eq_true rfl) rfl (fun C _ _ hC hR => ?_) h
  unfold fX7_widthOf
  refine gg_aload_n (pc := 0) hC dX7_widthOf_0 (i := 0) rfl 0 rfl ?_
  refine gg_iload_n (pc := 1) hC dX7_widthOf_1 (i := 1) rfl 1 rfl ?_
  refine gg_iconst (pc := 2) hC dX7_widthOf_2 (x := 1) rfl ?_
  refine gg_iadd (pc := 3) hC dX7_widthOf_3 ?_
  refine gg_callVIr (pc := 4) hC dX7_widthOf_4 vX7_100 (fun _ h => mX7_firstOf h) (Nat.le_of_ble_eq_true rfl) (Nat.le_of_ble_eq_true rfl) (As := [.int (v1 + 1)]) (rest := []) rfl rfl (Nat.le_of_ble_eq_true rfl) 0 7 pM_0 rfl (fun x1 => ?_)
  refine gg_aload_n (pc := 7) hC dX7_widthOf_7 (i := 0) rfl 0 rfl ?_
  refine gg_iload_n (pc := 8) hC dX7_widthOf_8 (i := 1) rfl 1 rfl ?_
  refine gg_callVIr (pc := 9) hC dX7_widthOf_9 vX7_100 (fun _ h => mX7_firstOf h) (Nat.le_of_ble_eq_true rfl) (Nat.le_of_ble_eq_true rfl) (As := [.int v1]) (rest := [.int x1]) rfl rfl (Nat.le_of_ble_eq_true rfl) 0 7 pM_0 rfl (fun x2 => ?_)
  refine gg_isub (pc := 12) hC dX7_widthOf_12 ?_
  exact gg_iretr (pc := 13) hR dX7_widthOf_13
def fX7_binOf (v1 : Int32) (v2 : Int32) (σ : zS) : Option (Int32) :=
    if v2 = 0 then (zy1 (fX7_firstOf v1 σ) (fun x1 =>
    some x1)) else
    (if v2 = 1 then (zy1 (fX7_widthOf v1 σ) (fun x2 =>
    some x2)) else
    (zg (zq v1 12) (some (za σ 2 v1.toNatClampNeg))))
set_option maxHeartbeats 4000000 in
set_option maxRecDepth 100000 in
theorem mX7_binOf {l : Launch} {D : va_G} {A : Nat → Nat} {cA : Nat → ClassId} {v1 : Int32} {v2 : Int32}  {σ : zS} {r : Int32} (h : fX7_binOf v1 v2 σ = some r) : zMI l D (wM A cA) yX7_binOf (zws yX7_binOf cX7_binOf 3 (some .int)) 2 42 [.ref (A 0), .int v1, .int v2] σ (r, σ) := by
  refine zm_Ir (lv := [(0, .ref (A 0)), (1, .int v1), (2, .int v2)]) rfl sM_ok (Nat.le_of_ble_eq_true rfl) rfl (fun C _ _ hC hR => ?_) h
  unfold fX7_binOf
  refine gg_iload_n (pc := 0) hC dX7_binOf_0 (i := 2) rfl 2 rfl ?_
  refine gg_if_ne (pc := 1) hC dX7_binOf_1 (tgt := 12) rfl (fun _ => ?_) (fun _ => ?_)
  · refine gg_aload_n (pc := 4) hC dX7_binOf_4 (i := 0) rfl 0 rfl ?_
    refine gg_iload_n (pc := 5) hC dX7_binOf_5 (i := 1) rfl 1 rfl ?_
    refine gg_callVIr (pc := 6) hC dX7_binOf_6 vX7_100 (fun _ h => mX7_firstOf h) (Nat.le_of_ble_eq_true rfl) (Nat.le_of_ble_eq_true rfl) (As := [.int v1]) (rest := []) rfl rfl (Nat.le_of_ble_eq_true rfl) 0 7 pM_0 rfl (fun x1 => ?_)
    refine gg_goto (pc := 9) hC dX7_binOf_9 (tgt := 31) rfl ?_
    exact gg_iretr (pc := 31) hR dX7_binOf_31
  · refine gg_iload_n (pc := 12) hC dX7_binOf_12 (i := 2) rfl 2 rfl ?_
    refine gg_iconst (pc := 13) hC dX7_binOf_13 (x := 1) rfl ?_
    refine gg_icmp_ne (pc := 14) hC dX7_binOf_14 (tgt := 25) rfl (fun _ => ?_) (fun _ => ?_)
    · refine gg_aload_n (pc := 17) hC dX7_binOf_17 (i := 0) rfl 0 rfl ?_
      refine gg_iload_n (pc := 18) hC dX7_binOf_18 (i := 1) rfl 1 rfl ?_
      refine gg_callVIr (pc := 19) hC dX7_binOf_19 vX7_116 (fun _ h => mX7_widthOf h) (Nat.le_of_ble_eq_true rfl) (Nat.le_of_ble_eq_true rfl) (As := [.int v1]) (rest := []) rfl rfl (Nat.le_of_ble_eq_true rfl) 0 7 pM_0 rfl (fun x2 => ?_)
      refine gg_goto (pc := 22) hC dX7_binOf_22 (tgt := 31) rfl ?_
      exact gg_iretr (pc := 31) hR dX7_binOf_31
    · refine gg_aload_n (pc := 25) hC dX7_binOf_25 (i := 0) rfl 0 rfl ?_
      refine gg_get (pc := 26) hC dX7_binOf_26 fX7_17 0 pM_0 (v := .ref (A 3)) rfl ?_
      refine gg_iload_n (pc := 29) hC dX7_binOf_29 (i := 1) rfl 1 rfl ?_
      refine gg_iald (pc := 30) hC dX7_binOf_30 3 0 pM_3 rfl ?_
      exact gg_iretr (pc := 31) hR dX7_binOf_31
def fX7_bins  (σ : zS) : Option (Int32) :=
    zg (zq 59 60) (some ((za σ 3 (59 : Int32).toNatClampNeg) + 1))
set_option maxHeartbeats 4000000 in
set_option maxRecDepth 100000 in
theorem mX7_bins {l : Launch} {D : va_G} {A : Nat → Nat} {cA : Nat → ClassId}   {σ : zS} {r : Int32} (h : fX7_bins  σ = some r) : zMI l D (wM A cA) yX7_bins (zws yX7_bins cX7_bins 1 (some .int)) 0 0 [.ref (A 0)] σ (r, σ) := by
  refine zm_Ir (lv := [(0, .ref (A 0))]) rfl sM_ok (Nat.le_of_ble_eq_true rfl) rfl (fun C _ _ hC hR => ?_) h
  unfold fX7_bins
  refine gg_aload_n (pc := 0) hC dX7_bins_0 (i := 0) rfl 0 rfl ?_
  refine gg_get (pc := 1) hC dX7_bins_1 fX7_20 0 pM_0 (v := .ref (A 4)) rfl ?_
  refine gg_bipush (pc := 4) hC dX7_bins_4 (x := 59) rfl ?_
  refine gg_iald (pc := 6) hC dX7_bins_6 4 0 pM_4 rfl ?_
  refine gg_iconst (pc := 7) hC dX7_bins_7 (x := 1) rfl ?_
  refine gg_iadd (pc := 8) hC dX7_bins_8 ?_
  exact gg_iretr (pc := 9) hR dX7_bins_9
def fX7_isBin (v1 : Int32) (σ : zS) : Option (Int32) :=
    zy1 (fX7_bins σ) (fun x1 =>
    zy1 (fX7_in v1 0 (x1 - 1) σ) (fun x2 =>
    zg (zz x2) (some x2)))
set_option maxHeartbeats 4000000 in
set_option maxRecDepth 100000 in
theorem mX7_isBin {l : Launch} {D : va_G} {A : Nat → Nat} {cA : Nat → ClassId} {v1 : Int32}  {σ : zS} {r : Int32} (h : fX7_isBin v1 σ = some r) : zMI l D (wM A cA) yX7_isBin (zws yX7_isBin cX7_isBin 2 (some .boolean)) 1 22 [.ref (A 0), .int v1] σ (r, σ) := by
  refine zm_Zr (lv := [(0, .ref (A 0)), (1, .int v1)]) rfl sM_ok (Nat.le_of_ble_eq_true rfl) rfl (fun C _ _ hC hR => ?_) h
  unfold fX7_isBin
  refine gg_iload_n (pc := 0) hC dX7_isBin_0 (i := 1) rfl 1 rfl ?_
  refine gg_iconst (pc := 1) hC dX7_isBin_1 (x := 0) rfl ?_
  refine gg_aload_n (pc := 2) hC dX7_isBin_2 (i := 0) rfl 0 rfl ?_
  refine gg_callVIr (pc := 3) hC dX7_isBin_3 vX7_107 (fun _ h => mX7_bins h) (Nat.le_of_ble_eq_true rfl) (Nat.le_of_ble_eq_true rfl) (As := []) (rest := [.int 0, .int v1]) rfl rfl (Nat.le_of_ble_eq_true rfl) 0 7 pM_0 rfl (fun x1 => ?_)
  refine gg_iconst (pc := 6) hC dX7_isBin_6 (x := 1) rfl ?_
  refine gg_isub (pc := 7) hC dX7_isBin_7 ?_
  refine gg_callSIr (pc := 8) hC dX7_isBin_8 cX7_85 (fun _ h => mX7_in h) (Nat.le_of_ble_eq_true rfl) (Nat.le_of_ble_eq_true rfl) (As := [.int v1, .int 0, .int (x1 - 1)]) (rest := []) rfl rfl (Nat.le_of_ble_eq_true rfl) (fun x2 => ?_)
  exact gg_zretgr (pc := 11) hR dX7_isBin_11
def fX7_bin (v1 : Int32) (v2 : Int32) (σ : zS) : Option (Int32) :=
    zy1 (fX7_isBin v1 σ) (fun x1 =>
    if x1 = 0 then (some (-2 : Int32)) else
    (zy1 (fX7_in v2 0 2 σ) (fun x2 =>
    if x2 = 0 then (some (-2 : Int32)) else
    (zy1 (fX7_binOf v1 v2 σ) (fun x3 =>
    some x3)))))
set_option maxHeartbeats 4000000 in
set_option maxRecDepth 100000 in
theorem mX7_bin {l : Launch} {D : va_G} {A : Nat → Nat} {cA : Nat → ClassId} {v1 : Int32} {v2 : Int32}  {σ : zS} {r : Int32} (h : fX7_bin v1 v2 σ = some r) : zMI l D (wM A cA) yX7_bin (zws yX7_bin cX7_bin 3 (some .int)) 3 64 [.ref (A 0), .int v1, .int v2] σ (r, σ) := by
  refine zm_Ir (lv := [(0, .ref (A 0)), (1, .int v1), (2, .int v2)]) rfl sM_ok (Nat.le_of_ble_eq_true rfl) rfl (fun C _ _ hC hR => ?_) h
  unfold fX7_bin
  refine gg_aload_n (pc := 0) hC dX7_bin_0 (i := 0) rfl 0 rfl ?_
  refine gg_iload_n (pc := 1) hC dX7_bin_1 (i := 1) rfl 1 rfl ?_
  refine gg_callVIr (pc := 2) hC dX7_bin_2 vX7_119 (fun _ h => mX7_isBin h) (Nat.le_of_ble_eq_true rfl) (Nat.le_of_ble_eq_true rfl) (As := [.int v1]) (rest := []) rfl rfl (Nat.le_of_ble_eq_true rfl) 0 7 pM_0 rfl (fun x1 => ?_)
  refine gg_if_eq (pc := 5) hC dX7_bin_5 (tgt := 26) rfl (fun _ => ?_) (fun _ => ?_)
  · refine gg_bipush (pc := 26) hC dX7_bin_26 (x := -2) rfl ?_
    exact gg_iretr (pc := 28) hR dX7_bin_28
  · refine gg_iload_n (pc := 8) hC dX7_bin_8 (i := 2) rfl 2 rfl ?_
    refine gg_iconst (pc := 9) hC dX7_bin_9 (x := 0) rfl ?_
    refine gg_iconst (pc := 10) hC dX7_bin_10 (x := 2) rfl ?_
    refine gg_callSIr (pc := 11) hC dX7_bin_11 cX7_85 (fun _ h => mX7_in h) (Nat.le_of_ble_eq_true rfl) (Nat.le_of_ble_eq_true rfl) (As := [.int v2, .int 0, .int 2]) (rest := []) rfl rfl (Nat.le_of_ble_eq_true rfl) (fun x2 => ?_)
    refine gg_if_eq (pc := 14) hC dX7_bin_14 (tgt := 26) rfl (fun _ => ?_) (fun _ => ?_)
    · refine gg_bipush (pc := 26) hC dX7_bin_26 (x := -2) rfl ?_
      exact gg_iretr (pc := 28) hR dX7_bin_28
    · refine gg_aload_n (pc := 17) hC dX7_bin_17 (i := 0) rfl 0 rfl ?_
      refine gg_iload_n (pc := 18) hC dX7_bin_18 (i := 1) rfl 1 rfl ?_
      refine gg_iload_n (pc := 19) hC dX7_bin_19 (i := 2) rfl 2 rfl ?_
      refine gg_callVIr (pc := 20) hC dX7_bin_20 vX7_122 (fun _ h => mX7_binOf h) (Nat.le_of_ble_eq_true rfl) (Nat.le_of_ble_eq_true rfl) (As := [.int v1, .int v2]) (rest := []) rfl rfl (Nat.le_of_ble_eq_true rfl) 0 7 pM_0 rfl (fun x3 => ?_)
      refine gg_goto (pc := 23) hC dX7_bin_23 (tgt := 28) rfl ?_
      exact gg_iretr (pc := 28) hR dX7_bin_28
def fX7_no (v0 : Int32) (σ : zS) : Option (Int64) :=
    some ((-9223372036854775808 : Int64) - (v0.toInt64))
set_option maxHeartbeats 4000000 in
set_option maxRecDepth 100000 in
theorem mX7_no {l : Launch} {D : va_G} {A : Nat → Nat} {cA : Nat → ClassId} {v0 : Int32}  {σ : zS} {r : Int64} (h : fX7_no v0 σ = some r) : zML l D (wM A cA) yX7_no (zws yX7_no cX7_no 1 (some .long)) 0 0 [.int v0] σ (r, σ) := by
  refine zm_Lr (lv := [(0, .int v0)]) rfl sM_ok (Nat.le_of_ble_eq_true rfl) rfl (fun C _ _ hC hR => ?_) h
  unfold fX7_no
  refine gg_ldc2 (pc := 0) hC dX7_no_0 qX7_79 ?_
  refine gg_iload_n (pc := 3) hC dX7_no_3 (i := 0) rfl 0 rfl ?_
  refine gg_i2l (pc := 4) hC dX7_no_4 ?_
  refine gg_lsub (pc := 5) hC dX7_no_5 ?_
  exact gg_lretr (pc := 6) hR dX7_no_6
def fX7_partOf_17 (v0 : Int64) (v2 : Int64) (v4 : Int32) (σ : zS) : Nat → Int64 → Int64 → Option (Int64)
  | 0, _, _ => none
  | n + 1, v5, v7 =>
    if v7 = (0 : Int64) then (some v5) else
    (zg (decide (¬ v7 = 0)) (zv (v5 - v5 / v7 * v7) (fun (x1 : Int64) =>
    fX7_partOf_17 v0 v2 v4 σ n v7 x1)))
def fX7_partOf (v0 : Int64) (v2 : Int64) (v4 : Int32) (σ : zS) : Option (Int64) :=
    zy1 (if (0 : Int64) ≤ v0 then (some v0) else
    (some (-v0))) (fun (x1 : Int64) =>
    zy1 (fX7_partOf_17 v0 v2 v4 σ 500 x1 v2) (fun (x2 : Int64) =>
    if v4 = 0 then (zg (decide (¬ x2 = 0)) (some (v0 / x2))) else
    (zg (decide (¬ x2 = 0)) (some (v2 / x2)))))
set_option maxHeartbeats 4000000 in
set_option maxRecDepth 100000 in
theorem lX7_partOf_17 {C : zK} {A : Nat → Nat} {cA : Nat → ClassId} (hC : zOK C (wM A cA) cX7_partOf RX7 11 0 0) {v0 : Int64} {v2 : Int64} {v4 : Int32} {σ : zS} : ∀ (n : Nat) (v5 : Int64) (v7 : Int64), zG C (wM A cA) 11 (fun q => zW C (wM A cA) 11 42 [(0, .long v0), (2, .long v2), (4, .int v4), (5, .long q)] [] σ) (fX7_partOf_17 v0 v2 v4 σ n v5 v7) 17 [(0, .long v0), (2, .long v2), (4, .int v4), (5, .long v5), (7, .long v7)] [] σ := by
  intro n
  induction n with
  | zero => intro v5 v7; exact gg_none (o := none)
  | succ n ih =>
    intro v5 v7
    rw [fX7_partOf_17]
    refine gg_lload (pc := 17) hC dX7_partOf_17 4 rfl ?_
    refine gg_lconst (pc := 19) hC dX7_partOf_19 (x := 0) rfl ?_
    refine gg_lcmp_eq (pc := 20) hC dX7_partOf_20 dX7_partOf_21 (tgt := 42) rfl (fun _ => ?_) (fun _ => ?_)
    · exact gg_y (fun h => zW_lv [0, 1, 2, 3] rfl h)
    · refine gg_lload (pc := 24) hC dX7_partOf_24 3 rfl ?_
      refine gg_lload (pc := 26) hC dX7_partOf_26 4 rfl ?_
      refine gg_lrem_g (pc := 28) hC dX7_partOf_28 ?_
      refine gg_zvl (fun x1 => ?_)
      refine gg_lstore (pc := 29) hC dX7_partOf_29 (Nat.le_of_ble_eq_true rfl) (lv' := [(9, .long x1), (0, .long v0), (2, .long v2), (4, .int v4), (5, .long v5), (7, .long v7)]) rfl ?_
      refine gg_lload (pc := 31) hC dX7_partOf_31 5 rfl ?_
      refine gg_lstore (pc := 33) hC dX7_partOf_33 (Nat.le_of_ble_eq_true rfl) (lv' := [(5, .long v7), (9, .long x1), (0, .long v0), (2, .long v2), (4, .int v4), (7, .long v7)]) rfl ?_
      refine gg_lload (pc := 35) hC dX7_partOf_35 1 rfl ?_
      refine gg_lstore (pc := 37) hC dX7_partOf_37 (Nat.le_of_ble_eq_true rfl) (lv' := [(7, .long x1), (5, .long v7), (9, .long x1), (0, .long v0), (2, .long v2), (4, .int v4)]) rfl ?_
      refine gg_goto (pc := 39) hC dX7_partOf_39 (tgt := 17) rfl ?_
      exact gg_lv [3, 4, 5, 1, 0] rfl (ih _ _)
set_option maxHeartbeats 4000000 in
set_option maxRecDepth 100000 in
theorem mX7_partOf {l : Launch} {D : va_G} {A : Nat → Nat} {cA : Nat → ClassId} {v0 : Int64} {v2 : Int64} {v4 : Int32}  {σ : zS} {r : Int64} (h : fX7_partOf v0 v2 v4 σ = some r) : zML l D (wM A cA) yX7_partOf (zws yX7_partOf cX7_partOf 11 (some .long)) 0 0 [.long v0, .long v2, .int v4] σ (r, σ) := by
  refine zm_Lr (lv := [(0, .long v0), (2, .long v2), (4, .int v4)]) rfl sM_ok (Nat.le_of_ble_eq_true rfl) rfl (fun C _ _ hC hR => ?_) h
  unfold fX7_partOf
  refine gg_lload_n (pc := 0) hC dX7_partOf_0 (i := 0) rfl 0 rfl ?_
  refine gg_lconst (pc := 1) hC dX7_partOf_1 (x := 0) rfl ?_
  refine gg_join1 (E' := (fun q => zW C (wM A cA) 11 12 [(0, .long v0), (2, .long v2), (4, .int v4)] [.long q] σ)) ?_ (fun x1 => ?_)
  · refine gg_lcmp_ge (pc := 2) hC dX7_partOf_2 dX7_partOf_3 (tgt := 11) rfl (fun _ => ?_) (fun _ => ?_)
    · refine gg_lload_n (pc := 11) hC dX7_partOf_11 (i := 0) rfl 0 rfl ?_
      exact gg_y (fun h => zW_lv [0, 1, 2] rfl h)
    · refine gg_lload_n (pc := 6) hC dX7_partOf_6 (i := 0) rfl 0 rfl ?_
      refine gg_lneg (pc := 7) hC dX7_partOf_7 ?_
      refine gg_goto (pc := 8) hC dX7_partOf_8 (tgt := 12) rfl ?_
      exact gg_y (fun h => zW_lv [0, 1, 2] rfl h)
  · show zG C (wM A cA) 11 _ _ 12 [(0, .long v0), (2, .long v2), (4, .int v4)] [.long x1] σ
    refine gg_lstore (pc := 12) hC dX7_partOf_12 (Nat.le_of_ble_eq_true rfl) (lv' := [(5, .long x1), (0, .long v0), (2, .long v2), (4, .int v4)]) rfl ?_
    refine gg_lload_n (pc := 14) hC dX7_partOf_14 (i := 2) rfl 2 rfl ?_
    refine gg_lstore (pc := 15) hC dX7_partOf_15 (Nat.le_of_ble_eq_true rfl) (lv' := [(7, .long v2), (5, .long x1), (0, .long v0), (2, .long v2), (4, .int v4)]) rfl ?_
    refine gg_join1 (E' := (fun q => zW C (wM A cA) 11 42 [(0, .long v0), (2, .long v2), (4, .int v4), (5, .long q)] [] σ)) (gg_lv [2, 3, 4, 1, 0] rfl (lX7_partOf_17 hC  500 _ _)) (fun x2 => ?_)
    show zG C (wM A cA) 11 _ _ 42 [(0, .long v0), (2, .long v2), (4, .int v4), (5, .long x2)] [] σ
    refine gg_iload (pc := 42) hC dX7_partOf_42 2 rfl ?_
    refine gg_if_ne (pc := 44) hC dX7_partOf_44 (tgt := 54) rfl (fun _ => ?_) (fun _ => ?_)
    · refine gg_lload_n (pc := 47) hC dX7_partOf_47 (i := 0) rfl 0 rfl ?_
      refine gg_lload (pc := 48) hC dX7_partOf_48 3 rfl ?_
      refine gg_ldiv_g (pc := 50) hC dX7_partOf_50 ?_
      refine gg_goto (pc := 51) hC dX7_partOf_51 (tgt := 58) rfl ?_
      exact gg_lretr (pc := 58) hR dX7_partOf_58
    · refine gg_lload_n (pc := 54) hC dX7_partOf_54 (i := 2) rfl 1 rfl ?_
      refine gg_lload (pc := 55) hC dX7_partOf_55 3 rfl ?_
      refine gg_ldiv_g (pc := 57) hC dX7_partOf_57 ?_
      exact gg_lretr (pc := 58) hR dX7_partOf_58
def fX7_denseOf (v1 : Int32) (v2 : Int32) (σ : zS) : Option (Int64) :=
    zy1 (fX7_allHits σ) (fun x1 =>
    if x1 = 0 then (zy1 (fX7_no (-3 : Int32) σ) (fun x2 =>
    some x2)) else
    (zg (zq v1 12) (zy1 (fX7_allHits σ) (fun x3 =>
    zy1 (fX7_partOf ((60 : Int64) * ((za σ 2 v1.toNatClampNeg).toInt64)) (x3.toInt64) v2 σ) (fun x4 =>
    some x4)))))
set_option maxHeartbeats 4000000 in
set_option maxRecDepth 100000 in
theorem mX7_denseOf {l : Launch} {D : va_G} {A : Nat → Nat} {cA : Nat → ClassId} {v1 : Int32} {v2 : Int32}  {σ : zS} {r : Int64} (h : fX7_denseOf v1 v2 σ = some r) : zML l D (wM A cA) yX7_denseOf (zws yX7_denseOf cX7_denseOf 3 (some .long)) 1 30 [.ref (A 0), .int v1, .int v2] σ (r, σ) := by
  refine zm_Lr (lv := [(0, .ref (A 0)), (1, .int v1), (2, .int v2)]) rfl sM_ok (Nat.le_of_ble_eq_true rfl) rfl (fun C _ _ hC hR => ?_) h
  unfold fX7_denseOf
  refine gg_aload_n (pc := 0) hC dX7_denseOf_0 (i := 0) rfl 0 rfl ?_
  refine gg_callVIr (pc := 1) hC dX7_denseOf_1 vX7_103 (fun _ h => mX7_allHits h) (Nat.le_of_ble_eq_true rfl) (Nat.le_of_ble_eq_true rfl) (As := []) (rest := []) rfl rfl (Nat.le_of_ble_eq_true rfl) 0 7 pM_0 rfl (fun x1 => ?_)
  refine gg_if_ne (pc := 4) hC dX7_denseOf_4 (tgt := 15) rfl (fun _ => ?_) (fun _ => ?_)
  · refine gg_bipush (pc := 7) hC dX7_denseOf_7 (x := -3) rfl ?_
    refine gg_callSLr (pc := 9) hC dX7_denseOf_9 cX7_126 (fun _ h => mX7_no h) (Nat.le_of_ble_eq_true rfl) (Nat.le_of_ble_eq_true rfl) (As := [.int (-3 : Int32)]) (rest := []) rfl rfl (Nat.le_of_ble_eq_true rfl) (fun x2 => ?_)
    refine gg_goto (pc := 12) hC dX7_denseOf_12 (tgt := 35) rfl ?_
    exact gg_lretr (pc := 35) hR dX7_denseOf_35
  · refine gg_ldc2 (pc := 15) hC dX7_denseOf_15 qX7_130 ?_
    refine gg_aload_n (pc := 18) hC dX7_denseOf_18 (i := 0) rfl 0 rfl ?_
    refine gg_get (pc := 19) hC dX7_denseOf_19 fX7_17 0 pM_0 (v := .ref (A 3)) rfl ?_
    refine gg_iload_n (pc := 22) hC dX7_denseOf_22 (i := 1) rfl 1 rfl ?_
    refine gg_iald (pc := 23) hC dX7_denseOf_23 3 0 pM_3 rfl ?_
    refine gg_i2l (pc := 24) hC dX7_denseOf_24 ?_
    refine gg_lmul (pc := 25) hC dX7_denseOf_25 ?_
    refine gg_aload_n (pc := 26) hC dX7_denseOf_26 (i := 0) rfl 0 rfl ?_
    refine gg_callVIr (pc := 27) hC dX7_denseOf_27 vX7_103 (fun _ h => mX7_allHits h) (Nat.le_of_ble_eq_true rfl) (Nat.le_of_ble_eq_true rfl) (As := []) (rest := [.long ((60 : Int64) * ((za σ 2 v1.toNatClampNeg).toInt64))]) rfl rfl (Nat.le_of_ble_eq_true rfl) 0 7 pM_0 rfl (fun x3 => ?_)
    refine gg_i2l (pc := 30) hC dX7_denseOf_30 ?_
    refine gg_iload_n (pc := 31) hC dX7_denseOf_31 (i := 2) rfl 2 rfl ?_
    refine gg_callSLr (pc := 32) hC dX7_denseOf_32 cX7_132 (fun _ h => mX7_partOf h) (Nat.le_of_ble_eq_true rfl) (Nat.le_of_ble_eq_true rfl) (As := [.long ((60 : Int64) * ((za σ 2 v1.toNatClampNeg).toInt64)), .long (x3.toInt64), .int v2]) (rest := []) rfl rfl (Nat.le_of_ble_eq_true rfl) (fun x4 => ?_)
    exact gg_lretr (pc := 35) hR dX7_denseOf_35
def fX7_binDigest_6 (v3 : Int32) (σ : zS) : Nat → Int64 → Int32 → Option (Int64)
  | 0, _, _ => none
  | n + 1, v4, v6 =>
    if 3 ≤ v6 then (some v4) else
    (zy1 (fX7_binOf v3 v6 σ) (fun x1 =>
    zv (((31 : Int64) * v4) + (x1.toInt64)) (fun (x2 : Int64) =>
    fX7_binDigest_6 v3 σ n x2 (v6 + 1))))
def fX7_binDigest (v1 : Int64) (v3 : Int32) (σ : zS) : Option (Int64) :=
    zy1 (fX7_binDigest_6 v3 σ 500 v1 0) (fun (x1 : Int64) =>
    zy1 (fX7_denseOf v3 0 σ) (fun x2 =>
    zv (((31 : Int64) * x1) + x2) (fun (x3 : Int64) =>
    zy1 (fX7_denseOf v3 1 σ) (fun x4 =>
    some (((31 : Int64) * x3) + x4)))))
set_option maxHeartbeats 4000000 in
set_option maxRecDepth 100000 in
theorem lX7_binDigest_6 {C : zK} {A : Nat → Nat} {cA : Nat → ClassId} (hC : zOK C (wM A cA) cX7_binDigest RX7 7 3 64) {v3 : Int32} {σ : zS} : ∀ (n : Nat) (v4 : Int64) (v6 : Int32), zG C (wM A cA) 7 (fun q => zW C (wM A cA) 7 35 [(0, .ref (A 0)), (3, .int v3), (4, .long q)] [] σ) (fX7_binDigest_6 v3 σ n v4 v6) 6 [(0, .ref (A 0)), (3, .int v3), (4, .long v4), (6, .int v6)] [] σ := by
  intro n
  induction n with
  | zero => intro v4 v6; exact gg_none (o := none)
  | succ n ih =>
    intro v4 v6
    rw [fX7_binDigest_6]
    refine gg_iload (pc := 6) hC dX7_binDigest_6 3 rfl ?_
    refine gg_iconst (pc := 8) hC dX7_binDigest_8 (x := 3) rfl ?_
    refine gg_icmp_ge (pc := 9) hC dX7_binDigest_9 (tgt := 35) rfl (fun _ => ?_) (fun _ => ?_)
    · exact gg_y (fun h => zW_lv [0, 1, 2] rfl h)
    · refine gg_ldc2 (pc := 12) hC dX7_binDigest_12 qX7_311 ?_
      refine gg_lload (pc := 15) hC dX7_binDigest_15 2 rfl ?_
      refine gg_lmul (pc := 17) hC dX7_binDigest_17 ?_
      refine gg_aload_n (pc := 18) hC dX7_binDigest_18 (i := 0) rfl 0 rfl ?_
      refine gg_iload_n (pc := 19) hC dX7_binDigest_19 (i := 3) rfl 1 rfl ?_
      refine gg_iload (pc := 20) hC dX7_binDigest_20 3 rfl ?_
      refine gg_callVIr (pc := 22) hC dX7_binDigest_22 vX7_122 (fun _ h => mX7_binOf h) (Nat.le_of_ble_eq_true rfl) (Nat.le_of_ble_eq_true rfl) (As := [.int v3, .int v6]) (rest := [.long ((31 : Int64) * v4)]) rfl rfl (Nat.le_of_ble_eq_true rfl) 0 7 pM_0 rfl (fun x1 => ?_)
      refine gg_i2l (pc := 25) hC dX7_binDigest_25 ?_
      refine gg_ladd (pc := 26) hC dX7_binDigest_26 ?_
      refine gg_zvl (fun x2 => ?_)
      refine gg_lstore (pc := 27) hC dX7_binDigest_27 (Nat.le_of_ble_eq_true rfl) (lv' := [(4, .long x2), (0, .ref (A 0)), (3, .int v3), (6, .int v6)]) rfl ?_
      refine gg_iinc (pc := 29) hC dX7_binDigest_29 (y := 0) (j := 3) rfl (z := 1) rfl (Nat.le_of_ble_eq_true rfl) (lv' := [(6, .int (v6 + 1)), (4, .long x2), (0, .ref (A 0)), (3, .int v3)]) rfl ?_
      refine gg_goto (pc := 32) hC dX7_binDigest_32 (tgt := 6) rfl ?_
      exact gg_lv [2, 3, 1, 0] rfl (ih _ _)
set_option maxHeartbeats 4000000 in
set_option maxRecDepth 100000 in
theorem mX7_binDigest {l : Launch} {D : va_G} {A : Nat → Nat} {cA : Nat → ClassId} {v1 : Int64} {v3 : Int32}  {σ : zS} {r : Int64} (h : fX7_binDigest v1 v3 σ = some r) : zML l D (wM A cA) yX7_binDigest (zws yX7_binDigest cX7_binDigest 7 (some .long)) 3 64 [.ref (A 0), .long v1, .int v3] σ (r, σ) := by
  refine zm_Lr (lv := [(0, .ref (A 0)), (1, .long v1), (3, .int v3)]) rfl sM_ok (Nat.le_of_ble_eq_true rfl) rfl (fun C _ _ hC hR => ?_) h
  unfold fX7_binDigest
  refine gg_lload_n (pc := 0) hC dX7_binDigest_0 (i := 1) rfl 1 rfl ?_
  refine gg_lstore (pc := 1) hC dX7_binDigest_1 (Nat.le_of_ble_eq_true rfl) (lv' := [(4, .long v1), (0, .ref (A 0)), (1, .long v1), (3, .int v3)]) rfl ?_
  refine gg_iconst (pc := 3) hC dX7_binDigest_3 (x := 0) rfl ?_
  refine gg_istore (pc := 4) hC dX7_binDigest_4 (Nat.le_of_ble_eq_true rfl) (lv' := [(6, .int 0), (4, .long v1), (0, .ref (A 0)), (1, .long v1), (3, .int v3)]) rfl ?_
  refine gg_join1 (E' := (fun q => zW C (wM A cA) 7 35 [(0, .ref (A 0)), (3, .int v3), (4, .long q)] [] σ)) (gg_lv [2, 4, 1, 0] rfl (lX7_binDigest_6 hC  500 _ _)) (fun x1 => ?_)
  show zG C (wM A cA) 7 _ _ 35 [(0, .ref (A 0)), (3, .int v3), (4, .long x1)] [] σ
  refine gg_ldc2 (pc := 35) hC dX7_binDigest_35 qX7_311 ?_
  refine gg_lload (pc := 38) hC dX7_binDigest_38 2 rfl ?_
  refine gg_lmul (pc := 40) hC dX7_binDigest_40 ?_
  refine gg_aload_n (pc := 41) hC dX7_binDigest_41 (i := 0) rfl 0 rfl ?_
  refine gg_iload_n (pc := 42) hC dX7_binDigest_42 (i := 3) rfl 1 rfl ?_
  refine gg_iconst (pc := 43) hC dX7_binDigest_43 (x := 0) rfl ?_
  refine gg_callVLr (pc := 44) hC dX7_binDigest_44 vX7_136 (fun _ h => mX7_denseOf h) (Nat.le_of_ble_eq_true rfl) (Nat.le_of_ble_eq_true rfl) (As := [.int v3, .int 0]) (rest := [.long ((31 : Int64) * x1)]) rfl rfl (Nat.le_of_ble_eq_true rfl) 0 7 pM_0 rfl (fun x2 => ?_)
  refine gg_ladd (pc := 47) hC dX7_binDigest_47 ?_
  refine gg_zvl (fun x3 => ?_)
  refine gg_lstore (pc := 48) hC dX7_binDigest_48 (Nat.le_of_ble_eq_true rfl) (lv' := [(4, .long x3), (0, .ref (A 0)), (3, .int v3)]) rfl ?_
  refine gg_ldc2 (pc := 50) hC dX7_binDigest_50 qX7_311 ?_
  refine gg_lload (pc := 53) hC dX7_binDigest_53 0 rfl ?_
  refine gg_lmul (pc := 55) hC dX7_binDigest_55 ?_
  refine gg_aload_n (pc := 56) hC dX7_binDigest_56 (i := 0) rfl 1 rfl ?_
  refine gg_iload_n (pc := 57) hC dX7_binDigest_57 (i := 3) rfl 2 rfl ?_
  refine gg_iconst (pc := 58) hC dX7_binDigest_58 (x := 1) rfl ?_
  refine gg_callVLr (pc := 59) hC dX7_binDigest_59 vX7_136 (fun _ h => mX7_denseOf h) (Nat.le_of_ble_eq_true rfl) (Nat.le_of_ble_eq_true rfl) (As := [.int v3, .int 1]) (rest := [.long ((31 : Int64) * x3)]) rfl rfl (Nat.le_of_ble_eq_true rfl) 0 7 pM_0 rfl (fun x4 => ?_)
  refine gg_ladd (pc := 62) hC dX7_binDigest_62 ?_
  exact gg_lretr (pc := 63) hR dX7_binDigest_63
def fX7_hasItem (v1 : Int32) (v2 : Int32) (σ : zS) : Option (Int32) :=
    zg (zq v1 4) (zy1 (fX7_in v2 0 ((za σ 12 v1.toNatClampNeg) - 1) σ) (fun x1 =>
    zg (zz x1) (some x1)))
set_option maxHeartbeats 4000000 in
set_option maxRecDepth 100000 in
theorem mX7_hasItem {l : Launch} {D : va_G} {A : Nat → Nat} {cA : Nat → ClassId} {v1 : Int32} {v2 : Int32}  {σ : zS} {r : Int32} (h : fX7_hasItem v1 v2 σ = some r) : zMI l D (wM A cA) yX7_hasItem (zws yX7_hasItem cX7_hasItem 3 (some .boolean)) 1 22 [.ref (A 0), .int v1, .int v2] σ (r, σ) := by
  refine zm_Zr (lv := [(0, .ref (A 0)), (1, .int v1), (2, .int v2)]) rfl sM_ok (Nat.le_of_ble_eq_true rfl) rfl (fun C _ _ hC hR => ?_) h
  unfold fX7_hasItem
  refine gg_iload_n (pc := 0) hC dX7_hasItem_0 (i := 2) rfl 2 rfl ?_
  refine gg_iconst (pc := 1) hC dX7_hasItem_1 (x := 0) rfl ?_
  refine gg_aload_n (pc := 2) hC dX7_hasItem_2 (i := 0) rfl 0 rfl ?_
  refine gg_get (pc := 3) hC dX7_hasItem_3 fX7_54 0 pM_0 (v := .ref (A 15)) rfl ?_
  refine gg_iload_n (pc := 6) hC dX7_hasItem_6 (i := 1) rfl 1 rfl ?_
  refine gg_iald (pc := 7) hC dX7_hasItem_7 15 0 pM_15 rfl ?_
  refine gg_iconst (pc := 8) hC dX7_hasItem_8 (x := 1) rfl ?_
  refine gg_isub (pc := 9) hC dX7_hasItem_9 ?_
  refine gg_callSIr (pc := 10) hC dX7_hasItem_10 cX7_85 (fun _ h => mX7_in h) (Nat.le_of_ble_eq_true rfl) (Nat.le_of_ble_eq_true rfl) (As := [.int v2, .int 0, .int ((za σ 12 v1.toNatClampNeg) - 1)]) (rest := []) rfl rfl (Nat.le_of_ble_eq_true rfl) (fun x1 => ?_)
  exact gg_zretgr (pc := 13) hR dX7_hasItem_13
def fX7_isSheet (v0 : Int32) (σ : zS) : Option (Int32) :=
    zy1 (fX7_in v0 0 3 σ) (fun x1 =>
    zg (zz x1) (some x1))
set_option maxHeartbeats 4000000 in
set_option maxRecDepth 100000 in
theorem mX7_isSheet {l : Launch} {D : va_G} {A : Nat → Nat} {cA : Nat → ClassId} {v0 : Int32}  {σ : zS} {r : Int32} (h : fX7_isSheet v0 σ = some r) : zMI l D (wM A cA) yX7_isSheet (zws yX7_isSheet cX7_isSheet 1 (some .boolean)) 1 22 [.int v0] σ (r, σ) := by
  refine zm_Zr (lv := [(0, .int v0)]) rfl sM_ok (Nat.le_of_ble_eq_true rfl) rfl (fun C _ _ hC hR => ?_) h
  unfold fX7_isSheet
  refine gg_iload_n (pc := 0) hC dX7_isSheet_0 (i := 0) rfl 0 rfl ?_
  refine gg_iconst (pc := 1) hC dX7_isSheet_1 (x := 0) rfl ?_
  refine gg_iconst (pc := 2) hC dX7_isSheet_2 (x := 3) rfl ?_
  refine gg_callSIr (pc := 3) hC dX7_isSheet_3 cX7_85 (fun _ h => mX7_in h) (Nat.le_of_ble_eq_true rfl) (Nat.le_of_ble_eq_true rfl) (As := [.int v0, .int 0, .int 3]) (rest := []) rfl rfl (Nat.le_of_ble_eq_true rfl) (fun x1 => ?_)
  exact gg_zretgr (pc := 6) hR dX7_isSheet_6
def fX7_meets (v1 : Int32) (σ : zS) : Option (Int32 × zS) :=
    zv (wi σ 5 v1) (fun (s1 : zS) =>
    some (((-10 : Int32) - v1), s1))
set_option maxHeartbeats 4000000 in
set_option maxRecDepth 100000 in
theorem mX7_meets {l : Launch} {D : va_G} {A : Nat → Nat} {cA : Nat → ClassId} {v1 : Int32}  {σ : zS} {r : Int32 × zS} (h : fX7_meets v1 σ = some r) : zMI l D (wM A cA) yX7_meets (zws yX7_meets cX7_meets 2 (some .int)) 0 0 [.ref (A 0), .int v1] σ r := by
  refine zm_I (lv := [(0, .ref (A 0)), (1, .int v1)]) rfl sM_ok (Nat.le_of_ble_eq_true rfl) rfl (fun C _ _ hC hR => ?_) h
  unfold fX7_meets
  refine gg_aload_n (pc := 0) hC dX7_meets_0 (i := 0) rfl 0 rfl ?_
  refine gg_iload_n (pc := 1) hC dX7_meets_1 (i := 1) rfl 1 rfl ?_
  refine gg_put (pc := 2) hC dX7_meets_2 fX7_278 tX7_2 0 pM_0 rfl rfl rfl (Nat.le_of_ble_eq_true rfl) sM_0_32 ?_
  refine gg_zvs (fun s1 => ?_)
  refine gg_bipush (pc := 5) hC dX7_meets_5 (x := -10) rfl ?_
  refine gg_iload_n (pc := 7) hC dX7_meets_7 (i := 1) rfl 1 rfl ?_
  refine gg_isub (pc := 8) hC dX7_meets_8 ?_
  exact gg_iret (pc := 9) hR dX7_meets_9
def fX7_blank (v1 : Int32) (v2 : Int32) (σ : zS) : Option (Int32 × zS) :=
    zy1 (fX7_isSheet v1 σ) (fun x1 =>
    if x1 = 0 then (some ((-2 : Int32), σ)) else
    (zg (zq v1 4) (zy1 (if (za σ 11 v1.toNatClampNeg) = (-1 : Int32) then (some 1) else
    (zg (zq v1 4) (if 2 ≤ (za σ 11 v1.toNatClampNeg) then (zy1 (fX7_hasItem v1 v2 σ) (fun x2 =>
    if x2 = 0 then (some 2) else
    (some 0))) else
    (some 3)))) (fun (x3 : Int32) =>
    if x3 ≤ 0 then (zg (zq ((40 * v1) + v2) 160) (zv (wa σ 13 ((40 * v1) + v2).toNatClampNeg (vp_nar .boolean 1)) (fun (s4 : zS) =>
    some (1, s4)))) else
    (zy2 (fX7_meets x3 σ) (fun x5 s6 =>
    some (x5, s6)))))))
set_option maxHeartbeats 4000000 in
set_option maxRecDepth 100000 in
theorem mX7_blank {l : Launch} {D : va_G} {A : Nat → Nat} {cA : Nat → ClassId} {v1 : Int32} {v2 : Int32}  {σ : zS} {r : Int32 × zS} (h : fX7_blank v1 v2 σ = some r) : zMI l D (wM A cA) yX7_blank (zws yX7_blank cX7_blank 4 (some .int)) 2 44 [.ref (A 0), .int v1, .int v2] σ r := by
  refine zm_I (lv := [(0, .ref (A 0)), (1, .int v1), (2, .int v2)]) rfl sM_ok (Nat.le_of_ble_eq_true rfl) rfl (fun C _ _ hC hR => ?_) h
  unfold fX7_blank
  refine gg_iload_n (pc := 0) hC dX7_blank_0 (i := 1) rfl 1 rfl ?_
  refine gg_callSIr (pc := 1) hC dX7_blank_1 cX7_281 (fun _ h => mX7_isSheet h) (Nat.le_of_ble_eq_true rfl) (Nat.le_of_ble_eq_true rfl) (As := [.int v1]) (rest := []) rfl rfl (Nat.le_of_ble_eq_true rfl) (fun x1 => ?_)
  refine gg_if_ne (pc := 4) hC dX7_blank_4 (tgt := 10) rfl (fun _ => ?_) (fun _ => ?_)
  · refine gg_bipush (pc := 7) hC dX7_blank_7 (x := -2) rfl ?_
    exact gg_iret (pc := 9) hR dX7_blank_9
  · refine gg_aload_n (pc := 10) hC dX7_blank_10 (i := 0) rfl 0 rfl ?_
    refine gg_get (pc := 11) hC dX7_blank_11 fX7_51 0 pM_0 (v := .ref (A 14)) rfl ?_
    refine gg_iload_n (pc := 14) hC dX7_blank_14 (i := 1) rfl 1 rfl ?_
    refine gg_iald (pc := 15) hC dX7_blank_15 14 0 pM_14 rfl ?_
    refine gg_iconst (pc := 16) hC dX7_blank_16 (x := -1) rfl ?_
    refine gg_join1 (E' := (fun q => zW C (wM A cA) 4 52 [(0, .ref (A 0)), (1, .int v1), (2, .int v2)] [.int q] σ)) ?_ (fun x3 => ?_)
    · refine gg_icmp_ne (pc := 17) hC dX7_blank_17 (tgt := 24) rfl (fun _ => ?_) (fun _ => ?_)
      · refine gg_iconst (pc := 20) hC dX7_blank_20 (x := 1) rfl ?_
        refine gg_goto (pc := 21) hC dX7_blank_21 (tgt := 52) rfl ?_
        exact gg_y (fun h => zW_lv [0, 1, 2] rfl h)
      · refine gg_aload_n (pc := 24) hC dX7_blank_24 (i := 0) rfl 0 rfl ?_
        refine gg_get (pc := 25) hC dX7_blank_25 fX7_51 0 pM_0 (v := .ref (A 14)) rfl ?_
        refine gg_iload_n (pc := 28) hC dX7_blank_28 (i := 1) rfl 1 rfl ?_
        refine gg_iald (pc := 29) hC dX7_blank_29 14 0 pM_14 rfl ?_
        refine gg_iconst (pc := 30) hC dX7_blank_30 (x := 2) rfl ?_
        refine gg_icmp_ge (pc := 31) hC dX7_blank_31 (tgt := 38) rfl (fun _ => ?_) (fun _ => ?_)
        · refine gg_aload_n (pc := 38) hC dX7_blank_38 (i := 0) rfl 0 rfl ?_
          refine gg_iload_n (pc := 39) hC dX7_blank_39 (i := 1) rfl 1 rfl ?_
          refine gg_iload_n (pc := 40) hC dX7_blank_40 (i := 2) rfl 2 rfl ?_
          refine gg_callVIr (pc := 41) hC dX7_blank_41 vX7_287 (fun _ h => mX7_hasItem h) (Nat.le_of_ble_eq_true rfl) (Nat.le_of_ble_eq_true rfl) (As := [.int v1, .int v2]) (rest := []) rfl rfl (Nat.le_of_ble_eq_true rfl) 0 7 pM_0 rfl (fun x2 => ?_)
          refine gg_if_eq (pc := 44) hC dX7_blank_44 (tgt := 51) rfl (fun _ => ?_) (fun _ => ?_)
          · refine gg_iconst (pc := 51) hC dX7_blank_51 (x := 2) rfl ?_
            exact gg_y (fun h => zW_lv [0, 1, 2] rfl h)
          · refine gg_iconst (pc := 47) hC dX7_blank_47 (x := 0) rfl ?_
            refine gg_goto (pc := 48) hC dX7_blank_48 (tgt := 52) rfl ?_
            exact gg_y (fun h => zW_lv [0, 1, 2] rfl h)
        · refine gg_iconst (pc := 34) hC dX7_blank_34 (x := 3) rfl ?_
          refine gg_goto (pc := 35) hC dX7_blank_35 (tgt := 52) rfl ?_
          exact gg_y (fun h => zW_lv [0, 1, 2] rfl h)
    · show zG C (wM A cA) 4 _ _ 52 [(0, .ref (A 0)), (1, .int v1), (2, .int v2)] [.int x3] σ
      refine gg_istore_n (pc := 52) hC dX7_blank_52 (i := 3) rfl (Nat.le_of_ble_eq_true rfl) (lv' := [(3, .int x3), (0, .ref (A 0)), (1, .int v1), (2, .int v2)]) rfl ?_
      refine gg_iload_n (pc := 53) hC dX7_blank_53 (i := 3) rfl 0 rfl ?_
      refine gg_if_le (pc := 54) hC dX7_blank_54 (tgt := 63) rfl (fun _ => ?_) (fun _ => ?_)
      · refine gg_aload_n (pc := 63) hC dX7_blank_63 (i := 0) rfl 1 rfl ?_
        refine gg_get (pc := 64) hC dX7_blank_64 fX7_64 0 pM_0 (v := .ref (A 18)) rfl ?_
        refine gg_bipush (pc := 67) hC dX7_blank_67 (x := 40) rfl ?_
        refine gg_iload_n (pc := 69) hC dX7_blank_69 (i := 1) rfl 2 rfl ?_
        refine gg_imul (pc := 70) hC dX7_blank_70 ?_
        refine gg_iload_n (pc := 71) hC dX7_blank_71 (i := 2) rfl 3 rfl ?_
        refine gg_iadd (pc := 72) hC dX7_blank_72 ?_
        refine gg_iconst (pc := 73) hC dX7_blank_73 (x := 1) rfl ?_
        refine gg_zast (pc := 74) hC dX7_blank_74 18 2 pM_18 rfl sM_18 ?_
        refine gg_zvs (fun s4 => ?_)
        refine gg_iconst (pc := 75) hC dX7_blank_75 (x := 1) rfl ?_
        exact gg_iret (pc := 76) hR dX7_blank_76
      · refine gg_aload_n (pc := 57) hC dX7_blank_57 (i := 0) rfl 1 rfl ?_
        refine gg_iload_n (pc := 58) hC dX7_blank_58 (i := 3) rfl 0 rfl ?_
        refine gg_callVI (pc := 59) hC dX7_blank_59 vX7_284 (fun _ h => mX7_meets h) (Nat.le_of_ble_eq_true rfl) (Nat.le_of_ble_eq_true rfl) (As := [.int x3]) (rest := []) rfl rfl (Nat.le_of_ble_eq_true rfl) 0 7 pM_0 rfl (fun x5 s6 => ?_)
        exact gg_iret (pc := 62) hR dX7_blank_62
def fX7_codeOf (v1 : Int32) (σ : zS) : Option (Int32) :=
    zg (zq v1 60) (some (za σ 3 v1.toNatClampNeg))
set_option maxHeartbeats 4000000 in
set_option maxRecDepth 100000 in
theorem mX7_codeOf {l : Launch} {D : va_G} {A : Nat → Nat} {cA : Nat → ClassId} {v1 : Int32}  {σ : zS} {r : Int32} (h : fX7_codeOf v1 σ = some r) : zMI l D (wM A cA) yX7_codeOf (zws yX7_codeOf cX7_codeOf 2 (some .int)) 0 0 [.ref (A 0), .int v1] σ (r, σ) := by
  refine zm_Ir (lv := [(0, .ref (A 0)), (1, .int v1)]) rfl sM_ok (Nat.le_of_ble_eq_true rfl) rfl (fun C _ _ hC hR => ?_) h
  unfold fX7_codeOf
  refine gg_aload_n (pc := 0) hC dX7_codeOf_0 (i := 0) rfl 0 rfl ?_
  refine gg_get (pc := 1) hC dX7_codeOf_1 fX7_20 0 pM_0 (v := .ref (A 4)) rfl ?_
  refine gg_iload_n (pc := 4) hC dX7_codeOf_4 (i := 1) rfl 1 rfl ?_
  refine gg_iald (pc := 5) hC dX7_codeOf_5 4 0 pM_4 rfl ?_
  exact gg_iretr (pc := 6) hR dX7_codeOf_6
def fX7_boundOf (v1 : Int32) (v2 : Int32) (σ : zS) : Option (Int32) :=
    zg (zq v1 32) (zy1 (fX7_codeOf ((za σ 0 v1.toNatClampNeg) - (za σ 0 v1.toNatClampNeg) / 60 * 60) σ) (fun x1 =>
    zg (zq v1 32) (if v2 = 0 then (zy1 (fX7_firstOf x1 σ) (fun x2 =>
    some ((((za σ 0 v1.toNatClampNeg) / 60) * 60) + x2))) else
    (zy1 (fX7_firstOf (x1 + 1) σ) (fun x3 =>
    some ((((za σ 0 v1.toNatClampNeg) / 60) * 60) + (x3 - 1)))))))
set_option maxHeartbeats 4000000 in
set_option maxRecDepth 100000 in
theorem mX7_boundOf {l : Launch} {D : va_G} {A : Nat → Nat} {cA : Nat → ClassId} {v1 : Int32} {v2 : Int32}  {σ : zS} {r : Int32} (h : fX7_boundOf v1 v2 σ = some r) : zMI l D (wM A cA) yX7_boundOf (zws yX7_boundOf cX7_boundOf 4 (some .int)) 1 21 [.ref (A 0), .int v1, .int v2] σ (r, σ) := by
  refine zm_Ir (lv := [(0, .ref (A 0)), (1, .int v1), (2, .int v2)]) rfl sM_ok (Nat.le_of_ble_eq_true rfl) rfl (fun C _ _ hC hR => ?_) h
  unfold fX7_boundOf
  refine gg_aload_n (pc := 0) hC dX7_boundOf_0 (i := 0) rfl 0 rfl ?_
  refine gg_aload_n (pc := 1) hC dX7_boundOf_1 (i := 0) rfl 0 rfl ?_
  refine gg_get (pc := 2) hC dX7_boundOf_2 fX7_7 0 pM_0 (v := .ref (A 1)) rfl ?_
  refine gg_iload_n (pc := 5) hC dX7_boundOf_5 (i := 1) rfl 1 rfl ?_
  refine gg_iald (pc := 6) hC dX7_boundOf_6 1 0 pM_1 rfl ?_
  refine gg_bipush (pc := 7) hC dX7_boundOf_7 (x := 60) rfl ?_
  refine gg_irem (pc := 9) hC dX7_boundOf_9 (by decide) ?_
  refine gg_callVIr (pc := 10) hC dX7_boundOf_10 vX7_113 (fun _ h => mX7_codeOf h) (Nat.le_of_ble_eq_true rfl) (Nat.le_of_ble_eq_true rfl) (As := [.int ((za σ 0 v1.toNatClampNeg) - (za σ 0 v1.toNatClampNeg) / 60 * 60)]) (rest := []) rfl rfl (Nat.le_of_ble_eq_true rfl) 0 7 pM_0 rfl (fun x1 => ?_)
  refine gg_istore_n (pc := 13) hC dX7_boundOf_13 (i := 3) rfl (Nat.le_of_ble_eq_true rfl) (lv' := [(3, .int x1), (0, .ref (A 0)), (1, .int v1), (2, .int v2)]) rfl ?_
  refine gg_aload_n (pc := 14) hC dX7_boundOf_14 (i := 0) rfl 1 rfl ?_
  refine gg_get (pc := 15) hC dX7_boundOf_15 fX7_7 0 pM_0 (v := .ref (A 1)) rfl ?_
  refine gg_iload_n (pc := 18) hC dX7_boundOf_18 (i := 1) rfl 2 rfl ?_
  refine gg_iald (pc := 19) hC dX7_boundOf_19 1 0 pM_1 rfl ?_
  refine gg_bipush (pc := 20) hC dX7_boundOf_20 (x := 60) rfl ?_
  refine gg_idiv (pc := 22) hC dX7_boundOf_22 (by decide) ?_
  refine gg_bipush (pc := 23) hC dX7_boundOf_23 (x := 60) rfl ?_
  refine gg_imul (pc := 25) hC dX7_boundOf_25 ?_
  refine gg_iload_n (pc := 26) hC dX7_boundOf_26 (i := 2) rfl 3 rfl ?_
  refine gg_if_eq (pc := 27) hC dX7_boundOf_27 (tgt := 42) rfl (fun _ => ?_) (fun _ => ?_)
  · refine gg_aload_n (pc := 42) hC dX7_boundOf_42 (i := 0) rfl 1 rfl ?_
    refine gg_iload_n (pc := 43) hC dX7_boundOf_43 (i := 3) rfl 0 rfl ?_
    refine gg_callVIr (pc := 44) hC dX7_boundOf_44 vX7_100 (fun _ h => mX7_firstOf h) (Nat.le_of_ble_eq_true rfl) (Nat.le_of_ble_eq_true rfl) (As := [.int x1]) (rest := [.int (((za σ 0 v1.toNatClampNeg) / 60) * 60)]) rfl rfl (Nat.le_of_ble_eq_true rfl) 0 7 pM_0 rfl (fun x2 => ?_)
    refine gg_iadd (pc := 47) hC dX7_boundOf_47 ?_
    exact gg_iretr (pc := 48) hR dX7_boundOf_48
  · refine gg_aload_n (pc := 30) hC dX7_boundOf_30 (i := 0) rfl 1 rfl ?_
    refine gg_iload_n (pc := 31) hC dX7_boundOf_31 (i := 3) rfl 0 rfl ?_
    refine gg_iconst (pc := 32) hC dX7_boundOf_32 (x := 1) rfl ?_
    refine gg_iadd (pc := 33) hC dX7_boundOf_33 ?_
    refine gg_callVIr (pc := 34) hC dX7_boundOf_34 vX7_100 (fun _ h => mX7_firstOf h) (Nat.le_of_ble_eq_true rfl) (Nat.le_of_ble_eq_true rfl) (As := [.int (x1 + 1)]) (rest := [.int (((za σ 0 v1.toNatClampNeg) / 60) * 60)]) rfl rfl (Nat.le_of_ble_eq_true rfl) 0 7 pM_0 rfl (fun x3 => ?_)
    refine gg_iconst (pc := 37) hC dX7_boundOf_37 (x := 1) rfl ?_
    refine gg_isub (pc := 38) hC dX7_boundOf_38 ?_
    refine gg_goto (pc := 39) hC dX7_boundOf_39 (tgt := 47) rfl ?_
    refine gg_iadd (pc := 47) hC dX7_boundOf_47 ?_
    exact gg_iretr (pc := 48) hR dX7_boundOf_48
def fX7_findsGaps_31 (v1 : Int32) (v2 : Int64) : Nat → Int32 → zS → Option (Int32 × zS)
  | 0, _, _ => none
  | n + 1, v4, σ =>
    if v4 ≤ 0 then (some (v4, σ)) else
    (zg (zq (v4 - 1) 32) (if (zj σ 1 (v4 - 1).toNatClampNeg) ≤ v2 then (some (v4, σ)) else
    (zg (zq (v4 - 1) 32) (zg (zq v4 32) (zv (wj σ 1 v4.toNatClampNeg (zj σ 1 (v4 - 1).toNatClampNeg)) (fun (s1 : zS) =>
    fX7_findsGaps_31 v1 v2 n (v4 + (-1)) s1))))))
def fX7_findsGaps_2 : Nat → Int32 → zS → Option (zS)
  | 0, _, _ => none
  | n + 1, v1, σ =>
    if (zi σ 0) ≤ (v1 + 1) then (some σ) else
    (zg (zq (v1 + 1) 32) (zg (zq v1 32) (zv ((zj σ 0 (v1 + 1).toNatClampNeg) - (zj σ 0 v1.toNatClampNeg)) (fun (x1 : Int64) =>
    zy2 (fX7_findsGaps_31 v1 x1 500 v1 σ) (fun (x2 : Int32) (s3 : zS) =>
    zg (zq x2 32) (zv (wj s3 1 x2.toNatClampNeg x1) (fun (s4 : zS) =>
    fX7_findsGaps_2  n (v1 + 1) s4)))))))
def fX7_findsGaps  (σ : zS) : Option (zS) :=
    zy1 (fX7_findsGaps_2  500 0 σ) (fun (s1 : zS) =>
    if (zi s1 2) ≤ 0 then (if (zi s1 0) ≤ 1 then (zv (wl s1 1 (0 : Int64)) (fun (s2 : zS) =>
    some s2)) else
    (zg (zq (((zi s1 0) - 2) / 2) 32) (zv (wl s1 1 (zj s1 1 (((zi s1 0) - 2) / 2).toNatClampNeg)) (fun (s3 : zS) =>
    some s3)))) else
    (zv (wl s1 1 (((zi s1 2).toInt64) * (zl s1 0))) (fun (s4 : zS) =>
    some s4)))
set_option maxHeartbeats 4000000 in
set_option maxRecDepth 100000 in
theorem lX7_findsGaps_31 {C : zK} {A : Nat → Nat} {cA : Nat → ClassId} (hC : zOK C (wM A cA) cX7_findsGaps RX7 5 0 0) {v1 : Int32} {v2 : Int64} : ∀ (n : Nat) (v4 : Int32) (σ : zS), zG C (wM A cA) 5 (fun q => zW C (wM A cA) 5 72 [(0, .ref (A 0)), (1, .int v1), (2, .long v2), (4, .int q.1)] [] q.2) (fX7_findsGaps_31 v1 v2 n v4 σ) 31 [(0, .ref (A 0)), (1, .int v1), (2, .long v2), (4, .int v4)] [] σ := by
  intro n
  induction n with
  | zero => intro v4 σ; exact gg_none (o := none)
  | succ n ih =>
    intro v4 σ
    rw [fX7_findsGaps_31]
    refine gg_iload (pc := 31) hC dX7_findsGaps_31 3 rfl ?_
    refine gg_if_le (pc := 33) hC dX7_findsGaps_33 (tgt := 72) rfl (fun _ => ?_) (fun _ => ?_)
    · exact gg_y (fun h => zW_lv [0, 1, 2, 3] rfl h)
    · refine gg_aload_n (pc := 36) hC dX7_findsGaps_36 (i := 0) rfl 0 rfl ?_
      refine gg_get (pc := 37) hC dX7_findsGaps_37 fX7_42 0 pM_0 (v := .ref (A 11)) rfl ?_
      refine gg_iload (pc := 40) hC dX7_findsGaps_40 3 rfl ?_
      refine gg_iconst (pc := 42) hC dX7_findsGaps_42 (x := 1) rfl ?_
      refine gg_isub (pc := 43) hC dX7_findsGaps_43 ?_
      refine gg_lald (pc := 44) hC dX7_findsGaps_44 11 1 pM_11 rfl ?_
      refine gg_lload_n (pc := 45) hC dX7_findsGaps_45 (i := 2) rfl 2 rfl ?_
      refine gg_lcmp_le (pc := 46) hC dX7_findsGaps_46 dX7_findsGaps_47 (tgt := 72) rfl (fun _ => ?_) (fun _ => ?_)
      · exact gg_y (fun h => zW_lv [0, 1, 2, 3] rfl h)
      · refine gg_aload_n (pc := 50) hC dX7_findsGaps_50 (i := 0) rfl 0 rfl ?_
        refine gg_get (pc := 51) hC dX7_findsGaps_51 fX7_42 0 pM_0 (v := .ref (A 11)) rfl ?_
        refine gg_iload (pc := 54) hC dX7_findsGaps_54 3 rfl ?_
        refine gg_aload_n (pc := 56) hC dX7_findsGaps_56 (i := 0) rfl 0 rfl ?_
        refine gg_get (pc := 57) hC dX7_findsGaps_57 fX7_42 0 pM_0 (v := .ref (A 11)) rfl ?_
        refine gg_iload (pc := 60) hC dX7_findsGaps_60 3 rfl ?_
        refine gg_iconst (pc := 62) hC dX7_findsGaps_62 (x := 1) rfl ?_
        refine gg_isub (pc := 63) hC dX7_findsGaps_63 ?_
        refine gg_lald (pc := 64) hC dX7_findsGaps_64 11 1 pM_11 rfl ?_
        refine gg_last (pc := 65) hC dX7_findsGaps_65 11 1 pM_11 rfl sM_11 ?_
        refine gg_zvs (fun s1 => ?_)
        refine gg_iinc (pc := 66) hC dX7_findsGaps_66 (y := 0) (j := 3) rfl (z := -1) rfl (Nat.le_of_ble_eq_true rfl) (lv' := [(4, .int (v4 + (-1))), (0, .ref (A 0)), (1, .int v1), (2, .long v2)]) rfl ?_
        refine gg_goto (pc := 69) hC dX7_findsGaps_69 (tgt := 31) rfl ?_
        exact gg_lv [1, 2, 3, 0] rfl (ih _ _)
set_option maxHeartbeats 4000000 in
set_option maxRecDepth 100000 in
theorem lX7_findsGaps_2 {C : zK} {A : Nat → Nat} {cA : Nat → ClassId} (hC : zOK C (wM A cA) cX7_findsGaps RX7 5 0 0) : ∀ (n : Nat) (v1 : Int32) (σ : zS), zG C (wM A cA) 5 (fun q => zW C (wM A cA) 5 86 [(0, .ref (A 0))] [] q) (fX7_findsGaps_2  n v1 σ) 2 [(0, .ref (A 0)), (1, .int v1)] [] σ := by
  intro n
  induction n with
  | zero => intro v1 σ; exact gg_none (o := none)
  | succ n ih =>
    intro v1 σ
    rw [fX7_findsGaps_2]
    refine gg_iload_n (pc := 2) hC dX7_findsGaps_2 (i := 1) rfl 1 rfl ?_
    refine gg_iconst (pc := 3) hC dX7_findsGaps_3 (x := 1) rfl ?_
    refine gg_iadd (pc := 4) hC dX7_findsGaps_4 ?_
    refine gg_aload_n (pc := 5) hC dX7_findsGaps_5 (i := 0) rfl 0 rfl ?_
    refine gg_get (pc := 6) hC dX7_findsGaps_6 fX7_81 0 pM_0 (v := .int (zi σ 0)) rfl ?_
    refine gg_icmp_ge (pc := 9) hC dX7_findsGaps_9 (tgt := 86) rfl (fun _ => ?_) (fun _ => ?_)
    · exact gg_y (fun h => zW_lv [0] rfl h)
    · refine gg_aload_n (pc := 12) hC dX7_findsGaps_12 (i := 0) rfl 0 rfl ?_
      refine gg_get (pc := 13) hC dX7_findsGaps_13 fX7_29 0 pM_0 (v := .ref (A 7)) rfl ?_
      refine gg_iload_n (pc := 16) hC dX7_findsGaps_16 (i := 1) rfl 1 rfl ?_
      refine gg_iconst (pc := 17) hC dX7_findsGaps_17 (x := 1) rfl ?_
      refine gg_iadd (pc := 18) hC dX7_findsGaps_18 ?_
      refine gg_lald (pc := 19) hC dX7_findsGaps_19 7 1 pM_7 rfl ?_
      refine gg_aload_n (pc := 20) hC dX7_findsGaps_20 (i := 0) rfl 0 rfl ?_
      refine gg_get (pc := 21) hC dX7_findsGaps_21 fX7_29 0 pM_0 (v := .ref (A 7)) rfl ?_
      refine gg_iload_n (pc := 24) hC dX7_findsGaps_24 (i := 1) rfl 1 rfl ?_
      refine gg_lald (pc := 25) hC dX7_findsGaps_25 7 1 pM_7 rfl ?_
      refine gg_lsub (pc := 26) hC dX7_findsGaps_26 ?_
      refine gg_zvl (fun x1 => ?_)
      refine gg_lstore_n (pc := 27) hC dX7_findsGaps_27 (i := 2) rfl (Nat.le_of_ble_eq_true rfl) (lv' := [(2, .long x1), (0, .ref (A 0)), (1, .int v1)]) rfl ?_
      refine gg_iload_n (pc := 28) hC dX7_findsGaps_28 (i := 1) rfl 2 rfl ?_
      refine gg_istore (pc := 29) hC dX7_findsGaps_29 (Nat.le_of_ble_eq_true rfl) (lv' := [(4, .int v1), (2, .long x1), (0, .ref (A 0)), (1, .int v1)]) rfl ?_
      refine gg_join2 (E' := (fun q => zW C (wM A cA) 5 72 [(0, .ref (A 0)), (1, .int v1), (2, .long x1), (4, .int q.1)] [] q.2)) (gg_lv [2, 3, 1, 0] rfl (lX7_findsGaps_31 hC  500 _ _)) (fun x2 s3 => ?_)
      show zG C (wM A cA) 5 _ _ 72 [(0, .ref (A 0)), (1, .int v1), (2, .long x1), (4, .int x2)] [] s3
      refine gg_aload_n (pc := 72) hC dX7_findsGaps_72 (i := 0) rfl 0 rfl ?_
      refine gg_get (pc := 73) hC dX7_findsGaps_73 fX7_42 0 pM_0 (v := .ref (A 11)) rfl ?_
      refine gg_iload (pc := 76) hC dX7_findsGaps_76 3 rfl ?_
      refine gg_lload_n (pc := 78) hC dX7_findsGaps_78 (i := 2) rfl 2 rfl ?_
      refine gg_last (pc := 79) hC dX7_findsGaps_79 11 1 pM_11 rfl sM_11 ?_
      refine gg_zvs (fun s4 => ?_)
      refine gg_iinc (pc := 80) hC dX7_findsGaps_80 (y := 0) (j := 1) rfl (z := 1) rfl (Nat.le_of_ble_eq_true rfl) (lv' := [(1, .int (v1 + 1)), (0, .ref (A 0)), (2, .long x1), (4, .int x2)]) rfl ?_
      refine gg_goto (pc := 83) hC dX7_findsGaps_83 (tgt := 2) rfl ?_
      exact gg_lv [1, 0] rfl (ih _ _)
set_option maxHeartbeats 4000000 in
set_option maxRecDepth 100000 in
theorem mX7_findsGaps {l : Launch} {D : va_G} {A : Nat → Nat} {cA : Nat → ClassId}   {σ : zS} {r : zS} (h : fX7_findsGaps  σ = some r) : zMV l D (wM A cA) yX7_findsGaps (zws yX7_findsGaps cX7_findsGaps 5 none) 0 0 [.ref (A 0)] σ r := by
  refine zm_V (lv := [(0, .ref (A 0))]) rfl sM_ok (Nat.le_of_ble_eq_true rfl) rfl (fun C _ _ hC hR => ?_) h
  unfold fX7_findsGaps
  refine gg_iconst (pc := 0) hC dX7_findsGaps_0 (x := 0) rfl ?_
  refine gg_istore_n (pc := 1) hC dX7_findsGaps_1 (i := 1) rfl (Nat.le_of_ble_eq_true rfl) (lv' := [(1, .int 0), (0, .ref (A 0))]) rfl ?_
  refine gg_join1 (E' := (fun q => zW C (wM A cA) 5 86 [(0, .ref (A 0))] [] q)) (gg_lv [1, 0] rfl (lX7_findsGaps_2 hC  500 _ _)) (fun s1 => ?_)
  show zG C (wM A cA) 5 _ _ 86 [(0, .ref (A 0))] [] s1
  refine gg_aload_n (pc := 86) hC dX7_findsGaps_86 (i := 0) rfl 0 rfl ?_
  refine gg_aload_n (pc := 87) hC dX7_findsGaps_87 (i := 0) rfl 0 rfl ?_
  refine gg_get (pc := 88) hC dX7_findsGaps_88 fX7_153 0 pM_0 (v := .int (zi s1 2)) rfl ?_
  refine gg_if_le (pc := 91) hC dX7_findsGaps_91 (tgt := 107) rfl (fun _ => ?_) (fun _ => ?_)
  · refine gg_aload_n (pc := 107) hC dX7_findsGaps_107 (i := 0) rfl 0 rfl ?_
    refine gg_get (pc := 108) hC dX7_findsGaps_108 fX7_81 0 pM_0 (v := .int (zi s1 0)) rfl ?_
    refine gg_iconst (pc := 111) hC dX7_findsGaps_111 (x := 1) rfl ?_
    refine gg_icmp_le (pc := 112) hC dX7_findsGaps_112 (tgt := 131) rfl (fun _ => ?_) (fun _ => ?_)
    · refine gg_lconst (pc := 131) hC dX7_findsGaps_131 (x := 0) rfl ?_
      refine gg_put (pc := 132) hC dX7_findsGaps_132 fX7_165 tX7_2 0 pM_0 rfl rfl rfl (Nat.le_of_ble_eq_true rfl) sM_0_16 ?_
      refine gg_zvs (fun s2 => ?_)
      exact gg_vret (pc := 135) hR dX7_findsGaps_135
    · refine gg_aload_n (pc := 115) hC dX7_findsGaps_115 (i := 0) rfl 0 rfl ?_
      refine gg_get (pc := 116) hC dX7_findsGaps_116 fX7_42 0 pM_0 (v := .ref (A 11)) rfl ?_
      refine gg_aload_n (pc := 119) hC dX7_findsGaps_119 (i := 0) rfl 0 rfl ?_
      refine gg_get (pc := 120) hC dX7_findsGaps_120 fX7_81 0 pM_0 (v := .int (zi s1 0)) rfl ?_
      refine gg_iconst (pc := 123) hC dX7_findsGaps_123 (x := 2) rfl ?_
      refine gg_isub (pc := 124) hC dX7_findsGaps_124 ?_
      refine gg_iconst (pc := 125) hC dX7_findsGaps_125 (x := 2) rfl ?_
      refine gg_idiv (pc := 126) hC dX7_findsGaps_126 (by decide) ?_
      refine gg_lald (pc := 127) hC dX7_findsGaps_127 11 1 pM_11 rfl ?_
      refine gg_goto (pc := 128) hC dX7_findsGaps_128 (tgt := 132) rfl ?_
      refine gg_put (pc := 132) hC dX7_findsGaps_132 fX7_165 tX7_2 0 pM_0 rfl rfl rfl (Nat.le_of_ble_eq_true rfl) sM_0_16 ?_
      refine gg_zvs (fun s3 => ?_)
      exact gg_vret (pc := 135) hR dX7_findsGaps_135
  · refine gg_aload_n (pc := 94) hC dX7_findsGaps_94 (i := 0) rfl 0 rfl ?_
    refine gg_get (pc := 95) hC dX7_findsGaps_95 fX7_153 0 pM_0 (v := .int (zi s1 2)) rfl ?_
    refine gg_i2l (pc := 98) hC dX7_findsGaps_98 ?_
    refine gg_aload_n (pc := 99) hC dX7_findsGaps_99 (i := 0) rfl 0 rfl ?_
    refine gg_get (pc := 100) hC dX7_findsGaps_100 fX7_161 0 pM_0 (v := .long (zl s1 0)) rfl ?_
    refine gg_lmul (pc := 103) hC dX7_findsGaps_103 ?_
    refine gg_goto (pc := 104) hC dX7_findsGaps_104 (tgt := 132) rfl ?_
    refine gg_put (pc := 132) hC dX7_findsGaps_132 fX7_165 tX7_2 0 pM_0 rfl rfl rfl (Nat.le_of_ble_eq_true rfl) sM_0_16 ?_
    refine gg_zvs (fun s4 => ?_)
    exact gg_vret (pc := 135) hR dX7_findsGaps_135
def fX7_isTyped (v1 : Int32) (v2 : Int32) (v3 : Int32) (v4 : Int32) (v5 : Int32) (σ : zS) : Option (Int32) :=
    if (zi σ 1) = 5 then (zg (zq 0 5) (if (za σ 5 (0 : Int32).toNatClampNeg) = v1 then (zg (zq 1 5) (if (za σ 5 (1 : Int32).toNatClampNeg) = v2 then (zg (zq 2 5) (if (za σ 5 (2 : Int32).toNatClampNeg) = v3 then (zg (zq 3 5) (if (za σ 5 (3 : Int32).toNatClampNeg) = v4 then (zg (zq 4 5) (if (za σ 5 (4 : Int32).toNatClampNeg) = v5 then (some 1) else
    (some 0))) else
    (some 0))) else
    (some 0))) else
    (some 0))) else
    (some 0))) else
    (some 0)
set_option maxHeartbeats 4000000 in
set_option maxRecDepth 100000 in
theorem mX7_isTyped {l : Launch} {D : va_G} {A : Nat → Nat} {cA : Nat → ClassId} {v1 : Int32} {v2 : Int32} {v3 : Int32} {v4 : Int32} {v5 : Int32}  {σ : zS} {r : Int32} (h : fX7_isTyped v1 v2 v3 v4 v5 σ = some r) : zMI l D (wM A cA) yX7_isTyped (zws yX7_isTyped cX7_isTyped 6 (some .boolean)) 0 0 [.ref (A 0), .int v1, .int v2, .int v3, .int v4, .int v5] σ (r, σ) := by
  refine zm_Zr (lv := [(0, .ref (A 0)), (1, .int v1), (2, .int v2), (3, .int v3), (4, .int v4), (5, .int v5)]) rfl sM_ok (Nat.le_of_ble_eq_true rfl) rfl (fun C _ _ hC hR => ?_) h
  unfold fX7_isTyped
  refine gg_aload_n (pc := 0) hC dX7_isTyped_0 (i := 0) rfl 0 rfl ?_
  refine gg_get (pc := 1) hC dX7_isTyped_1 fX7_143 0 pM_0 (v := .int (zi σ 1)) rfl ?_
  refine gg_iconst (pc := 4) hC dX7_isTyped_4 (x := 5) rfl ?_
  refine gg_icmp_ne (pc := 5) hC dX7_isTyped_5 (tgt := 64) rfl (fun _ => ?_) (fun _ => ?_)
  · refine gg_aload_n (pc := 8) hC dX7_isTyped_8 (i := 0) rfl 0 rfl ?_
    refine gg_get (pc := 9) hC dX7_isTyped_9 fX7_26 0 pM_0 (v := .ref (A 6)) rfl ?_
    refine gg_iconst (pc := 12) hC dX7_isTyped_12 (x := 0) rfl ?_
    refine gg_iald (pc := 13) hC dX7_isTyped_13 6 0 pM_6 rfl ?_
    refine gg_iload_n (pc := 14) hC dX7_isTyped_14 (i := 1) rfl 1 rfl ?_
    refine gg_icmp_ne (pc := 15) hC dX7_isTyped_15 (tgt := 64) rfl (fun _ => ?_) (fun _ => ?_)
    · refine gg_aload_n (pc := 18) hC dX7_isTyped_18 (i := 0) rfl 0 rfl ?_
      refine gg_get (pc := 19) hC dX7_isTyped_19 fX7_26 0 pM_0 (v := .ref (A 6)) rfl ?_
      refine gg_iconst (pc := 22) hC dX7_isTyped_22 (x := 1) rfl ?_
      refine gg_iald (pc := 23) hC dX7_isTyped_23 6 0 pM_6 rfl ?_
      refine gg_iload_n (pc := 24) hC dX7_isTyped_24 (i := 2) rfl 2 rfl ?_
      refine gg_icmp_ne (pc := 25) hC dX7_isTyped_25 (tgt := 64) rfl (fun _ => ?_) (fun _ => ?_)
      · refine gg_aload_n (pc := 28) hC dX7_isTyped_28 (i := 0) rfl 0 rfl ?_
        refine gg_get (pc := 29) hC dX7_isTyped_29 fX7_26 0 pM_0 (v := .ref (A 6)) rfl ?_
        refine gg_iconst (pc := 32) hC dX7_isTyped_32 (x := 2) rfl ?_
        refine gg_iald (pc := 33) hC dX7_isTyped_33 6 0 pM_6 rfl ?_
        refine gg_iload_n (pc := 34) hC dX7_isTyped_34 (i := 3) rfl 3 rfl ?_
        refine gg_icmp_ne (pc := 35) hC dX7_isTyped_35 (tgt := 64) rfl (fun _ => ?_) (fun _ => ?_)
        · refine gg_aload_n (pc := 38) hC dX7_isTyped_38 (i := 0) rfl 0 rfl ?_
          refine gg_get (pc := 39) hC dX7_isTyped_39 fX7_26 0 pM_0 (v := .ref (A 6)) rfl ?_
          refine gg_iconst (pc := 42) hC dX7_isTyped_42 (x := 3) rfl ?_
          refine gg_iald (pc := 43) hC dX7_isTyped_43 6 0 pM_6 rfl ?_
          refine gg_iload (pc := 44) hC dX7_isTyped_44 4 rfl ?_
          refine gg_icmp_ne (pc := 46) hC dX7_isTyped_46 (tgt := 64) rfl (fun _ => ?_) (fun _ => ?_)
          · refine gg_aload_n (pc := 49) hC dX7_isTyped_49 (i := 0) rfl 0 rfl ?_
            refine gg_get (pc := 50) hC dX7_isTyped_50 fX7_26 0 pM_0 (v := .ref (A 6)) rfl ?_
            refine gg_iconst (pc := 53) hC dX7_isTyped_53 (x := 4) rfl ?_
            refine gg_iald (pc := 54) hC dX7_isTyped_54 6 0 pM_6 rfl ?_
            refine gg_iload (pc := 55) hC dX7_isTyped_55 5 rfl ?_
            refine gg_icmp_ne (pc := 57) hC dX7_isTyped_57 (tgt := 64) rfl (fun _ => ?_) (fun _ => ?_)
            · refine gg_iconst (pc := 60) hC dX7_isTyped_60 (x := 1) rfl ?_
              refine gg_goto (pc := 61) hC dX7_isTyped_61 (tgt := 65) rfl ?_
              exact gg_zretr (pc := 65) hR dX7_isTyped_65 rfl
            · refine gg_iconst (pc := 64) hC dX7_isTyped_64 (x := 0) rfl ?_
              exact gg_zretr (pc := 65) hR dX7_isTyped_65 rfl
          · refine gg_iconst (pc := 64) hC dX7_isTyped_64 (x := 0) rfl ?_
            exact gg_zretr (pc := 65) hR dX7_isTyped_65 rfl
        · refine gg_iconst (pc := 64) hC dX7_isTyped_64 (x := 0) rfl ?_
          exact gg_zretr (pc := 65) hR dX7_isTyped_65 rfl
      · refine gg_iconst (pc := 64) hC dX7_isTyped_64 (x := 0) rfl ?_
        exact gg_zretr (pc := 65) hR dX7_isTyped_65 rfl
    · refine gg_iconst (pc := 64) hC dX7_isTyped_64 (x := 0) rfl ?_
      exact gg_zretr (pc := 65) hR dX7_isTyped_65 rfl
  · refine gg_iconst (pc := 64) hC dX7_isTyped_64 (x := 0) rfl ?_
    exact gg_zretr (pc := 65) hR dX7_isTyped_65 rfl
def fX7_modeNow  (σ : zS) : Option (Int32) :=
    zy1 (fX7_isTyped 100 101 110 115 101 σ) (fun x1 =>
    if x1 = 0 then (zy1 (fX7_isTyped 107 110 111 119 110 σ) (fun x2 =>
    if x2 = 0 then (some 0) else
    (some 2))) else
    (some 1))
set_option maxHeartbeats 4000000 in
set_option maxRecDepth 100000 in
theorem mX7_modeNow {l : Launch} {D : va_G} {A : Nat → Nat} {cA : Nat → ClassId}   {σ : zS} {r : Int32} (h : fX7_modeNow  σ = some r) : zMI l D (wM A cA) yX7_modeNow (zws yX7_modeNow cX7_modeNow 1 (some .int)) 1 25 [.ref (A 0)] σ (r, σ) := by
  refine zm_Ir (lv := [(0, .ref (A 0))]) rfl sM_ok (Nat.le_of_ble_eq_true rfl) rfl (fun C _ _ hC hR => ?_) h
  unfold fX7_modeNow
  refine gg_aload_n (pc := 0) hC dX7_modeNow_0 (i := 0) rfl 0 rfl ?_
  refine gg_bipush (pc := 1) hC dX7_modeNow_1 (x := 100) rfl ?_
  refine gg_bipush (pc := 3) hC dX7_modeNow_3 (x := 101) rfl ?_
  refine gg_bipush (pc := 5) hC dX7_modeNow_5 (x := 110) rfl ?_
  refine gg_bipush (pc := 7) hC dX7_modeNow_7 (x := 115) rfl ?_
  refine gg_bipush (pc := 9) hC dX7_modeNow_9 (x := 101) rfl ?_
  refine gg_callVIr (pc := 11) hC dX7_modeNow_11 vX7_146 (fun _ h => mX7_isTyped h) (Nat.le_of_ble_eq_true rfl) (Nat.le_of_ble_eq_true rfl) (As := [.int 100, .int 101, .int 110, .int 115, .int 101]) (rest := []) rfl rfl (Nat.le_of_ble_eq_true rfl) 0 7 pM_0 rfl (fun x1 => ?_)
  refine gg_if_eq (pc := 14) hC dX7_modeNow_14 (tgt := 21) rfl (fun _ => ?_) (fun _ => ?_)
  · refine gg_aload_n (pc := 21) hC dX7_modeNow_21 (i := 0) rfl 0 rfl ?_
    refine gg_bipush (pc := 22) hC dX7_modeNow_22 (x := 107) rfl ?_
    refine gg_bipush (pc := 24) hC dX7_modeNow_24 (x := 110) rfl ?_
    refine gg_bipush (pc := 26) hC dX7_modeNow_26 (x := 111) rfl ?_
    refine gg_bipush (pc := 28) hC dX7_modeNow_28 (x := 119) rfl ?_
    refine gg_bipush (pc := 30) hC dX7_modeNow_30 (x := 110) rfl ?_
    refine gg_callVIr (pc := 32) hC dX7_modeNow_32 vX7_146 (fun _ h => mX7_isTyped h) (Nat.le_of_ble_eq_true rfl) (Nat.le_of_ble_eq_true rfl) (As := [.int 107, .int 110, .int 111, .int 119, .int 110]) (rest := []) rfl rfl (Nat.le_of_ble_eq_true rfl) 0 7 pM_0 rfl (fun x2 => ?_)
    refine gg_if_eq (pc := 35) hC dX7_modeNow_35 (tgt := 42) rfl (fun _ => ?_) (fun _ => ?_)
    · refine gg_iconst (pc := 42) hC dX7_modeNow_42 (x := 0) rfl ?_
      exact gg_iretr (pc := 43) hR dX7_modeNow_43
    · refine gg_iconst (pc := 38) hC dX7_modeNow_38 (x := 2) rfl ?_
      refine gg_goto (pc := 39) hC dX7_modeNow_39 (tgt := 43) rfl ?_
      exact gg_iretr (pc := 43) hR dX7_modeNow_43
  · refine gg_iconst (pc := 17) hC dX7_modeNow_17 (x := 1) rfl ?_
    refine gg_goto (pc := 18) hC dX7_modeNow_18 (tgt := 43) rfl ?_
    exact gg_iretr (pc := 43) hR dX7_modeNow_43
def fX7_partBy_5 (v1 : Int32) (v2 : Int32) (σ : zS) : Nat → Int32 → Int32 → Option (Int32)
  | 0, _, _ => none
  | n + 1, v3, v4 =>
    if v2 ≤ v4 then (some v3) else
    (zg (zq v4 12) (zv (v3 + (za σ 2 v4.toNatClampNeg)) (fun (x1 : Int32) =>
    fX7_partBy_5 v1 v2 σ n x1 (v4 + 1))))
def fX7_partBy (v1 : Int32) (v2 : Int32) (σ : zS) : Option (Int64) :=
    zy1 (fX7_partBy_5 v1 v2 σ 500 0 0) (fun (x1 : Int32) =>
    if v1 = 2 then (zy1 (fX7_firstOf v2 σ) (fun x2 =>
    zy1 (fX7_firstOf (v2 + 1) σ) (fun x3 =>
    some ((x2 + x3).toInt64)))) else
    (if v1 = 1 then (zg (zq v2 12) (some (((60 : Int64) * (x1.toInt64)) + ((30 : Int64) * ((za σ 2 v2.toNatClampNeg).toInt64))))) else
    (some (((60 : Int64) * (v2.toInt64)) + (30 : Int64)))))
set_option maxHeartbeats 4000000 in
set_option maxRecDepth 100000 in
theorem lX7_partBy_5 {C : zK} {A : Nat → Nat} {cA : Nat → ClassId} (hC : zOK C (wM A cA) cX7_partBy RX7 5 1 21) {v1 : Int32} {v2 : Int32} {σ : zS} : ∀ (n : Nat) (v3 : Int32) (v4 : Int32), zG C (wM A cA) 5 (fun q => zW C (wM A cA) 5 27 [(0, .ref (A 0)), (1, .int v1), (2, .int v2), (3, .int q)] [] σ) (fX7_partBy_5 v1 v2 σ n v3 v4) 5 [(0, .ref (A 0)), (1, .int v1), (2, .int v2), (3, .int v3), (4, .int v4)] [] σ := by
  intro n
  induction n with
  | zero => intro v3 v4; exact gg_none (o := none)
  | succ n ih =>
    intro v3 v4
    rw [fX7_partBy_5]
    refine gg_iload (pc := 5) hC dX7_partBy_5 4 rfl ?_
    refine gg_iload_n (pc := 7) hC dX7_partBy_7 (i := 2) rfl 2 rfl ?_
    refine gg_icmp_ge (pc := 8) hC dX7_partBy_8 (tgt := 27) rfl (fun _ => ?_) (fun _ => ?_)
    · exact gg_y (fun h => zW_lv [0, 1, 2, 3] rfl h)
    · refine gg_iload_n (pc := 11) hC dX7_partBy_11 (i := 3) rfl 3 rfl ?_
      refine gg_aload_n (pc := 12) hC dX7_partBy_12 (i := 0) rfl 0 rfl ?_
      refine gg_get (pc := 13) hC dX7_partBy_13 fX7_17 0 pM_0 (v := .ref (A 3)) rfl ?_
      refine gg_iload (pc := 16) hC dX7_partBy_16 4 rfl ?_
      refine gg_iald (pc := 18) hC dX7_partBy_18 3 0 pM_3 rfl ?_
      refine gg_iadd (pc := 19) hC dX7_partBy_19 ?_
      refine gg_zvi (fun x1 => ?_)
      refine gg_istore_n (pc := 20) hC dX7_partBy_20 (i := 3) rfl (Nat.le_of_ble_eq_true rfl) (lv' := [(3, .int x1), (0, .ref (A 0)), (1, .int v1), (2, .int v2), (4, .int v4)]) rfl ?_
      refine gg_iinc (pc := 21) hC dX7_partBy_21 (y := 0) (j := 4) rfl (z := 1) rfl (Nat.le_of_ble_eq_true rfl) (lv' := [(4, .int (v4 + 1)), (3, .int x1), (0, .ref (A 0)), (1, .int v1), (2, .int v2)]) rfl ?_
      refine gg_goto (pc := 24) hC dX7_partBy_24 (tgt := 5) rfl ?_
      exact gg_lv [2, 3, 4, 1, 0] rfl (ih _ _)
set_option maxHeartbeats 4000000 in
set_option maxRecDepth 100000 in
theorem mX7_partBy {l : Launch} {D : va_G} {A : Nat → Nat} {cA : Nat → ClassId} {v1 : Int32} {v2 : Int32}  {σ : zS} {r : Int64} (h : fX7_partBy v1 v2 σ = some r) : zML l D (wM A cA) yX7_partBy (zws yX7_partBy cX7_partBy 5 (some .long)) 1 21 [.ref (A 0), .int v1, .int v2] σ (r, σ) := by
  refine zm_Lr (lv := [(0, .ref (A 0)), (1, .int v1), (2, .int v2)]) rfl sM_ok (Nat.le_of_ble_eq_true rfl) rfl (fun C _ _ hC hR => ?_) h
  unfold fX7_partBy
  refine gg_iconst (pc := 0) hC dX7_partBy_0 (x := 0) rfl ?_
  refine gg_istore_n (pc := 1) hC dX7_partBy_1 (i := 3) rfl (Nat.le_of_ble_eq_true rfl) (lv' := [(3, .int 0), (0, .ref (A 0)), (1, .int v1), (2, .int v2)]) rfl ?_
  refine gg_iconst (pc := 2) hC dX7_partBy_2 (x := 0) rfl ?_
  refine gg_istore (pc := 3) hC dX7_partBy_3 (Nat.le_of_ble_eq_true rfl) (lv' := [(4, .int 0), (3, .int 0), (0, .ref (A 0)), (1, .int v1), (2, .int v2)]) rfl ?_
  refine gg_join1 (E' := (fun q => zW C (wM A cA) 5 27 [(0, .ref (A 0)), (1, .int v1), (2, .int v2), (3, .int q)] [] σ)) (gg_lv [2, 3, 4, 1, 0] rfl (lX7_partBy_5 hC  500 _ _)) (fun x1 => ?_)
  show zG C (wM A cA) 5 _ _ 27 [(0, .ref (A 0)), (1, .int v1), (2, .int v2), (3, .int x1)] [] σ
  refine gg_iload_n (pc := 27) hC dX7_partBy_27 (i := 1) rfl 1 rfl ?_
  refine gg_iconst (pc := 28) hC dX7_partBy_28 (x := 2) rfl ?_
  refine gg_icmp_ne (pc := 29) hC dX7_partBy_29 (tgt := 49) rfl (fun _ => ?_) (fun _ => ?_)
  · refine gg_aload_n (pc := 32) hC dX7_partBy_32 (i := 0) rfl 0 rfl ?_
    refine gg_iload_n (pc := 33) hC dX7_partBy_33 (i := 2) rfl 2 rfl ?_
    refine gg_callVIr (pc := 34) hC dX7_partBy_34 vX7_100 (fun _ h => mX7_firstOf h) (Nat.le_of_ble_eq_true rfl) (Nat.le_of_ble_eq_true rfl) (As := [.int v2]) (rest := []) rfl rfl (Nat.le_of_ble_eq_true rfl) 0 7 pM_0 rfl (fun x2 => ?_)
    refine gg_aload_n (pc := 37) hC dX7_partBy_37 (i := 0) rfl 0 rfl ?_
    refine gg_iload_n (pc := 38) hC dX7_partBy_38 (i := 2) rfl 2 rfl ?_
    refine gg_iconst (pc := 39) hC dX7_partBy_39 (x := 1) rfl ?_
    refine gg_iadd (pc := 40) hC dX7_partBy_40 ?_
    refine gg_callVIr (pc := 41) hC dX7_partBy_41 vX7_100 (fun _ h => mX7_firstOf h) (Nat.le_of_ble_eq_true rfl) (Nat.le_of_ble_eq_true rfl) (As := [.int (v2 + 1)]) (rest := [.int x2]) rfl rfl (Nat.le_of_ble_eq_true rfl) 0 7 pM_0 rfl (fun x3 => ?_)
    refine gg_iadd (pc := 44) hC dX7_partBy_44 ?_
    refine gg_i2l (pc := 45) hC dX7_partBy_45 ?_
    refine gg_goto (pc := 46) hC dX7_partBy_46 (tgt := 85) rfl ?_
    exact gg_lretr (pc := 85) hR dX7_partBy_85
  · refine gg_iload_n (pc := 49) hC dX7_partBy_49 (i := 1) rfl 1 rfl ?_
    refine gg_iconst (pc := 50) hC dX7_partBy_50 (x := 1) rfl ?_
    refine gg_icmp_ne (pc := 51) hC dX7_partBy_51 (tgt := 75) rfl (fun _ => ?_) (fun _ => ?_)
    · refine gg_ldc2 (pc := 54) hC dX7_partBy_54 qX7_130 ?_
      refine gg_iload_n (pc := 57) hC dX7_partBy_57 (i := 3) rfl 3 rfl ?_
      refine gg_i2l (pc := 58) hC dX7_partBy_58 ?_
      refine gg_lmul (pc := 59) hC dX7_partBy_59 ?_
      refine gg_ldc2 (pc := 60) hC dX7_partBy_60 qX7_159 ?_
      refine gg_aload_n (pc := 63) hC dX7_partBy_63 (i := 0) rfl 0 rfl ?_
      refine gg_get (pc := 64) hC dX7_partBy_64 fX7_17 0 pM_0 (v := .ref (A 3)) rfl ?_
      refine gg_iload_n (pc := 67) hC dX7_partBy_67 (i := 2) rfl 2 rfl ?_
      refine gg_iald (pc := 68) hC dX7_partBy_68 3 0 pM_3 rfl ?_
      refine gg_i2l (pc := 69) hC dX7_partBy_69 ?_
      refine gg_lmul (pc := 70) hC dX7_partBy_70 ?_
      refine gg_ladd (pc := 71) hC dX7_partBy_71 ?_
      refine gg_goto (pc := 72) hC dX7_partBy_72 (tgt := 85) rfl ?_
      exact gg_lretr (pc := 85) hR dX7_partBy_85
    · refine gg_ldc2 (pc := 75) hC dX7_partBy_75 qX7_130 ?_
      refine gg_iload_n (pc := 78) hC dX7_partBy_78 (i := 2) rfl 2 rfl ?_
      refine gg_i2l (pc := 79) hC dX7_partBy_79 ?_
      refine gg_lmul (pc := 80) hC dX7_partBy_80 ?_
      refine gg_ldc2 (pc := 81) hC dX7_partBy_81 qX7_159 ?_
      refine gg_ladd (pc := 84) hC dX7_partBy_84 ?_
      exact gg_lretr (pc := 85) hR dX7_partBy_85

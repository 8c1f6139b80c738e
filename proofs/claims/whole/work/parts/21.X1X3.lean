def fX1_append (v1 : Int32) (v2 : Int32) (σ : zS) : Option (Int32 × zS) :=
    zg (zq (zi σ 8) 8) (zv (wa σ 4 (zi σ 8).toNatClampNeg v1) (fun (s1 : zS) =>
    zg (zq (zi s1 8) 8) (zv (wa s1 5 (zi s1 8).toNatClampNeg v2) (fun (s2 : zS) =>
    zv (wi s2 8 ((zi s2 8) + 1)) (fun (s3 : zS) =>
    some (((zi s3 8) - 1), s3))))))
set_option maxHeartbeats 4000000 in
set_option maxRecDepth 100000 in
theorem mX1_append {l : Launch} {D : va_G} {A : Nat → Nat} {cA : Nat → ClassId} {v1 : Int32} {v2 : Int32}  {σ : zS} {r : Int32 × zS} (h : fX1_append v1 v2 σ = some r) : zMI l D (wX A cA) yX1_append (zws yX1_append cX1_append 3 (some .int)) 0 0 [.ref (A 3), .int v1, .int v2] σ r := by
  refine zm_I (lv := [(0, .ref (A 3)), (1, .int v1), (2, .int v2)]) rfl (sX_ok A) (Nat.le_of_ble_eq_true rfl) rfl (fun C _ _ hC hR => ?_) h
  unfold fX1_append
  refine gg_aload_n (pc := 0) hC dX1_append_0 (i := 0) rfl 0 rfl ?_
  refine gg_get (pc := 1) hC dX1_append_1 fX1_9 3 pX_3 (v := .ref (A 11)) rfl ?_
  refine gg_aload_n (pc := 4) hC dX1_append_4 (i := 0) rfl 0 rfl ?_
  refine gg_get (pc := 5) hC dX1_append_5 fX1_24 3 pX_3 (v := .int (zi σ 8)) rfl ?_
  refine gg_iload_n (pc := 8) hC dX1_append_8 (i := 1) rfl 1 rfl ?_
  refine gg_iast (pc := 9) hC dX1_append_9 11 0 pX_11 rfl sX_11 ?_
  refine gg_zvs (fun s1 => ?_)
  refine gg_aload_n (pc := 10) hC dX1_append_10 (i := 0) rfl 0 rfl ?_
  refine gg_get (pc := 11) hC dX1_append_11 fX1_15 3 pX_3 (v := .ref (A 12)) rfl ?_
  refine gg_aload_n (pc := 14) hC dX1_append_14 (i := 0) rfl 0 rfl ?_
  refine gg_get (pc := 15) hC dX1_append_15 fX1_24 3 pX_3 (v := .int (zi s1 8)) rfl ?_
  refine gg_iload_n (pc := 18) hC dX1_append_18 (i := 2) rfl 2 rfl ?_
  refine gg_iast (pc := 19) hC dX1_append_19 12 0 pX_12 rfl sX_12 ?_
  refine gg_zvs (fun s2 => ?_)
  refine gg_aload_n (pc := 20) hC dX1_append_20 (i := 0) rfl 0 rfl ?_
  refine gg_dup (pc := 21) hC dX1_append_21 rfl ?_
  refine gg_get (pc := 22) hC dX1_append_22 fX1_24 3 pX_3 (v := .int (zi s2 8)) rfl ?_
  refine gg_iconst (pc := 25) hC dX1_append_25 (x := 1) rfl ?_
  refine gg_iadd (pc := 26) hC dX1_append_26 ?_
  refine gg_put (pc := 27) hC dX1_append_27 fX1_24 tX1_2 3 pX_3 rfl rfl rfl (Nat.le_of_ble_eq_true rfl) sX_3_4 ?_
  refine gg_zvs (fun s3 => ?_)
  refine gg_aload_n (pc := 30) hC dX1_append_30 (i := 0) rfl 0 rfl ?_
  refine gg_get (pc := 31) hC dX1_append_31 fX1_24 3 pX_3 (v := .int (zi s3 8)) rfl ?_
  refine gg_iconst (pc := 34) hC dX1_append_34 (x := 1) rfl ?_
  refine gg_isub (pc := 35) hC dX1_append_35 ?_
  exact gg_iret (pc := 36) hR dX1_append_36
def fX1_closesAhead (v1 : Int32) (v2 : Int32) (σ : zS) : Option (Int32) :=
    zg (zq v1 8) (zg (zq v2 8) (if (za σ 7 v1.toNatClampNeg) = (za σ 7 v2.toNatClampNeg) then (zg (zq v1 8) (if (za σ 7 v1.toNatClampNeg) = (-1 : Int32) then (if v2 ≤ v1 then (some 0) else
    (some 1)) else
    (zg (zq v1 8) (zg (zq v2 8) (if (za σ 6 v1.toNatClampNeg) = (za σ 6 v2.toNatClampNeg) then (if v2 ≤ v1 then (some 0) else
    (some 1)) else
    (zg (zq v1 8) (zg (zq v2 8) (if (za σ 6 v2.toNatClampNeg) ≤ (za σ 6 v1.toNatClampNeg) then (some 0) else
    (some 1))))))))) else
    (zg (zq v2 8) (if (za σ 7 v2.toNatClampNeg) = (-1 : Int32) then (some 1) else
    (zg (zq v1 8) (if (za σ 7 v1.toNatClampNeg) = (-1 : Int32) then (some 0) else
    (zg (zq v1 8) (zg (zq v2 8) (if (za σ 7 v2.toNatClampNeg) ≤ (za σ 7 v1.toNatClampNeg) then (some 0) else
    (some 1))))))))))
set_option maxHeartbeats 4000000 in
set_option maxRecDepth 100000 in
theorem mX1_closesAhead {l : Launch} {D : va_G} {A : Nat → Nat} {cA : Nat → ClassId} {v1 : Int32} {v2 : Int32}  {σ : zS} {r : Int32} (h : fX1_closesAhead v1 v2 σ = some r) : zMI l D (wX A cA) yX1_closesAhead (zws yX1_closesAhead cX1_closesAhead 3 (some .boolean)) 0 0 [.ref (A 3), .int v1, .int v2] σ (r, σ) := by
  refine zm_Zr (lv := [(0, .ref (A 3)), (1, .int v1), (2, .int v2)]) rfl (sX_ok A) (Nat.le_of_ble_eq_true rfl) rfl (fun C _ _ hC hR => ?_) h
  unfold fX1_closesAhead
  refine gg_aload_n (pc := 0) hC dX1_closesAhead_0 (i := 0) rfl 0 rfl ?_
  refine gg_get (pc := 1) hC dX1_closesAhead_1 fX1_21 3 pX_3 (v := .ref (A 14)) rfl ?_
  refine gg_iload_n (pc := 4) hC dX1_closesAhead_4 (i := 1) rfl 1 rfl ?_
  refine gg_iald (pc := 5) hC dX1_closesAhead_5 14 0 pX_14 rfl ?_
  refine gg_aload_n (pc := 6) hC dX1_closesAhead_6 (i := 0) rfl 0 rfl ?_
  refine gg_get (pc := 7) hC dX1_closesAhead_7 fX1_21 3 pX_3 (v := .ref (A 14)) rfl ?_
  refine gg_iload_n (pc := 10) hC dX1_closesAhead_10 (i := 2) rfl 2 rfl ?_
  refine gg_iald (pc := 11) hC dX1_closesAhead_11 14 0 pX_14 rfl ?_
  refine gg_icmp_eq (pc := 12) hC dX1_closesAhead_12 (tgt := 56) rfl (fun _ => ?_) (fun _ => ?_)
  · refine gg_aload_n (pc := 56) hC dX1_closesAhead_56 (i := 0) rfl 0 rfl ?_
    refine gg_get (pc := 57) hC dX1_closesAhead_57 fX1_21 3 pX_3 (v := .ref (A 14)) rfl ?_
    refine gg_iload_n (pc := 60) hC dX1_closesAhead_60 (i := 1) rfl 1 rfl ?_
    refine gg_iald (pc := 61) hC dX1_closesAhead_61 14 0 pX_14 rfl ?_
    refine gg_iconst (pc := 62) hC dX1_closesAhead_62 (x := -1) rfl ?_
    refine gg_icmp_eq (pc := 63) hC dX1_closesAhead_63 (tgt := 102) rfl (fun _ => ?_) (fun _ => ?_)
    · refine gg_iload_n (pc := 102) hC dX1_closesAhead_102 (i := 1) rfl 1 rfl ?_
      refine gg_iload_n (pc := 103) hC dX1_closesAhead_103 (i := 2) rfl 2 rfl ?_
      refine gg_icmp_ge (pc := 104) hC dX1_closesAhead_104 (tgt := 111) rfl (fun _ => ?_) (fun _ => ?_)
      · refine gg_iconst (pc := 111) hC dX1_closesAhead_111 (x := 0) rfl ?_
        exact gg_zretr (pc := 112) hR dX1_closesAhead_112 rfl
      · refine gg_iconst (pc := 107) hC dX1_closesAhead_107 (x := 1) rfl ?_
        refine gg_goto (pc := 108) hC dX1_closesAhead_108 (tgt := 112) rfl ?_
        exact gg_zretr (pc := 112) hR dX1_closesAhead_112 rfl
    · refine gg_aload_n (pc := 66) hC dX1_closesAhead_66 (i := 0) rfl 0 rfl ?_
      refine gg_get (pc := 67) hC dX1_closesAhead_67 fX1_18 3 pX_3 (v := .ref (A 13)) rfl ?_
      refine gg_iload_n (pc := 70) hC dX1_closesAhead_70 (i := 1) rfl 1 rfl ?_
      refine gg_iald (pc := 71) hC dX1_closesAhead_71 13 0 pX_13 rfl ?_
      refine gg_aload_n (pc := 72) hC dX1_closesAhead_72 (i := 0) rfl 0 rfl ?_
      refine gg_get (pc := 73) hC dX1_closesAhead_73 fX1_18 3 pX_3 (v := .ref (A 13)) rfl ?_
      refine gg_iload_n (pc := 76) hC dX1_closesAhead_76 (i := 2) rfl 2 rfl ?_
      refine gg_iald (pc := 77) hC dX1_closesAhead_77 13 0 pX_13 rfl ?_
      refine gg_icmp_eq (pc := 78) hC dX1_closesAhead_78 (tgt := 102) rfl (fun _ => ?_) (fun _ => ?_)
      · refine gg_iload_n (pc := 102) hC dX1_closesAhead_102 (i := 1) rfl 1 rfl ?_
        refine gg_iload_n (pc := 103) hC dX1_closesAhead_103 (i := 2) rfl 2 rfl ?_
        refine gg_icmp_ge (pc := 104) hC dX1_closesAhead_104 (tgt := 111) rfl (fun _ => ?_) (fun _ => ?_)
        · refine gg_iconst (pc := 111) hC dX1_closesAhead_111 (x := 0) rfl ?_
          exact gg_zretr (pc := 112) hR dX1_closesAhead_112 rfl
        · refine gg_iconst (pc := 107) hC dX1_closesAhead_107 (x := 1) rfl ?_
          refine gg_goto (pc := 108) hC dX1_closesAhead_108 (tgt := 112) rfl ?_
          exact gg_zretr (pc := 112) hR dX1_closesAhead_112 rfl
      · refine gg_aload_n (pc := 81) hC dX1_closesAhead_81 (i := 0) rfl 0 rfl ?_
        refine gg_get (pc := 82) hC dX1_closesAhead_82 fX1_18 3 pX_3 (v := .ref (A 13)) rfl ?_
        refine gg_iload_n (pc := 85) hC dX1_closesAhead_85 (i := 1) rfl 1 rfl ?_
        refine gg_iald (pc := 86) hC dX1_closesAhead_86 13 0 pX_13 rfl ?_
        refine gg_aload_n (pc := 87) hC dX1_closesAhead_87 (i := 0) rfl 0 rfl ?_
        refine gg_get (pc := 88) hC dX1_closesAhead_88 fX1_18 3 pX_3 (v := .ref (A 13)) rfl ?_
        refine gg_iload_n (pc := 91) hC dX1_closesAhead_91 (i := 2) rfl 2 rfl ?_
        refine gg_iald (pc := 92) hC dX1_closesAhead_92 13 0 pX_13 rfl ?_
        refine gg_icmp_ge (pc := 93) hC dX1_closesAhead_93 (tgt := 100) rfl (fun _ => ?_) (fun _ => ?_)
        · refine gg_iconst (pc := 100) hC dX1_closesAhead_100 (x := 0) rfl ?_
          exact gg_zretr (pc := 101) hR dX1_closesAhead_101 rfl
        · refine gg_iconst (pc := 96) hC dX1_closesAhead_96 (x := 1) rfl ?_
          refine gg_goto (pc := 97) hC dX1_closesAhead_97 (tgt := 101) rfl ?_
          exact gg_zretr (pc := 101) hR dX1_closesAhead_101 rfl
  · refine gg_aload_n (pc := 15) hC dX1_closesAhead_15 (i := 0) rfl 0 rfl ?_
    refine gg_get (pc := 16) hC dX1_closesAhead_16 fX1_21 3 pX_3 (v := .ref (A 14)) rfl ?_
    refine gg_iload_n (pc := 19) hC dX1_closesAhead_19 (i := 2) rfl 2 rfl ?_
    refine gg_iald (pc := 20) hC dX1_closesAhead_20 14 0 pX_14 rfl ?_
    refine gg_iconst (pc := 21) hC dX1_closesAhead_21 (x := -1) rfl ?_
    refine gg_icmp_eq (pc := 22) hC dX1_closesAhead_22 (tgt := 50) rfl (fun _ => ?_) (fun _ => ?_)
    · refine gg_iconst (pc := 50) hC dX1_closesAhead_50 (x := 1) rfl ?_
      refine gg_goto (pc := 51) hC dX1_closesAhead_51 (tgt := 55) rfl ?_
      exact gg_zretr (pc := 55) hR dX1_closesAhead_55 rfl
    · refine gg_aload_n (pc := 25) hC dX1_closesAhead_25 (i := 0) rfl 0 rfl ?_
      refine gg_get (pc := 26) hC dX1_closesAhead_26 fX1_21 3 pX_3 (v := .ref (A 14)) rfl ?_
      refine gg_iload_n (pc := 29) hC dX1_closesAhead_29 (i := 1) rfl 1 rfl ?_
      refine gg_iald (pc := 30) hC dX1_closesAhead_30 14 0 pX_14 rfl ?_
      refine gg_iconst (pc := 31) hC dX1_closesAhead_31 (x := -1) rfl ?_
      refine gg_icmp_eq (pc := 32) hC dX1_closesAhead_32 (tgt := 54) rfl (fun _ => ?_) (fun _ => ?_)
      · refine gg_iconst (pc := 54) hC dX1_closesAhead_54 (x := 0) rfl ?_
        exact gg_zretr (pc := 55) hR dX1_closesAhead_55 rfl
      · refine gg_aload_n (pc := 35) hC dX1_closesAhead_35 (i := 0) rfl 0 rfl ?_
        refine gg_get (pc := 36) hC dX1_closesAhead_36 fX1_21 3 pX_3 (v := .ref (A 14)) rfl ?_
        refine gg_iload_n (pc := 39) hC dX1_closesAhead_39 (i := 1) rfl 1 rfl ?_
        refine gg_iald (pc := 40) hC dX1_closesAhead_40 14 0 pX_14 rfl ?_
        refine gg_aload_n (pc := 41) hC dX1_closesAhead_41 (i := 0) rfl 0 rfl ?_
        refine gg_get (pc := 42) hC dX1_closesAhead_42 fX1_21 3 pX_3 (v := .ref (A 14)) rfl ?_
        refine gg_iload_n (pc := 45) hC dX1_closesAhead_45 (i := 2) rfl 2 rfl ?_
        refine gg_iald (pc := 46) hC dX1_closesAhead_46 14 0 pX_14 rfl ?_
        refine gg_icmp_ge (pc := 47) hC dX1_closesAhead_47 (tgt := 54) rfl (fun _ => ?_) (fun _ => ?_)
        · refine gg_iconst (pc := 54) hC dX1_closesAhead_54 (x := 0) rfl ?_
          exact gg_zretr (pc := 55) hR dX1_closesAhead_55 rfl
        · refine gg_iconst (pc := 50) hC dX1_closesAhead_50 (x := 1) rfl ?_
          refine gg_goto (pc := 51) hC dX1_closesAhead_51 (tgt := 55) rfl ?_
          exact gg_zretr (pc := 55) hR dX1_closesAhead_55 rfl
def fX1_closingAt_15 (v1 : Int32) (v2 : Int32) (σ : zS) : Nat → Int32 → Int32 → Option (Int32)
  | 0, _, _ => none
  | n + 1, v3, v4 =>
    if (zi σ 8) ≤ v4 then (some v3) else
    (zy1 (fX1_closesAhead v4 v2 σ) (fun x1 =>
    zy1 (if x1 = 0 then (some v3) else
    (some (v3 + 1))) (fun (x2 : Int32) =>
    fX1_closingAt_15 v1 v2 σ n x2 (v4 + 1))))
def fX1_closingAt_2 (v1 : Int32) (σ : zS) : Nat → Int32 → Option (Int32)
  | 0, _ => none
  | n + 1, v2 =>
    if (zi σ 8) ≤ v2 then (some (-1 : Int32)) else
    (zy1 (fX1_closingAt_15 v1 v2 σ 500 0 0) (fun (x1 : Int32) =>
    if x1 = v1 then (some v2) else
    (fX1_closingAt_2 v1 σ n (v2 + 1))))
def fX1_closingAt (v1 : Int32) (σ : zS) : Option (Int32) :=
    fX1_closingAt_2 v1 σ 500 0
set_option maxHeartbeats 4000000 in
set_option maxRecDepth 100000 in
theorem lX1_closingAt_15 {C : zK} {A : Nat → Nat} {cA : Nat → ClassId} (hC : zOK C (wX A cA) cX1_closingAt RX1 5 1 22) {v1 : Int32} {v2 : Int32} {σ : zS} : ∀ (n : Nat) (v3 : Int32) (v4 : Int32), zG C (wX A cA) 5 (fun q => zW C (wX A cA) 5 43 [(0, .ref (A 3)), (1, .int v1), (2, .int v2), (3, .int q)] [] σ) (fX1_closingAt_15 v1 v2 σ n v3 v4) 15 [(0, .ref (A 3)), (1, .int v1), (2, .int v2), (3, .int v3), (4, .int v4)] [] σ := by
  intro n
  induction n with
  | zero => intro v3 v4; exact gg_none (o := none)
  | succ n ih =>
    intro v3 v4
    rw [fX1_closingAt_15]
    refine gg_iload (pc := 15) hC dX1_closingAt_15 4 rfl ?_
    refine gg_aload_n (pc := 17) hC dX1_closingAt_17 (i := 0) rfl 0 rfl ?_
    refine gg_get (pc := 18) hC dX1_closingAt_18 fX1_24 3 pX_3 (v := .int (zi σ 8)) rfl ?_
    refine gg_icmp_ge (pc := 21) hC dX1_closingAt_21 (tgt := 43) rfl (fun _ => ?_) (fun _ => ?_)
    · exact gg_y (fun h => zW_lv [0, 1, 2, 3] rfl h)
    · refine gg_aload_n (pc := 24) hC dX1_closingAt_24 (i := 0) rfl 0 rfl ?_
      refine gg_iload (pc := 25) hC dX1_closingAt_25 4 rfl ?_
      refine gg_iload_n (pc := 27) hC dX1_closingAt_27 (i := 2) rfl 2 rfl ?_
      refine gg_callVIr (pc := 28) hC dX1_closingAt_28 vX1_35 (fun _ h => mX1_closesAhead h) (Nat.le_of_ble_eq_true rfl) (Nat.le_of_ble_eq_true rfl) (As := [.int v4, .int v2]) (rest := []) rfl rfl (Nat.le_of_ble_eq_true rfl) 3 1 pX_3 rfl (fun x1 => ?_)
      refine gg_join1 (E' := (fun q => zW C (wX A cA) 5 37 [(0, .ref (A 3)), (1, .int v1), (2, .int v2), (3, .int q), (4, .int v4)] [] σ)) ?_ (fun x2 => ?_)
      · refine gg_if_eq (pc := 31) hC dX1_closingAt_31 (tgt := 37) rfl (fun _ => ?_) (fun _ => ?_)
        · exact gg_y (fun h => zW_lv [0, 1, 2, 3, 4] rfl h)
        · refine gg_iinc (pc := 34) hC dX1_closingAt_34 (y := 0) (j := 3) rfl (z := 1) rfl (Nat.le_of_ble_eq_true rfl) (lv' := [(3, .int (v3 + 1)), (0, .ref (A 3)), (1, .int v1), (2, .int v2), (4, .int v4)]) rfl ?_
          exact gg_y (fun h => zW_lv [1, 2, 3, 0, 4] rfl h)
      · show zG C (wX A cA) 5 _ _ 37 [(0, .ref (A 3)), (1, .int v1), (2, .int v2), (3, .int x2), (4, .int v4)] [] σ
        refine gg_iinc (pc := 37) hC dX1_closingAt_37 (y := 0) (j := 4) rfl (z := 1) rfl (Nat.le_of_ble_eq_true rfl) (lv' := [(4, .int (v4 + 1)), (0, .ref (A 3)), (1, .int v1), (2, .int v2), (3, .int x2)]) rfl ?_
        refine gg_goto (pc := 40) hC dX1_closingAt_40 (tgt := 15) rfl ?_
        exact gg_lv [1, 2, 3, 4, 0] rfl (ih _ _)
set_option maxHeartbeats 4000000 in
set_option maxRecDepth 100000 in
theorem lX1_closingAt_2 {C : zK} {A : Nat → Nat} {cA : Nat → ClassId} (hC : zOK C (wX A cA) cX1_closingAt RX1 5 1 22) {v1 : Int32} {σ : zS} {r : Int32} (hR : zRI C (wX A cA) 5 cX1_closingAt (r, σ)) : ∀ (n : Nat) (v2 : Int32), zG C (wX A cA) 5 (fun v => v = r) (fX1_closingAt_2 v1 σ n v2) 2 [(0, .ref (A 3)), (1, .int v1), (2, .int v2)] [] σ := by
  intro n
  induction n with
  | zero => intro v2; exact gg_none (o := none)
  | succ n ih =>
    intro v2
    rw [fX1_closingAt_2]
    refine gg_iload_n (pc := 2) hC dX1_closingAt_2 (i := 2) rfl 2 rfl ?_
    refine gg_aload_n (pc := 3) hC dX1_closingAt_3 (i := 0) rfl 0 rfl ?_
    refine gg_get (pc := 4) hC dX1_closingAt_4 fX1_24 3 pX_3 (v := .int (zi σ 8)) rfl ?_
    refine gg_icmp_ge (pc := 7) hC dX1_closingAt_7 (tgt := 56) rfl (fun _ => ?_) (fun _ => ?_)
    · refine gg_iconst (pc := 56) hC dX1_closingAt_56 (x := -1) rfl ?_
      exact gg_iretr (pc := 57) hR dX1_closingAt_57
    · refine gg_iconst (pc := 10) hC dX1_closingAt_10 (x := 0) rfl ?_
      refine gg_istore_n (pc := 11) hC dX1_closingAt_11 (i := 3) rfl (Nat.le_of_ble_eq_true rfl) (lv' := [(3, .int 0), (0, .ref (A 3)), (1, .int v1), (2, .int v2)]) rfl ?_
      refine gg_iconst (pc := 12) hC dX1_closingAt_12 (x := 0) rfl ?_
      refine gg_istore (pc := 13) hC dX1_closingAt_13 (Nat.le_of_ble_eq_true rfl) (lv' := [(4, .int 0), (3, .int 0), (0, .ref (A 3)), (1, .int v1), (2, .int v2)]) rfl ?_
      refine gg_join1 (E' := (fun q => zW C (wX A cA) 5 43 [(0, .ref (A 3)), (1, .int v1), (2, .int v2), (3, .int q)] [] σ)) (gg_lv [2, 3, 4, 1, 0] rfl (lX1_closingAt_15 hC  500 _ _)) (fun x1 => ?_)
      show zG C (wX A cA) 5 _ _ 43 [(0, .ref (A 3)), (1, .int v1), (2, .int v2), (3, .int x1)] [] σ
      refine gg_iload_n (pc := 43) hC dX1_closingAt_43 (i := 3) rfl 3 rfl ?_
      refine gg_iload_n (pc := 44) hC dX1_closingAt_44 (i := 1) rfl 1 rfl ?_
      refine gg_icmp_ne (pc := 45) hC dX1_closingAt_45 (tgt := 50) rfl (fun _ => ?_) (fun _ => ?_)
      · refine gg_iload_n (pc := 48) hC dX1_closingAt_48 (i := 2) rfl 2 rfl ?_
        exact gg_iretr (pc := 49) hR dX1_closingAt_49
      · refine gg_iinc (pc := 50) hC dX1_closingAt_50 (y := 0) (j := 2) rfl (z := 1) rfl (Nat.le_of_ble_eq_true rfl) (lv' := [(2, .int (v2 + 1)), (0, .ref (A 3)), (1, .int v1), (3, .int x1)]) rfl ?_
        refine gg_goto (pc := 53) hC dX1_closingAt_53 (tgt := 2) rfl ?_
        exact gg_lv [1, 2, 0] rfl (ih _)
set_option maxHeartbeats 4000000 in
set_option maxRecDepth 100000 in
theorem mX1_closingAt {l : Launch} {D : va_G} {A : Nat → Nat} {cA : Nat → ClassId} {v1 : Int32}  {σ : zS} {r : Int32} (h : fX1_closingAt v1 σ = some r) : zMI l D (wX A cA) yX1_closingAt (zws yX1_closingAt cX1_closingAt 5 (some .int)) 1 22 [.ref (A 3), .int v1] σ (r, σ) := by
  refine zm_Ir (lv := [(0, .ref (A 3)), (1, .int v1)]) rfl (sX_ok A) (Nat.le_of_ble_eq_true rfl) rfl (fun C _ _ hC hR => ?_) h
  unfold fX1_closingAt
  refine gg_iconst (pc := 0) hC dX1_closingAt_0 (x := 0) rfl ?_
  refine gg_istore_n (pc := 1) hC dX1_closingAt_1 (i := 2) rfl (Nat.le_of_ble_eq_true rfl) (lv' := [(2, .int 0), (0, .ref (A 3)), (1, .int v1)]) rfl ?_
  exact gg_lv [1, 2, 0] rfl (lX1_closingAt_2 hC hR 500 _)
def fX1_locate_2 : Nat → Int32 → zS → Option (zS)
  | 0, _, _ => none
  | n + 1, v2, σ =>
    if (zi σ 8) ≤ v2 then (some σ) else
    (zg (zq v2 8) (zy1 (fX5_firstFrom (za σ 4 v2.toNatClampNeg) σ) (fun x1 =>
    zg (zq v2 8) (zy1 (fX5_firstFrom (za σ 5 v2.toNatClampNeg) σ) (fun x2 =>
    zy1 (if (zi σ 5) ≤ x1 then (some (-1 : Int32)) else
    (some x1)) (fun (x3 : Int32) =>
    zg (zq v2 8) (zv (wa σ 6 v2.toNatClampNeg x3) (fun (s4 : zS) =>
    zy1 (if (zi s4 5) ≤ x2 then (some (-1 : Int32)) else
    (if x2 ≤ x1 then (some (-1 : Int32)) else
    (some x2))) (fun (x5 : Int32) =>
    zg (zq v2 8) (zv (wa s4 7 v2.toNatClampNeg x5) (fun (s6 : zS) =>
    fX1_locate_2  n (v2 + 1) s6)))))))))))
def fX1_locate  (σ : zS) : Option (zS) :=
    zy1 (fX1_locate_2  500 0 σ) (fun (s1 : zS) =>
    some s1)
set_option maxHeartbeats 4000000 in
set_option maxRecDepth 100000 in
theorem lX1_locate_2 {C : zK} {A : Nat → Nat} {cA : Nat → ClassId} (hC : zOK C (wX A cA) cX1_locate RX1 5 1 22) : ∀ (n : Nat) (v2 : Int32) (σ : zS), zG C (wX A cA) 5 (fun q => zW C (wX A cA) 5 85 [] [] q) (fX1_locate_2  n v2 σ) 2 [(0, .ref (A 3)), (1, .ref (A 1)), (2, .int v2)] [] σ := by
  intro n
  induction n with
  | zero => intro v2 σ; exact gg_none (o := none)
  | succ n ih =>
    intro v2 σ
    rw [fX1_locate_2]
    refine gg_iload_n (pc := 2) hC dX1_locate_2 (i := 2) rfl 2 rfl ?_
    refine gg_aload_n (pc := 3) hC dX1_locate_3 (i := 0) rfl 0 rfl ?_
    refine gg_get (pc := 4) hC dX1_locate_4 fX1_24 3 pX_3 (v := .int (zi σ 8)) rfl ?_
    refine gg_icmp_ge (pc := 7) hC dX1_locate_7 (tgt := 85) rfl (fun _ => ?_) (fun _ => ?_)
    · exact gg_y (fun h => zW_lv [] rfl h)
    · refine gg_aload_n (pc := 10) hC dX1_locate_10 (i := 1) rfl 1 rfl ?_
      refine gg_aload_n (pc := 11) hC dX1_locate_11 (i := 0) rfl 0 rfl ?_
      refine gg_get (pc := 12) hC dX1_locate_12 fX1_9 3 pX_3 (v := .ref (A 11)) rfl ?_
      refine gg_iload_n (pc := 15) hC dX1_locate_15 (i := 2) rfl 2 rfl ?_
      refine gg_iald (pc := 16) hC dX1_locate_16 11 0 pX_11 rfl ?_
      refine gg_callVIr (pc := 17) hC dX1_locate_17 vX1_28 (fun _ h => mX5_firstFrom h) (Nat.le_of_ble_eq_true rfl) (Nat.le_of_ble_eq_true rfl) (As := [.int (za σ 4 v2.toNatClampNeg)]) (rest := []) rfl rfl (Nat.le_of_ble_eq_true rfl) 1 5 pX_1 rfl (fun x1 => ?_)
      refine gg_istore_n (pc := 20) hC dX1_locate_20 (i := 3) rfl (Nat.le_of_ble_eq_true rfl) (lv' := [(3, .int x1), (0, .ref (A 3)), (1, .ref (A 1)), (2, .int v2)]) rfl ?_
      refine gg_aload_n (pc := 21) hC dX1_locate_21 (i := 1) rfl 2 rfl ?_
      refine gg_aload_n (pc := 22) hC dX1_locate_22 (i := 0) rfl 1 rfl ?_
      refine gg_get (pc := 23) hC dX1_locate_23 fX1_15 3 pX_3 (v := .ref (A 12)) rfl ?_
      refine gg_iload_n (pc := 26) hC dX1_locate_26 (i := 2) rfl 3 rfl ?_
      refine gg_iald (pc := 27) hC dX1_locate_27 12 0 pX_12 rfl ?_
      refine gg_callVIr (pc := 28) hC dX1_locate_28 vX1_28 (fun _ h => mX5_firstFrom h) (Nat.le_of_ble_eq_true rfl) (Nat.le_of_ble_eq_true rfl) (As := [.int (za σ 5 v2.toNatClampNeg)]) (rest := []) rfl rfl (Nat.le_of_ble_eq_true rfl) 1 5 pX_1 rfl (fun x2 => ?_)
      refine gg_istore (pc := 31) hC dX1_locate_31 (Nat.le_of_ble_eq_true rfl) (lv' := [(4, .int x2), (3, .int x1), (0, .ref (A 3)), (1, .ref (A 1)), (2, .int v2)]) rfl ?_
      refine gg_aload_n (pc := 33) hC dX1_locate_33 (i := 0) rfl 2 rfl ?_
      refine gg_get (pc := 34) hC dX1_locate_34 fX1_18 3 pX_3 (v := .ref (A 13)) rfl ?_
      refine gg_iload_n (pc := 37) hC dX1_locate_37 (i := 2) rfl 4 rfl ?_
      refine gg_iload_n (pc := 38) hC dX1_locate_38 (i := 3) rfl 1 rfl ?_
      refine gg_aload_n (pc := 39) hC dX1_locate_39 (i := 1) rfl 3 rfl ?_
      refine gg_get (pc := 40) hC dX1_locate_40 fX1_34 1 pX_1 (v := .int (zi σ 5)) rfl ?_
      refine gg_join1 (E' := (fun q => zW C (wX A cA) 5 51 [(0, .ref (A 3)), (1, .ref (A 1)), (2, .int v2), (3, .int x1), (4, .int x2)] [.int q, .int v2, .ref (A 13)] σ)) ?_ (fun x3 => ?_)
      · refine gg_icmp_ge (pc := 43) hC dX1_locate_43 (tgt := 50) rfl (fun _ => ?_) (fun _ => ?_)
        · refine gg_iconst (pc := 50) hC dX1_locate_50 (x := -1) rfl ?_
          exact gg_y (fun h => zW_lv [2, 3, 4, 1, 0] rfl h)
        · refine gg_iload_n (pc := 46) hC dX1_locate_46 (i := 3) rfl 1 rfl ?_
          refine gg_goto (pc := 47) hC dX1_locate_47 (tgt := 51) rfl ?_
          exact gg_y (fun h => zW_lv [2, 3, 4, 1, 0] rfl h)
      · show zG C (wX A cA) 5 _ _ 51 [(0, .ref (A 3)), (1, .ref (A 1)), (2, .int v2), (3, .int x1), (4, .int x2)] [.int x3, .int v2, .ref (A 13)] σ
        refine gg_iast (pc := 51) hC dX1_locate_51 13 0 pX_13 rfl sX_13 ?_
        refine gg_zvs (fun s4 => ?_)
        refine gg_aload_n (pc := 52) hC dX1_locate_52 (i := 0) rfl 0 rfl ?_
        refine gg_get (pc := 53) hC dX1_locate_53 fX1_21 3 pX_3 (v := .ref (A 14)) rfl ?_
        refine gg_iload_n (pc := 56) hC dX1_locate_56 (i := 2) rfl 2 rfl ?_
        refine gg_iload (pc := 57) hC dX1_locate_57 4 rfl ?_
        refine gg_aload_n (pc := 59) hC dX1_locate_59 (i := 1) rfl 1 rfl ?_
        refine gg_get (pc := 60) hC dX1_locate_60 fX1_34 1 pX_1 (v := .int (zi s4 5)) rfl ?_
        refine gg_join1 (E' := (fun q => zW C (wX A cA) 5 78 [(0, .ref (A 3)), (1, .ref (A 1)), (2, .int v2)] [.int q, .int v2, .ref (A 14)] s4)) ?_ (fun x5 => ?_)
        · refine gg_icmp_ge (pc := 63) hC dX1_locate_63 (tgt := 77) rfl (fun _ => ?_) (fun _ => ?_)
          · refine gg_iconst (pc := 77) hC dX1_locate_77 (x := -1) rfl ?_
            exact gg_y (fun h => zW_lv [0, 1, 2] rfl h)
          · refine gg_iload (pc := 66) hC dX1_locate_66 4 rfl ?_
            refine gg_iload_n (pc := 68) hC dX1_locate_68 (i := 3) rfl 3 rfl ?_
            refine gg_icmp_le (pc := 69) hC dX1_locate_69 (tgt := 77) rfl (fun _ => ?_) (fun _ => ?_)
            · refine gg_iconst (pc := 77) hC dX1_locate_77 (x := -1) rfl ?_
              exact gg_y (fun h => zW_lv [0, 1, 2] rfl h)
            · refine gg_iload (pc := 72) hC dX1_locate_72 4 rfl ?_
              refine gg_goto (pc := 74) hC dX1_locate_74 (tgt := 78) rfl ?_
              exact gg_y (fun h => zW_lv [0, 1, 2] rfl h)
        · show zG C (wX A cA) 5 _ _ 78 [(0, .ref (A 3)), (1, .ref (A 1)), (2, .int v2)] [.int x5, .int v2, .ref (A 14)] s4
          refine gg_iast (pc := 78) hC dX1_locate_78 14 0 pX_14 rfl sX_14 ?_
          refine gg_zvs (fun s6 => ?_)
          refine gg_iinc (pc := 79) hC dX1_locate_79 (y := 0) (j := 2) rfl (z := 1) rfl (Nat.le_of_ble_eq_true rfl) (lv' := [(2, .int (v2 + 1)), (0, .ref (A 3)), (1, .ref (A 1))]) rfl ?_
          refine gg_goto (pc := 82) hC dX1_locate_82 (tgt := 2) rfl ?_
          exact gg_lv [1, 2, 0] rfl (ih _ _)
set_option maxHeartbeats 4000000 in
set_option maxRecDepth 100000 in
theorem mX1_locate {l : Launch} {D : va_G} {A : Nat → Nat} {cA : Nat → ClassId}   {σ : zS} {r : zS} (h : fX1_locate  σ = some r) : zMV l D (wX A cA) yX1_locate (zws yX1_locate cX1_locate 5 none) 1 22 [.ref (A 3), .ref (A 1)] σ r := by
  refine zm_V (lv := [(0, .ref (A 3)), (1, .ref (A 1))]) rfl (sX_ok A) (Nat.le_of_ble_eq_true rfl) rfl (fun C _ _ hC hR => ?_) h
  unfold fX1_locate
  refine gg_iconst (pc := 0) hC dX1_locate_0 (x := 0) rfl ?_
  refine gg_istore_n (pc := 1) hC dX1_locate_1 (i := 2) rfl (Nat.le_of_ble_eq_true rfl) (lv' := [(2, .int 0), (0, .ref (A 3)), (1, .ref (A 1))]) rfl ?_
  refine gg_join1 (E' := (fun q => zW C (wX A cA) 5 85 [] [] q)) (gg_lv [1, 2, 0] rfl (lX1_locate_2 hC  500 _ _)) (fun s1 => ?_)
  show zG C (wX A cA) 5 _ _ 85 [] [] s1
  exact gg_vret (pc := 85) hR dX1_locate_85
def fX3_begin_12 (k0 : Nat) : Nat → Int32 → zS → Option (zS)
  | 0, _, _ => none
  | n + 1, v3, σ =>
    if 40 ≤ v3 then (some σ) else
    (zg (zq v3 40) (zv (wj σ (10 + k0) v3.toNatClampNeg (0 : Int64)) (fun (s1 : zS) =>
    zg (zq v3 40) (zv (wd s1 (0 + k0) v3.toNatClampNeg FP.dconst0) (fun (s2 : zS) =>
    zg (zq v3 40) (zv (wa s2 (20 + k0) v3.toNatClampNeg (vp_nar .boolean 0)) (fun (s3 : zS) =>
    fX3_begin_12 k0 n (v3 + 1) s3)))))))
def fX3_begin (k : Nat) (v1 : Int32) (v2 : Int32) (σ : zS) : Option (zS) :=
    zv (wi σ (20 + k) v1) (fun (s1 : zS) =>
    zv (wi s1 (30 + k) v2) (fun (s2 : zS) =>
    zy1 (fX3_begin_12 k 500 0 s2) (fun (s3 : zS) =>
    some s3)))
set_option maxHeartbeats 4000000 in
set_option maxRecDepth 100000 in
theorem lX3_begin_12 {C : zK} {A : Nat → Nat} {cA : Nat → ClassId} (hC : zOK C (wX A cA) cX3_begin RX3 4 0 0) {k0 : Nat} (hk0_ : k0 < 4) : ∀ (n : Nat) (v3 : Int32) (σ : zS), zG C (wX A cA) 4 (fun q => zW C (wX A cA) 4 45 [] [] q) (fX3_begin_12 k0 n v3 σ) 12 [(0, .ref (A (23 + k0))), (3, .int v3)] [] σ := by
  intro n
  induction n with
  | zero => intro v3 σ; exact gg_none (o := none)
  | succ n ih =>
    intro v3 σ
    rw [fX3_begin_12]
    refine gg_iload_n (pc := 12) hC dX3_begin_12 (i := 3) rfl 1 rfl ?_
    refine gg_bipush (pc := 13) hC dX3_begin_13 (x := 40) rfl ?_
    refine gg_icmp_ge (pc := 15) hC dX3_begin_15 (tgt := 45) rfl (fun _ => ?_) (fun _ => ?_)
    · exact gg_y (fun h => zW_lv [] rfl h)
    · refine gg_aload_n (pc := 18) hC dX3_begin_18 (i := 0) rfl 0 rfl ?_
      refine gg_get (pc := 19) hC dX3_begin_19 fX3_9 (23 + k0) (pX_cS hk0_) (v := .ref (A (27 + k0))) rfl ?_
      refine gg_iload_n (pc := 22) hC dX3_begin_22 (i := 3) rfl 1 rfl ?_
      refine gg_lconst (pc := 23) hC dX3_begin_23 (x := 0) rfl ?_
      refine gg_last (pc := 24) hC dX3_begin_24 (27 + k0) 1 (pX_cW hk0_) rfl (sX_cW hk0_) ?_
      refine gg_zvs (fun s1 => ?_)
      refine gg_aload_n (pc := 25) hC dX3_begin_25 (i := 0) rfl 0 rfl ?_
      refine gg_get (pc := 26) hC dX3_begin_26 fX3_15 (23 + k0) (pX_cS hk0_) (v := .ref (A (31 + k0))) rfl ?_
      refine gg_iload_n (pc := 29) hC dX3_begin_29 (i := 3) rfl 1 rfl ?_
      refine gg_dconst0 (pc := 30) hC dX3_begin_30 ?_
      refine gg_dast (pc := 31) hC dX3_begin_31 (31 + k0) 3 (pX_cR hk0_) rfl (sX_cR hk0_) ?_
      refine gg_zvs (fun s2 => ?_)
      refine gg_aload_n (pc := 32) hC dX3_begin_32 (i := 0) rfl 0 rfl ?_
      refine gg_get (pc := 33) hC dX3_begin_33 fX3_19 (23 + k0) (pX_cS hk0_) (v := .ref (A (35 + k0))) rfl ?_
      refine gg_iload_n (pc := 36) hC dX3_begin_36 (i := 3) rfl 1 rfl ?_
      refine gg_iconst (pc := 37) hC dX3_begin_37 (x := 0) rfl ?_
      refine gg_zast (pc := 38) hC dX3_begin_38 (35 + k0) 2 (pX_cN hk0_) rfl (sX_cN hk0_) ?_
      refine gg_zvs (fun s3 => ?_)
      refine gg_iinc (pc := 39) hC dX3_begin_39 (y := 0) (j := 1) rfl (z := 1) rfl (Nat.le_of_ble_eq_true rfl) (lv' := [(3, .int (v3 + 1)), (0, .ref (A (23 + k0)))]) rfl ?_
      refine gg_goto (pc := 42) hC dX3_begin_42 (tgt := 12) rfl ?_
      exact gg_lv [1, 0] rfl (ih _ _)
set_option maxHeartbeats 4000000 in
set_option maxRecDepth 100000 in
theorem mX3_begin {l : Launch} {D : va_G} {A : Nat → Nat} {cA : Nat → ClassId} {k : Nat} {v1 : Int32} {v2 : Int32} (hk : k < 4) {σ : zS} {r : zS} (h : fX3_begin k v1 v2 σ = some r) : zMV l D (wX A cA) yX3_begin (zws yX3_begin cX3_begin 4 none) 0 0 [.ref (A (23 + k)), .int v1, .int v2] σ r := by
  refine zm_V (lv := [(0, .ref (A (23 + k))), (1, .int v1), (2, .int v2)]) rfl (sX_ok A) (Nat.le_of_ble_eq_true rfl) rfl (fun C _ _ hC hR => ?_) h
  unfold fX3_begin
  refine gg_aload_n (pc := 0) hC dX3_begin_0 (i := 0) rfl 0 rfl ?_
  refine gg_iload_n (pc := 1) hC dX3_begin_1 (i := 1) rfl 1 rfl ?_
  refine gg_put (pc := 2) hC dX3_begin_2 fX3_23 tX3_2 (23 + k) (pX_cS hk) rfl rfl rfl (Nat.le_of_ble_eq_true rfl) (sX_cS_3 hk) ?_
  refine gg_zvs (fun s1 => ?_)
  refine gg_aload_n (pc := 5) hC dX3_begin_5 (i := 0) rfl 0 rfl ?_
  refine gg_iload_n (pc := 6) hC dX3_begin_6 (i := 2) rfl 2 rfl ?_
  refine gg_put (pc := 7) hC dX3_begin_7 fX3_27 tX3_2 (23 + k) (pX_cS hk) rfl rfl rfl (Nat.le_of_ble_eq_true rfl) (sX_cS_4 hk) ?_
  refine gg_zvs (fun s2 => ?_)
  refine gg_iconst (pc := 10) hC dX3_begin_10 (x := 0) rfl ?_
  refine gg_istore_n (pc := 11) hC dX3_begin_11 (i := 3) rfl (Nat.le_of_ble_eq_true rfl) (lv' := [(3, .int 0), (0, .ref (A (23 + k))), (1, .int v1), (2, .int v2)]) rfl ?_
  refine gg_join1 (E' := (fun q => zW C (wX A cA) 4 45 [] [] q)) (gg_lv [1, 0] rfl (lX3_begin_12 hC hk 500 _ _)) (fun s3 => ?_)
  show zG C (wX A cA) 4 _ _ 45 [] [] s3
  exact gg_vret (pc := 45) hR dX3_begin_45
def fX3_countNoNumbers_4 (k0 : Nat) (σ : zS) : Nat → Int32 → Int32 → Option (Int32)
  | 0, _, _ => none
  | n + 1, v1, v2 =>
    if (zi σ (30 + k0)) ≤ v2 then (some v1) else
    (zg (zq v2 40) (zy1 (if (za σ (20 + k0) v2.toNatClampNeg) = 0 then (some v1) else
    (some (v1 + 1))) (fun (x1 : Int32) =>
    fX3_countNoNumbers_4 k0 σ n x1 (v2 + 1))))
def fX3_countNoNumbers (k : Nat) (σ : zS) : Option (Int32) :=
    zy1 (fX3_countNoNumbers_4 k σ 500 0 0) (fun (x1 : Int32) =>
    some x1)
set_option maxHeartbeats 4000000 in
set_option maxRecDepth 100000 in
theorem lX3_countNoNumbers_4 {C : zK} {A : Nat → Nat} {cA : Nat → ClassId} (hC : zOK C (wX A cA) cX3_countNoNumbers RX3 3 0 0) {k0 : Nat} (hk0_ : k0 < 4) {σ : zS} : ∀ (n : Nat) (v1 : Int32) (v2 : Int32), zG C (wX A cA) 3 (fun q => zW C (wX A cA) 3 30 [(1, .int q)] [] σ) (fX3_countNoNumbers_4 k0 σ n v1 v2) 4 [(0, .ref (A (23 + k0))), (1, .int v1), (2, .int v2)] [] σ := by
  intro n
  induction n with
  | zero => intro v1 v2; exact gg_none (o := none)
  | succ n ih =>
    intro v1 v2
    rw [fX3_countNoNumbers_4]
    refine gg_iload_n (pc := 4) hC dX3_countNoNumbers_4 (i := 2) rfl 2 rfl ?_
    refine gg_aload_n (pc := 5) hC dX3_countNoNumbers_5 (i := 0) rfl 0 rfl ?_
    refine gg_get (pc := 6) hC dX3_countNoNumbers_6 fX3_27 (23 + k0) (pX_cS hk0_) (v := .int (zi σ (30 + k0))) rfl ?_
    refine gg_icmp_ge (pc := 9) hC dX3_countNoNumbers_9 (tgt := 30) rfl (fun _ => ?_) (fun _ => ?_)
    · exact gg_y (fun h => zW_lv [1] rfl h)
    · refine gg_aload_n (pc := 12) hC dX3_countNoNumbers_12 (i := 0) rfl 0 rfl ?_
      refine gg_get (pc := 13) hC dX3_countNoNumbers_13 fX3_19 (23 + k0) (pX_cS hk0_) (v := .ref (A (35 + k0))) rfl ?_
      refine gg_iload_n (pc := 16) hC dX3_countNoNumbers_16 (i := 2) rfl 2 rfl ?_
      refine gg_zald (pc := 17) hC dX3_countNoNumbers_17 (35 + k0) 2 (pX_cN hk0_) rfl ?_
      refine gg_join1 (E' := (fun q => zW C (wX A cA) 3 24 [(0, .ref (A (23 + k0))), (1, .int q), (2, .int v2)] [] σ)) ?_ (fun x1 => ?_)
      · refine gg_if_eq (pc := 18) hC dX3_countNoNumbers_18 (tgt := 24) rfl (fun _ => ?_) (fun _ => ?_)
        · exact gg_y (fun h => zW_lv [0, 1, 2] rfl h)
        · refine gg_iinc (pc := 21) hC dX3_countNoNumbers_21 (y := 0) (j := 1) rfl (z := 1) rfl (Nat.le_of_ble_eq_true rfl) (lv' := [(1, .int (v1 + 1)), (0, .ref (A (23 + k0))), (2, .int v2)]) rfl ?_
          exact gg_y (fun h => zW_lv [1, 0, 2] rfl h)
      · show zG C (wX A cA) 3 _ _ 24 [(0, .ref (A (23 + k0))), (1, .int x1), (2, .int v2)] [] σ
        refine gg_iinc (pc := 24) hC dX3_countNoNumbers_24 (y := 0) (j := 2) rfl (z := 1) rfl (Nat.le_of_ble_eq_true rfl) (lv' := [(2, .int (v2 + 1)), (0, .ref (A (23 + k0))), (1, .int x1)]) rfl ?_
        refine gg_goto (pc := 27) hC dX3_countNoNumbers_27 (tgt := 4) rfl ?_
        exact gg_lv [1, 2, 0] rfl (ih _ _)
set_option maxHeartbeats 4000000 in
set_option maxRecDepth 100000 in
theorem mX3_countNoNumbers {l : Launch} {D : va_G} {A : Nat → Nat} {cA : Nat → ClassId} {k : Nat} (hk : k < 4) {σ : zS} {r : Int32} (h : fX3_countNoNumbers k σ = some r) : zMI l D (wX A cA) yX3_countNoNumbers (zws yX3_countNoNumbers cX3_countNoNumbers 3 (some .int)) 0 0 [.ref (A (23 + k))] σ (r, σ) := by
  refine zm_Ir (lv := [(0, .ref (A (23 + k)))]) rfl (sX_ok A) (Nat.le_of_ble_eq_true rfl) rfl (fun C _ _ hC hR => ?_) h
  unfold fX3_countNoNumbers
  refine gg_iconst (pc := 0) hC dX3_countNoNumbers_0 (x := 0) rfl ?_
  refine gg_istore_n (pc := 1) hC dX3_countNoNumbers_1 (i := 1) rfl (Nat.le_of_ble_eq_true rfl) (lv' := [(1, .int 0), (0, .ref (A (23 + k)))]) rfl ?_
  refine gg_iconst (pc := 2) hC dX3_countNoNumbers_2 (x := 0) rfl ?_
  refine gg_istore_n (pc := 3) hC dX3_countNoNumbers_3 (i := 2) rfl (Nat.le_of_ble_eq_true rfl) (lv' := [(2, .int 0), (1, .int 0), (0, .ref (A (23 + k)))]) rfl ?_
  refine gg_join1 (E' := (fun q => zW C (wX A cA) 3 30 [(1, .int q)] [] σ)) (gg_lv [2, 1, 0] rfl (lX3_countNoNumbers_4 hC hk 500 _ _)) (fun x1 => ?_)
  show zG C (wX A cA) 3 _ _ 30 [(1, .int x1)] [] σ
  refine gg_iload_n (pc := 30) hC dX3_countNoNumbers_30 (i := 1) rfl 0 rfl ?_
  exact gg_iretr (pc := 31) hR dX3_countNoNumbers_31
def fX3_isBeyond (v0 : UInt64) (v2 : UInt64) (v4 : Int32) (σ : zS) : Option (Int32) :=
    if v4 = 0 then (if 0 ≤ Op.cmpValue (FP.dcmp v0 v2) .g then (some 0) else
    (some 1)) else
    (if Op.cmpValue (FP.dcmp v0 v2) .l ≤ 0 then (some 0) else
    (some 1))
set_option maxHeartbeats 4000000 in
set_option maxRecDepth 100000 in
theorem mX3_isBeyond {l : Launch} {D : va_G} {A : Nat → Nat} {cA : Nat → ClassId} {v0 : UInt64} {v2 : UInt64} {v4 : Int32}  {σ : zS} {r : Int32} (h : fX3_isBeyond v0 v2 v4 σ = some r) : zMI l D (wX A cA) yX3_isBeyond (zws yX3_isBeyond cX3_isBeyond 5 (some .boolean)) 0 0 [.double v0, .double v2, .int v4] σ (r, σ) := by
  refine zm_Zr (lv := [(0, .double v0), (2, .double v2), (4, .int v4)]) rfl (sX_ok A) (Nat.le_of_ble_eq_true rfl) rfl (fun C _ _ hC hR => ?_) h
  unfold fX3_isBeyond
  refine gg_iload (pc := 0) hC dX3_isBeyond_0 2 rfl ?_
  refine gg_if_eq (pc := 2) hC dX3_isBeyond_2 (tgt := 19) rfl (fun _ => ?_) (fun _ => ?_)
  · refine gg_dload_n (pc := 19) hC dX3_isBeyond_19 (i := 0) rfl 0 rfl ?_
    refine gg_dload_n (pc := 20) hC dX3_isBeyond_20 (i := 2) rfl 1 rfl ?_
    refine gg_dcmp_ge (pc := 21) hC dX3_isBeyond_21 dX3_isBeyond_22 (tgt := 29) rfl (fun _ => ?_) (fun _ => ?_)
    · refine gg_iconst (pc := 29) hC dX3_isBeyond_29 (x := 0) rfl ?_
      exact gg_zretr (pc := 30) hR dX3_isBeyond_30 rfl
    · refine gg_iconst (pc := 25) hC dX3_isBeyond_25 (x := 1) rfl ?_
      refine gg_goto (pc := 26) hC dX3_isBeyond_26 (tgt := 30) rfl ?_
      exact gg_zretr (pc := 30) hR dX3_isBeyond_30 rfl
  · refine gg_dload_n (pc := 5) hC dX3_isBeyond_5 (i := 0) rfl 0 rfl ?_
    refine gg_dload_n (pc := 6) hC dX3_isBeyond_6 (i := 2) rfl 1 rfl ?_
    refine gg_dcmp_le (pc := 7) hC dX3_isBeyond_7 dX3_isBeyond_8 (tgt := 15) rfl (fun _ => ?_) (fun _ => ?_)
    · refine gg_iconst (pc := 15) hC dX3_isBeyond_15 (x := 0) rfl ?_
      refine gg_goto (pc := 16) hC dX3_isBeyond_16 (tgt := 30) rfl ?_
      exact gg_zretr (pc := 30) hR dX3_isBeyond_30 rfl
    · refine gg_iconst (pc := 11) hC dX3_isBeyond_11 (x := 1) rfl ?_
      refine gg_goto (pc := 12) hC dX3_isBeyond_12 (tgt := 30) rfl ?_
      exact gg_zretr (pc := 30) hR dX3_isBeyond_30 rfl
def fX3_extreme_4 (k0 : Nat) (v1 : Int32) (σ : zS) : Nat → Int32 → Int32 → Option (Int32)
  | 0, _, _ => none
  | n + 1, v2, v3 =>
    if (zi σ (30 + k0)) ≤ v3 then (some v2) else
    (zg (zq v3 40) (zy1 (if (za σ (20 + k0) v3.toNatClampNeg) = 0 then (if v2 = (-1 : Int32) then (some v3) else
    (zg (zq v3 40) (zg (zq v2 40) (zy1 (fX3_isBeyond (zd σ (0 + k0) v3.toNatClampNeg) (zd σ (0 + k0) v2.toNatClampNeg) v1 σ) (fun x1 =>
    if x1 = 0 then (some v2) else
    (some v3)))))) else
    (some v2)) (fun (x2 : Int32) =>
    fX3_extreme_4 k0 v1 σ n x2 (v3 + 1))))
def fX3_extreme (k : Nat) (v1 : Int32) (σ : zS) : Option (Int32) :=
    zy1 (fX3_extreme_4 k v1 σ 500 (-1 : Int32) 0) (fun (x1 : Int32) =>
    some x1)
set_option maxHeartbeats 4000000 in
set_option maxRecDepth 100000 in
theorem lX3_extreme_4 {C : zK} {A : Nat → Nat} {cA : Nat → ClassId} (hC : zOK C (wX A cA) cX3_extreme RX3 4 1 24) {k0 : Nat} (hk0_ : k0 < 4) {v1 : Int32} {σ : zS} : ∀ (n : Nat) (v2 : Int32) (v3 : Int32), zG C (wX A cA) 4 (fun q => zW C (wX A cA) 4 53 [(2, .int q)] [] σ) (fX3_extreme_4 k0 v1 σ n v2 v3) 4 [(0, .ref (A (23 + k0))), (1, .int v1), (2, .int v2), (3, .int v3)] [] σ := by
  intro n
  induction n with
  | zero => intro v2 v3; exact gg_none (o := none)
  | succ n ih =>
    intro v2 v3
    rw [fX3_extreme_4]
    refine gg_iload_n (pc := 4) hC dX3_extreme_4 (i := 3) rfl 3 rfl ?_
    refine gg_aload_n (pc := 5) hC dX3_extreme_5 (i := 0) rfl 0 rfl ?_
    refine gg_get (pc := 6) hC dX3_extreme_6 fX3_27 (23 + k0) (pX_cS hk0_) (v := .int (zi σ (30 + k0))) rfl ?_
    refine gg_icmp_ge (pc := 9) hC dX3_extreme_9 (tgt := 53) rfl (fun _ => ?_) (fun _ => ?_)
    · exact gg_y (fun h => zW_lv [2] rfl h)
    · refine gg_aload_n (pc := 12) hC dX3_extreme_12 (i := 0) rfl 0 rfl ?_
      refine gg_get (pc := 13) hC dX3_extreme_13 fX3_19 (23 + k0) (pX_cS hk0_) (v := .ref (A (35 + k0))) rfl ?_
      refine gg_iload_n (pc := 16) hC dX3_extreme_16 (i := 3) rfl 3 rfl ?_
      refine gg_zald (pc := 17) hC dX3_extreme_17 (35 + k0) 2 (pX_cN hk0_) rfl ?_
      refine gg_join1 (E' := (fun q => zW C (wX A cA) 4 47 [(0, .ref (A (23 + k0))), (1, .int v1), (2, .int q), (3, .int v3)] [] σ)) ?_ (fun x2 => ?_)
      · refine gg_if_ne (pc := 18) hC dX3_extreme_18 (tgt := 47) rfl (fun _ => ?_) (fun _ => ?_)
        · refine gg_iload_n (pc := 21) hC dX3_extreme_21 (i := 2) rfl 2 rfl ?_
          refine gg_iconst (pc := 22) hC dX3_extreme_22 (x := -1) rfl ?_
          refine gg_icmp_eq (pc := 23) hC dX3_extreme_23 (tgt := 45) rfl (fun _ => ?_) (fun _ => ?_)
          · refine gg_iload_n (pc := 45) hC dX3_extreme_45 (i := 3) rfl 3 rfl ?_
            refine gg_istore_n (pc := 46) hC dX3_extreme_46 (i := 2) rfl (Nat.le_of_ble_eq_true rfl) (lv' := [(2, .int v3), (0, .ref (A (23 + k0))), (1, .int v1), (3, .int v3)]) rfl ?_
            exact gg_y (fun h => zW_lv [1, 2, 0, 3] rfl h)
          · refine gg_aload_n (pc := 26) hC dX3_extreme_26 (i := 0) rfl 0 rfl ?_
            refine gg_get (pc := 27) hC dX3_extreme_27 fX3_15 (23 + k0) (pX_cS hk0_) (v := .ref (A (31 + k0))) rfl ?_
            refine gg_iload_n (pc := 30) hC dX3_extreme_30 (i := 3) rfl 3 rfl ?_
            refine gg_dald (pc := 31) hC dX3_extreme_31 (31 + k0) 3 (pX_cR hk0_) rfl ?_
            refine gg_aload_n (pc := 32) hC dX3_extreme_32 (i := 0) rfl 0 rfl ?_
            refine gg_get (pc := 33) hC dX3_extreme_33 fX3_15 (23 + k0) (pX_cS hk0_) (v := .ref (A (31 + k0))) rfl ?_
            refine gg_iload_n (pc := 36) hC dX3_extreme_36 (i := 2) rfl 2 rfl ?_
            refine gg_dald (pc := 37) hC dX3_extreme_37 (31 + k0) 3 (pX_cR hk0_) rfl ?_
            refine gg_iload_n (pc := 38) hC dX3_extreme_38 (i := 1) rfl 1 rfl ?_
            refine gg_callSIr (pc := 39) hC dX3_extreme_39 cX3_39 (fun _ h => mX3_isBeyond h) (Nat.le_of_ble_eq_true rfl) (Nat.le_of_ble_eq_true rfl) (As := [.double (zd σ (0 + k0) v3.toNatClampNeg), .double (zd σ (0 + k0) v2.toNatClampNeg), .int v1]) (rest := []) rfl rfl (Nat.le_of_ble_eq_true rfl) (fun x1 => ?_)
            refine gg_if_eq (pc := 42) hC dX3_extreme_42 (tgt := 47) rfl (fun _ => ?_) (fun _ => ?_)
            · exact gg_y (fun h => zW_lv [0, 1, 2, 3] rfl h)
            · refine gg_iload_n (pc := 45) hC dX3_extreme_45 (i := 3) rfl 3 rfl ?_
              refine gg_istore_n (pc := 46) hC dX3_extreme_46 (i := 2) rfl (Nat.le_of_ble_eq_true rfl) (lv' := [(2, .int v3), (0, .ref (A (23 + k0))), (1, .int v1), (3, .int v3)]) rfl ?_
              exact gg_y (fun h => zW_lv [1, 2, 0, 3] rfl h)
        · exact gg_y (fun h => zW_lv [0, 1, 2, 3] rfl h)
      · show zG C (wX A cA) 4 _ _ 47 [(0, .ref (A (23 + k0))), (1, .int v1), (2, .int x2), (3, .int v3)] [] σ
        refine gg_iinc (pc := 47) hC dX3_extreme_47 (y := 0) (j := 3) rfl (z := 1) rfl (Nat.le_of_ble_eq_true rfl) (lv' := [(3, .int (v3 + 1)), (0, .ref (A (23 + k0))), (1, .int v1), (2, .int x2)]) rfl ?_
        refine gg_goto (pc := 50) hC dX3_extreme_50 (tgt := 4) rfl ?_
        exact gg_lv [1, 2, 3, 0] rfl (ih _ _)
set_option maxHeartbeats 4000000 in
set_option maxRecDepth 100000 in
theorem mX3_extreme {l : Launch} {D : va_G} {A : Nat → Nat} {cA : Nat → ClassId} {k : Nat} {v1 : Int32} (hk : k < 4) {σ : zS} {r : Int32} (h : fX3_extreme k v1 σ = some r) : zMI l D (wX A cA) yX3_extreme (zws yX3_extreme cX3_extreme 4 (some .int)) 1 24 [.ref (A (23 + k)), .int v1] σ (r, σ) := by
  refine zm_Ir (lv := [(0, .ref (A (23 + k))), (1, .int v1)]) rfl (sX_ok A) (Nat.le_of_ble_eq_true rfl) rfl (fun C _ _ hC hR => ?_) h
  unfold fX3_extreme
  refine gg_iconst (pc := 0) hC dX3_extreme_0 (x := -1) rfl ?_
  refine gg_istore_n (pc := 1) hC dX3_extreme_1 (i := 2) rfl (Nat.le_of_ble_eq_true rfl) (lv' := [(2, .int (-1 : Int32)), (0, .ref (A (23 + k))), (1, .int v1)]) rfl ?_
  refine gg_iconst (pc := 2) hC dX3_extreme_2 (x := 0) rfl ?_
  refine gg_istore_n (pc := 3) hC dX3_extreme_3 (i := 3) rfl (Nat.le_of_ble_eq_true rfl) (lv' := [(3, .int 0), (2, .int (-1 : Int32)), (0, .ref (A (23 + k))), (1, .int v1)]) rfl ?_
  refine gg_join1 (E' := (fun q => zW C (wX A cA) 4 53 [(2, .int q)] [] σ)) (gg_lv [2, 3, 1, 0] rfl (lX3_extreme_4 hC hk 500 _ _)) (fun x1 => ?_)
  show zG C (wX A cA) 4 _ _ 53 [(2, .int x1)] [] σ
  refine gg_iload_n (pc := 53) hC dX3_extreme_53 (i := 2) rfl 0 rfl ?_
  exact gg_iretr (pc := 54) hR dX3_extreme_54
def fX3_has (k : Nat) (v1 : Int32) (σ : zS) : Option (Int32) :=
    if v1 < 0 then (some 0) else
    (if (zi σ (30 + k)) ≤ v1 then (some 0) else
    (some 1))
set_option maxHeartbeats 4000000 in
set_option maxRecDepth 100000 in
theorem mX3_has {l : Launch} {D : va_G} {A : Nat → Nat} {cA : Nat → ClassId} {k : Nat} {v1 : Int32} (hk : k < 4) {σ : zS} {r : Int32} (h : fX3_has k v1 σ = some r) : zMI l D (wX A cA) yX3_has (zws yX3_has cX3_has 2 (some .boolean)) 0 0 [.ref (A (23 + k)), .int v1] σ (r, σ) := by
  refine zm_Zr (lv := [(0, .ref (A (23 + k))), (1, .int v1)]) rfl (sX_ok A) (Nat.le_of_ble_eq_true rfl) rfl (fun C _ _ hC hR => ?_) h
  unfold fX3_has
  refine gg_iload_n (pc := 0) hC dX3_has_0 (i := 1) rfl 1 rfl ?_
  refine gg_if_lt (pc := 1) hC dX3_has_1 (tgt := 16) rfl (fun _ => ?_) (fun _ => ?_)
  · refine gg_iconst (pc := 16) hC dX3_has_16 (x := 0) rfl ?_
    exact gg_zretr (pc := 17) hR dX3_has_17 rfl
  · refine gg_iload_n (pc := 4) hC dX3_has_4 (i := 1) rfl 1 rfl ?_
    refine gg_aload_n (pc := 5) hC dX3_has_5 (i := 0) rfl 0 rfl ?_
    refine gg_get (pc := 6) hC dX3_has_6 fX3_27 (23 + k) (pX_cS hk) (v := .int (zi σ (30 + k))) rfl ?_
    refine gg_icmp_ge (pc := 9) hC dX3_has_9 (tgt := 16) rfl (fun _ => ?_) (fun _ => ?_)
    · refine gg_iconst (pc := 16) hC dX3_has_16 (x := 0) rfl ?_
      exact gg_zretr (pc := 17) hR dX3_has_17 rfl
    · refine gg_iconst (pc := 12) hC dX3_has_12 (x := 1) rfl ?_
      refine gg_goto (pc := 13) hC dX3_has_13 (tgt := 17) rfl ?_
      exact gg_zretr (pc := 17) hR dX3_has_17 rfl
def fX3_hasRange (k : Nat) (v1 : Int32) (v2 : Int32) (σ : zS) : Option (Int32) :=
    if v1 < 0 then (some 0) else
    (if v2 < 0 then (some 0) else
    (if (zi σ (30 + k)) < v1 then (some 0) else
    (if ((zi σ (30 + k)) - v1) < v2 then (some 0) else
    (some 1))))
set_option maxHeartbeats 4000000 in
set_option maxRecDepth 100000 in
theorem mX3_hasRange {l : Launch} {D : va_G} {A : Nat → Nat} {cA : Nat → ClassId} {k : Nat} {v1 : Int32} {v2 : Int32} (hk : k < 4) {σ : zS} {r : Int32} (h : fX3_hasRange k v1 v2 σ = some r) : zMI l D (wX A cA) yX3_hasRange (zws yX3_hasRange cX3_hasRange 3 (some .boolean)) 0 0 [.ref (A (23 + k)), .int v1, .int v2] σ (r, σ) := by
  refine zm_Zr (lv := [(0, .ref (A (23 + k))), (1, .int v1), (2, .int v2)]) rfl (sX_ok A) (Nat.le_of_ble_eq_true rfl) rfl (fun C _ _ hC hR => ?_) h
  unfold fX3_hasRange
  refine gg_iload_n (pc := 0) hC dX3_hasRange_0 (i := 1) rfl 1 rfl ?_
  refine gg_if_lt (pc := 1) hC dX3_hasRange_1 (tgt := 30) rfl (fun _ => ?_) (fun _ => ?_)
  · refine gg_iconst (pc := 30) hC dX3_hasRange_30 (x := 0) rfl ?_
    exact gg_zretr (pc := 31) hR dX3_hasRange_31 rfl
  · refine gg_iload_n (pc := 4) hC dX3_hasRange_4 (i := 2) rfl 2 rfl ?_
    refine gg_if_lt (pc := 5) hC dX3_hasRange_5 (tgt := 30) rfl (fun _ => ?_) (fun _ => ?_)
    · refine gg_iconst (pc := 30) hC dX3_hasRange_30 (x := 0) rfl ?_
      exact gg_zretr (pc := 31) hR dX3_hasRange_31 rfl
    · refine gg_iload_n (pc := 8) hC dX3_hasRange_8 (i := 1) rfl 1 rfl ?_
      refine gg_aload_n (pc := 9) hC dX3_hasRange_9 (i := 0) rfl 0 rfl ?_
      refine gg_get (pc := 10) hC dX3_hasRange_10 fX3_27 (23 + k) (pX_cS hk) (v := .int (zi σ (30 + k))) rfl ?_
      refine gg_icmp_gt (pc := 13) hC dX3_hasRange_13 (tgt := 30) rfl (fun _ => ?_) (fun _ => ?_)
      · refine gg_iconst (pc := 30) hC dX3_hasRange_30 (x := 0) rfl ?_
        exact gg_zretr (pc := 31) hR dX3_hasRange_31 rfl
      · refine gg_iload_n (pc := 16) hC dX3_hasRange_16 (i := 2) rfl 2 rfl ?_
        refine gg_aload_n (pc := 17) hC dX3_hasRange_17 (i := 0) rfl 0 rfl ?_
        refine gg_get (pc := 18) hC dX3_hasRange_18 fX3_27 (23 + k) (pX_cS hk) (v := .int (zi σ (30 + k))) rfl ?_
        refine gg_iload_n (pc := 21) hC dX3_hasRange_21 (i := 1) rfl 1 rfl ?_
        refine gg_isub (pc := 22) hC dX3_hasRange_22 ?_
        refine gg_icmp_gt (pc := 23) hC dX3_hasRange_23 (tgt := 30) rfl (fun _ => ?_) (fun _ => ?_)
        · refine gg_iconst (pc := 30) hC dX3_hasRange_30 (x := 0) rfl ?_
          exact gg_zretr (pc := 31) hR dX3_hasRange_31 rfl
        · refine gg_iconst (pc := 26) hC dX3_hasRange_26 (x := 1) rfl ?_
          refine gg_goto (pc := 27) hC dX3_hasRange_27 (tgt := 31) rfl ?_
          exact gg_zretr (pc := 31) hR dX3_hasRange_31 rfl
def fX3_holdsReals (k : Nat) (σ : zS) : Option (Int32) :=
    if (zi σ (20 + k)) = 2 then (some 1) else
    (if (zi σ (20 + k)) = 3 then (some 1) else
    (some 0))
set_option maxHeartbeats 4000000 in
set_option maxRecDepth 100000 in
theorem mX3_holdsReals {l : Launch} {D : va_G} {A : Nat → Nat} {cA : Nat → ClassId} {k : Nat} (hk : k < 4) {σ : zS} {r : Int32} (h : fX3_holdsReals k σ = some r) : zMI l D (wX A cA) yX3_holdsReals (zws yX3_holdsReals cX3_holdsReals 1 (some .boolean)) 0 0 [.ref (A (23 + k))] σ (r, σ) := by
  refine zm_Zr (lv := [(0, .ref (A (23 + k)))]) rfl (sX_ok A) (Nat.le_of_ble_eq_true rfl) rfl (fun C _ _ hC hR => ?_) h
  unfold fX3_holdsReals
  refine gg_aload_n (pc := 0) hC dX3_holdsReals_0 (i := 0) rfl 0 rfl ?_
  refine gg_get (pc := 1) hC dX3_holdsReals_1 fX3_23 (23 + k) (pX_cS hk) (v := .int (zi σ (20 + k))) rfl ?_
  refine gg_iconst (pc := 4) hC dX3_holdsReals_4 (x := 2) rfl ?_
  refine gg_icmp_eq (pc := 5) hC dX3_holdsReals_5 (tgt := 16) rfl (fun _ => ?_) (fun _ => ?_)
  · refine gg_iconst (pc := 16) hC dX3_holdsReals_16 (x := 1) rfl ?_
    refine gg_goto (pc := 17) hC dX3_holdsReals_17 (tgt := 21) rfl ?_
    exact gg_zretr (pc := 21) hR dX3_holdsReals_21 rfl
  · refine gg_aload_n (pc := 8) hC dX3_holdsReals_8 (i := 0) rfl 0 rfl ?_
    refine gg_get (pc := 9) hC dX3_holdsReals_9 fX3_23 (23 + k) (pX_cS hk) (v := .int (zi σ (20 + k))) rfl ?_
    refine gg_iconst (pc := 12) hC dX3_holdsReals_12 (x := 3) rfl ?_
    refine gg_icmp_ne (pc := 13) hC dX3_holdsReals_13 (tgt := 20) rfl (fun _ => ?_) (fun _ => ?_)
    · refine gg_iconst (pc := 16) hC dX3_holdsReals_16 (x := 1) rfl ?_
      refine gg_goto (pc := 17) hC dX3_holdsReals_17 (tgt := 21) rfl ?_
      exact gg_zretr (pc := 21) hR dX3_holdsReals_21 rfl
    · refine gg_iconst (pc := 20) hC dX3_holdsReals_20 (x := 0) rfl ?_
      exact gg_zretr (pc := 21) hR dX3_holdsReals_21 rfl
def fX3_isLost (k : Nat) (σ : zS) : Option (Int32) :=
    if (zi σ (20 + k)) = (-1 : Int32) then (some 1) else
    (some 0)
set_option maxHeartbeats 4000000 in
set_option maxRecDepth 100000 in
theorem mX3_isLost {l : Launch} {D : va_G} {A : Nat → Nat} {cA : Nat → ClassId} {k : Nat} (hk : k < 4) {σ : zS} {r : Int32} (h : fX3_isLost k σ = some r) : zMI l D (wX A cA) yX3_isLost (zws yX3_isLost cX3_isLost 1 (some .boolean)) 0 0 [.ref (A (23 + k))] σ (r, σ) := by
  refine zm_Zr (lv := [(0, .ref (A (23 + k)))]) rfl (sX_ok A) (Nat.le_of_ble_eq_true rfl) rfl (fun C _ _ hC hR => ?_) h
  unfold fX3_isLost
  refine gg_aload_n (pc := 0) hC dX3_isLost_0 (i := 0) rfl 0 rfl ?_
  refine gg_get (pc := 1) hC dX3_isLost_1 fX3_23 (23 + k) (pX_cS hk) (v := .int (zi σ (20 + k))) rfl ?_
  refine gg_iconst (pc := 4) hC dX3_isLost_4 (x := -1) rfl ?_
  refine gg_icmp_ne (pc := 5) hC dX3_isLost_5 (tgt := 12) rfl (fun _ => ?_) (fun _ => ?_)
  · refine gg_iconst (pc := 8) hC dX3_isLost_8 (x := 1) rfl ?_
    refine gg_goto (pc := 9) hC dX3_isLost_9 (tgt := 13) rfl ?_
    exact gg_zretr (pc := 13) hR dX3_isLost_13 rfl
  · refine gg_iconst (pc := 12) hC dX3_isLost_12 (x := 0) rfl ?_
    exact gg_zretr (pc := 13) hR dX3_isLost_13 rfl
def fX3_store (k : Nat) (v1 : Int32) (v2 : Int32) (σ : zS) : Option (zS) :=
    zg (zq v1 40) (zv (wa σ (20 + k) v1.toNatClampNeg (vp_nar .boolean 0)) (fun (s1 : zS) =>
    if (zi s1 (20 + k)) = 0 then (zg (zq v1 40) (zv (wj s1 (10 + k) v1.toNatClampNeg (v2.toInt64)) (fun (s2 : zS) =>
    some s2))) else
    if (zi s1 (20 + k)) = 1 then (zg (zq v1 40) (zv (wj s1 (10 + k) v1.toNatClampNeg ((v2.toInt64) * (100000007 : Int64))) (fun (s4 : zS) =>
    some s4))) else
    if (zi s1 (20 + k)) = 2 then (zg (zn32 (FP.fdiv (FP.i2f v2) (1090519040 : UInt32))) (zg (zn64 (FP.f2d (FP.fdiv (FP.i2f v2) (1090519040 : UInt32)))) (zg (zq v1 40) (zv (wd s1 (0 + k) v1.toNatClampNeg (FP.f2d (FP.fdiv (FP.i2f v2) (1090519040 : UInt32)))) (fun (s6 : zS) =>
    some s6))))) else
    (zg (zn64 (FP.ddiv (FP.i2d v2) (4620693217682128896 : UInt64))) (zg (zq v1 40) (zv (wd s1 (0 + k) v1.toNatClampNeg (FP.ddiv (FP.i2d v2) (4620693217682128896 : UInt64))) (fun (s8 : zS) =>
    some s8))))))
set_option maxHeartbeats 4000000 in
set_option maxRecDepth 100000 in
theorem mX3_store {l : Launch} {D : va_G} {A : Nat → Nat} {cA : Nat → ClassId} {k : Nat} {v1 : Int32} {v2 : Int32} (hk : k < 4) {σ : zS} {r : zS} (h : fX3_store k v1 v2 σ = some r) : zMV l D (wX A cA) yX3_store (zws yX3_store cX3_store 3 none) 0 0 [.ref (A (23 + k)), .int v1, .int v2] σ r := by
  refine zm_V (lv := [(0, .ref (A (23 + k))), (1, .int v1), (2, .int v2)]) rfl (sX_ok A) (Nat.le_of_ble_eq_true rfl) rfl (fun C _ _ hC hR => ?_) h
  unfold fX3_store
  refine gg_aload_n (pc := 0) hC dX3_store_0 (i := 0) rfl 0 rfl ?_
  refine gg_get (pc := 1) hC dX3_store_1 fX3_19 (23 + k) (pX_cS hk) (v := .ref (A (35 + k))) rfl ?_
  refine gg_iload_n (pc := 4) hC dX3_store_4 (i := 1) rfl 1 rfl ?_
  refine gg_iconst (pc := 5) hC dX3_store_5 (x := 0) rfl ?_
  refine gg_zast (pc := 6) hC dX3_store_6 (35 + k) 2 (pX_cN hk) rfl (sX_cN hk) ?_
  refine gg_zvs (fun s1 => ?_)
  refine gg_aload_n (pc := 7) hC dX3_store_7 (i := 0) rfl 0 rfl ?_
  refine gg_get (pc := 8) hC dX3_store_8 fX3_23 (23 + k) (pX_cS hk) (v := .int (zi s1 (20 + k))) rfl ?_
  refine gg_ite (fun hc3 => ?_) (fun hc3 => ?_)
  · refine gg_tabIn (pc := 11) hC dX3_store_11 (by rw [hc3]; decide) (by rw [hc3]; decide) (off := 25) (by rw [hc3]; rfl) (tgt := 36) rfl ?_
    refine gg_aload_n (pc := 36) hC dX3_store_36 (i := 0) rfl 0 rfl ?_
    refine gg_get (pc := 37) hC dX3_store_37 fX3_9 (23 + k) (pX_cS hk) (v := .ref (A (27 + k))) rfl ?_
    refine gg_iload_n (pc := 40) hC dX3_store_40 (i := 1) rfl 1 rfl ?_
    refine gg_iload_n (pc := 41) hC dX3_store_41 (i := 2) rfl 2 rfl ?_
    refine gg_i2l (pc := 42) hC dX3_store_42 ?_
    refine gg_last (pc := 43) hC dX3_store_43 (27 + k) 1 (pX_cW hk) rfl (sX_cW hk) ?_
    refine gg_zvs (fun s2 => ?_)
    refine gg_goto (pc := 44) hC dX3_store_44 (tgt := 89) rfl ?_
    exact gg_vret (pc := 89) hR dX3_store_89
  · skip
    refine gg_ite (fun hc5 => ?_) (fun hc5 => ?_)
    · refine gg_tabIn (pc := 11) hC dX3_store_11 (by rw [hc5]; decide) (by rw [hc5]; decide) (off := 36) (by rw [hc5]; rfl) (tgt := 47) rfl ?_
      refine gg_aload_n (pc := 47) hC dX3_store_47 (i := 0) rfl 0 rfl ?_
      refine gg_get (pc := 48) hC dX3_store_48 fX3_9 (23 + k) (pX_cS hk) (v := .ref (A (27 + k))) rfl ?_
      refine gg_iload_n (pc := 51) hC dX3_store_51 (i := 1) rfl 1 rfl ?_
      refine gg_iload_n (pc := 52) hC dX3_store_52 (i := 2) rfl 2 rfl ?_
      refine gg_i2l (pc := 53) hC dX3_store_53 ?_
      refine gg_ldc2 (pc := 54) hC dX3_store_54 qX3_30 ?_
      refine gg_lmul (pc := 57) hC dX3_store_57 ?_
      refine gg_last (pc := 58) hC dX3_store_58 (27 + k) 1 (pX_cW hk) rfl (sX_cW hk) ?_
      refine gg_zvs (fun s4 => ?_)
      refine gg_goto (pc := 59) hC dX3_store_59 (tgt := 89) rfl ?_
      exact gg_vret (pc := 89) hR dX3_store_89
    · skip
      refine gg_ite (fun hc7 => ?_) (fun hc7 => ?_)
      · refine gg_tabIn (pc := 11) hC dX3_store_11 (by rw [hc7]; decide) (by rw [hc7]; decide) (off := 51) (by rw [hc7]; rfl) (tgt := 62) rfl ?_
        refine gg_aload_n (pc := 62) hC dX3_store_62 (i := 0) rfl 0 rfl ?_
        refine gg_get (pc := 63) hC dX3_store_63 fX3_15 (23 + k) (pX_cS hk) (v := .ref (A (31 + k))) rfl ?_
        refine gg_iload_n (pc := 66) hC dX3_store_66 (i := 1) rfl 1 rfl ?_
        refine gg_iload_n (pc := 67) hC dX3_store_67 (i := 2) rfl 2 rfl ?_
        refine gg_i2f (pc := 68) hC dX3_store_68 ?_
        refine gg_ldcf (pc := 69) hC dX3_store_69 qX3_32 ?_
        refine gg_fdiv (pc := 71) hC dX3_store_71 ?_
        refine gg_f2d (pc := 72) hC dX3_store_72 ?_
        refine gg_dast (pc := 73) hC dX3_store_73 (31 + k) 3 (pX_cR hk) rfl (sX_cR hk) ?_
        refine gg_zvs (fun s6 => ?_)
        refine gg_goto (pc := 74) hC dX3_store_74 (tgt := 89) rfl ?_
        exact gg_vret (pc := 89) hR dX3_store_89
      · skip
        refine gg_tabOut (pc := 11) hC dX3_store_11 (zsw_out (n := 2) (Nat.le_of_ble_eq_true rfl) (fun k hk => by
        match k, hk with
        | 0, _ => exact hc3
        | 1, _ => exact hc5
        | 2, _ => exact hc7)) (tgt := 77) rfl ?_
        refine gg_aload_n (pc := 77) hC dX3_store_77 (i := 0) rfl 0 rfl ?_
        refine gg_get (pc := 78) hC dX3_store_78 fX3_15 (23 + k) (pX_cS hk) (v := .ref (A (31 + k))) rfl ?_
        refine gg_iload_n (pc := 81) hC dX3_store_81 (i := 1) rfl 1 rfl ?_
        refine gg_iload_n (pc := 82) hC dX3_store_82 (i := 2) rfl 2 rfl ?_
        refine gg_i2d (pc := 83) hC dX3_store_83 ?_
        refine gg_ldc2d (pc := 84) hC dX3_store_84 qX3_33 ?_
        refine gg_ddiv (pc := 87) hC dX3_store_87 ?_
        refine gg_dast (pc := 88) hC dX3_store_88 (31 + k) 3 (pX_cR hk) rfl (sX_cR hk) ?_
        refine gg_zvs (fun s8 => ?_)
        exact gg_vret (pc := 89) hR dX3_store_89
def fX3_take_3 (k0 : Nat) (k1 : Nat) (v2 : Int32) (v3 : Int32) (v4 : Int32) : Nat → Int32 → zS → Option (zS)
  | 0, _, _ => none
  | n + 1, v5, σ =>
    if v4 ≤ v5 then (some σ) else
    (zy1 (if v3 ≤ v2 then (some v5) else
    (some ((v4 - 1) - v5))) (fun (x1 : Int32) =>
    zg (zq (v2 + x1) 40) (zg (zq (v3 + x1) 40) (zv (wj σ (10 + k0) (v3 + x1).toNatClampNeg (zj σ (10 + k1) (v2 + x1).toNatClampNeg)) (fun (s2 : zS) =>
    zg (zq (v2 + x1) 40) (zg (zq (v3 + x1) 40) (zv (wd s2 (0 + k0) (v3 + x1).toNatClampNeg (zd s2 (0 + k1) (v2 + x1).toNatClampNeg)) (fun (s3 : zS) =>
    zg (zq (v2 + x1) 40) (zg (zq (v3 + x1) 40) (zv (wa s3 (20 + k0) (v3 + x1).toNatClampNeg (vp_nar .boolean (za s3 (20 + k1) (v2 + x1).toNatClampNeg))) (fun (s4 : zS) =>
    fX3_take_3 k0 k1 v2 v3 v4 n (v5 + 1) s4)))))))))))
def fX3_take (k : Nat) (k2 : Nat) (v2 : Int32) (v3 : Int32) (v4 : Int32) (σ : zS) : Option (zS) :=
    zy1 (fX3_take_3 k k2 v2 v3 v4 500 0 σ) (fun (s1 : zS) =>
    some s1)
set_option maxHeartbeats 4000000 in
set_option maxRecDepth 100000 in
theorem lX3_take_3 {C : zK} {A : Nat → Nat} {cA : Nat → ClassId} (hC : zOK C (wX A cA) cX3_take RX3 7 0 0) {k0 : Nat} (hk0_ : k0 < 4) {k1 : Nat} (hk1_ : k1 < 4) {v2 : Int32} {v3 : Int32} {v4 : Int32} : ∀ (n : Nat) (v5 : Int32) (σ : zS), zG C (wX A cA) 7 (fun q => zW C (wX A cA) 7 89 [] [] q) (fX3_take_3 k0 k1 v2 v3 v4 n v5 σ) 3 [(0, .ref (A (23 + k0))), (1, .ref (A (23 + k1))), (2, .int v2), (3, .int v3), (4, .int v4), (5, .int v5)] [] σ := by
  intro n
  induction n with
  | zero => intro v5 σ; exact gg_none (o := none)
  | succ n ih =>
    intro v5 σ
    rw [fX3_take_3]
    refine gg_iload (pc := 3) hC dX3_take_3 5 rfl ?_
    refine gg_iload (pc := 5) hC dX3_take_5 4 rfl ?_
    refine gg_icmp_ge (pc := 7) hC dX3_take_7 (tgt := 89) rfl (fun _ => ?_) (fun _ => ?_)
    · exact gg_y (fun h => zW_lv [] rfl h)
    · refine gg_iload_n (pc := 10) hC dX3_take_10 (i := 2) rfl 2 rfl ?_
      refine gg_iload_n (pc := 11) hC dX3_take_11 (i := 3) rfl 3 rfl ?_
      refine gg_join1 (E' := (fun q => zW C (wX A cA) 7 27 [(0, .ref (A (23 + k0))), (1, .ref (A (23 + k1))), (2, .int v2), (3, .int v3), (4, .int v4), (5, .int v5)] [.int q] σ)) ?_ (fun x1 => ?_)
      · refine gg_icmp_ge (pc := 12) hC dX3_take_12 (tgt := 25) rfl (fun _ => ?_) (fun _ => ?_)
        · refine gg_iload (pc := 25) hC dX3_take_25 5 rfl ?_
          exact gg_y (fun h => zW_lv [0, 1, 2, 3, 4, 5] rfl h)
        · refine gg_iload (pc := 15) hC dX3_take_15 4 rfl ?_
          refine gg_iconst (pc := 17) hC dX3_take_17 (x := 1) rfl ?_
          refine gg_isub (pc := 18) hC dX3_take_18 ?_
          refine gg_iload (pc := 19) hC dX3_take_19 5 rfl ?_
          refine gg_isub (pc := 21) hC dX3_take_21 ?_
          refine gg_goto (pc := 22) hC dX3_take_22 (tgt := 27) rfl ?_
          exact gg_y (fun h => zW_lv [0, 1, 2, 3, 4, 5] rfl h)
      · show zG C (wX A cA) 7 _ _ 27 [(0, .ref (A (23 + k0))), (1, .ref (A (23 + k1))), (2, .int v2), (3, .int v3), (4, .int v4), (5, .int v5)] [.int x1] σ
        refine gg_istore (pc := 27) hC dX3_take_27 (Nat.le_of_ble_eq_true rfl) (lv' := [(6, .int x1), (0, .ref (A (23 + k0))), (1, .ref (A (23 + k1))), (2, .int v2), (3, .int v3), (4, .int v4), (5, .int v5)]) rfl ?_
        refine gg_aload_n (pc := 29) hC dX3_take_29 (i := 0) rfl 1 rfl ?_
        refine gg_get (pc := 30) hC dX3_take_30 fX3_9 (23 + k0) (pX_cS hk0_) (v := .ref (A (27 + k0))) rfl ?_
        refine gg_iload_n (pc := 33) hC dX3_take_33 (i := 3) rfl 4 rfl ?_
        refine gg_iload (pc := 34) hC dX3_take_34 0 rfl ?_
        refine gg_iadd (pc := 36) hC dX3_take_36 ?_
        refine gg_aload_n (pc := 37) hC dX3_take_37 (i := 1) rfl 2 rfl ?_
        refine gg_get (pc := 38) hC dX3_take_38 fX3_9 (23 + k1) (pX_cS hk1_) (v := .ref (A (27 + k1))) rfl ?_
        refine gg_iload_n (pc := 41) hC dX3_take_41 (i := 2) rfl 3 rfl ?_
        refine gg_iload (pc := 42) hC dX3_take_42 0 rfl ?_
        refine gg_iadd (pc := 44) hC dX3_take_44 ?_
        refine gg_lald (pc := 45) hC dX3_take_45 (27 + k1) 1 (pX_cW hk1_) rfl ?_
        refine gg_last (pc := 46) hC dX3_take_46 (27 + k0) 1 (pX_cW hk0_) rfl (sX_cW hk0_) ?_
        refine gg_zvs (fun s2 => ?_)
        refine gg_aload_n (pc := 47) hC dX3_take_47 (i := 0) rfl 1 rfl ?_
        refine gg_get (pc := 48) hC dX3_take_48 fX3_15 (23 + k0) (pX_cS hk0_) (v := .ref (A (31 + k0))) rfl ?_
        refine gg_iload_n (pc := 51) hC dX3_take_51 (i := 3) rfl 4 rfl ?_
        refine gg_iload (pc := 52) hC dX3_take_52 0 rfl ?_
        refine gg_iadd (pc := 54) hC dX3_take_54 ?_
        refine gg_aload_n (pc := 55) hC dX3_take_55 (i := 1) rfl 2 rfl ?_
        refine gg_get (pc := 56) hC dX3_take_56 fX3_15 (23 + k1) (pX_cS hk1_) (v := .ref (A (31 + k1))) rfl ?_
        refine gg_iload_n (pc := 59) hC dX3_take_59 (i := 2) rfl 3 rfl ?_
        refine gg_iload (pc := 60) hC dX3_take_60 0 rfl ?_
        refine gg_iadd (pc := 62) hC dX3_take_62 ?_
        refine gg_dald (pc := 63) hC dX3_take_63 (31 + k1) 3 (pX_cR hk1_) rfl ?_
        refine gg_dast (pc := 64) hC dX3_take_64 (31 + k0) 3 (pX_cR hk0_) rfl (sX_cR hk0_) ?_
        refine gg_zvs (fun s3 => ?_)
        refine gg_aload_n (pc := 65) hC dX3_take_65 (i := 0) rfl 1 rfl ?_
        refine gg_get (pc := 66) hC dX3_take_66 fX3_19 (23 + k0) (pX_cS hk0_) (v := .ref (A (35 + k0))) rfl ?_
        refine gg_iload_n (pc := 69) hC dX3_take_69 (i := 3) rfl 4 rfl ?_
        refine gg_iload (pc := 70) hC dX3_take_70 0 rfl ?_
        refine gg_iadd (pc := 72) hC dX3_take_72 ?_
        refine gg_aload_n (pc := 73) hC dX3_take_73 (i := 1) rfl 2 rfl ?_
        refine gg_get (pc := 74) hC dX3_take_74 fX3_19 (23 + k1) (pX_cS hk1_) (v := .ref (A (35 + k1))) rfl ?_
        refine gg_iload_n (pc := 77) hC dX3_take_77 (i := 2) rfl 3 rfl ?_
        refine gg_iload (pc := 78) hC dX3_take_78 0 rfl ?_
        refine gg_iadd (pc := 80) hC dX3_take_80 ?_
        refine gg_zald (pc := 81) hC dX3_take_81 (35 + k1) 2 (pX_cN hk1_) rfl ?_
        refine gg_zast (pc := 82) hC dX3_take_82 (35 + k0) 2 (pX_cN hk0_) rfl (sX_cN hk0_) ?_
        refine gg_zvs (fun s4 => ?_)
        refine gg_iinc (pc := 83) hC dX3_take_83 (y := 0) (j := 6) rfl (z := 1) rfl (Nat.le_of_ble_eq_true rfl) (lv' := [(5, .int (v5 + 1)), (6, .int x1), (0, .ref (A (23 + k0))), (1, .ref (A (23 + k1))), (2, .int v2), (3, .int v3), (4, .int v4)]) rfl ?_
        refine gg_goto (pc := 86) hC dX3_take_86 (tgt := 3) rfl ?_
        exact gg_lv [2, 3, 4, 5, 6, 0] rfl (ih _ _)
set_option maxHeartbeats 4000000 in
set_option maxRecDepth 100000 in
theorem mX3_take {l : Launch} {D : va_G} {A : Nat → Nat} {cA : Nat → ClassId} {k : Nat} {k2 : Nat} {v2 : Int32} {v3 : Int32} {v4 : Int32} (hk : k < 4) (hk2 : k2 < 4) {σ : zS} {r : zS} (h : fX3_take k k2 v2 v3 v4 σ = some r) : zMV l D (wX A cA) yX3_take (zws yX3_take cX3_take 7 none) 0 0 [.ref (A (23 + k)), .ref (A (23 + k2)), .int v2, .int v3, .int v4] σ r := by
  refine zm_V (lv := [(0, .ref (A (23 + k))), (1, .ref (A (23 + k2))), (2, .int v2), (3, .int v3), (4, .int v4)]) rfl (sX_ok A) (Nat.le_of_ble_eq_true rfl) rfl (fun C _ _ hC hR => ?_) h
  unfold fX3_take
  refine gg_iconst (pc := 0) hC dX3_take_0 (x := 0) rfl ?_
  refine gg_istore (pc := 1) hC dX3_take_1 (Nat.le_of_ble_eq_true rfl) (lv' := [(5, .int 0), (0, .ref (A (23 + k))), (1, .ref (A (23 + k2))), (2, .int v2), (3, .int v3), (4, .int v4)]) rfl ?_
  refine gg_join1 (E' := (fun q => zW C (wX A cA) 7 89 [] [] q)) (gg_lv [1, 2, 3, 4, 5, 0] rfl (lX3_take_3 hC hk hk2 500 _ _)) (fun s1 => ?_)
  show zG C (wX A cA) 7 _ _ 89 [] [] s1
  exact gg_vret (pc := 89) hR dX3_take_89
def fX3_told (k : Nat) (v1 : Int32) (σ : zS) : Option (Int64) :=
    zy1 (fX3_holdsReals k σ) (fun x1 =>
    if x1 = 0 then (zg (zq v1 40) (some (zj σ (10 + k) v1.toNatClampNeg))) else
    (zg (zq v1 40) (zg (zn64 (FP.dmul (4620693217682128896 : UInt64) (zd σ (0 + k) v1.toNatClampNeg))) (some (FP.d2l (FP.dmul (4620693217682128896 : UInt64) (zd σ (0 + k) v1.toNatClampNeg)))))))
set_option maxHeartbeats 4000000 in
set_option maxRecDepth 100000 in
theorem mX3_told {l : Launch} {D : va_G} {A : Nat → Nat} {cA : Nat → ClassId} {k : Nat} {v1 : Int32} (hk : k < 4) {σ : zS} {r : Int64} (h : fX3_told k v1 σ = some r) : zML l D (wX A cA) yX3_told (zws yX3_told cX3_told 2 (some .long)) 1 20 [.ref (A (23 + k)), .int v1] σ (r, σ) := by
  refine zm_Lr (lv := [(0, .ref (A (23 + k))), (1, .int v1)]) rfl (sX_ok A) (Nat.le_of_ble_eq_true rfl) rfl (fun C _ _ hC hR => ?_) h
  unfold fX3_told
  refine gg_aload_n (pc := 0) hC dX3_told_0 (i := 0) rfl 0 rfl ?_
  refine gg_callVIr (pc := 1) hC dX3_told_1 vX3_35 (fun _ h => mX3_holdsReals hk h) (Nat.le_of_ble_eq_true rfl) (Nat.le_of_ble_eq_true rfl) (As := []) (rest := []) rfl rfl (Nat.le_of_ble_eq_true rfl) (23 + k) 3 (pX_cS hk) rfl (fun x1 => ?_)
  refine gg_if_eq (pc := 4) hC dX3_told_4 (tgt := 21) rfl (fun _ => ?_) (fun _ => ?_)
  · refine gg_aload_n (pc := 21) hC dX3_told_21 (i := 0) rfl 0 rfl ?_
    refine gg_get (pc := 22) hC dX3_told_22 fX3_9 (23 + k) (pX_cS hk) (v := .ref (A (27 + k))) rfl ?_
    refine gg_iload_n (pc := 25) hC dX3_told_25 (i := 1) rfl 1 rfl ?_
    refine gg_lald (pc := 26) hC dX3_told_26 (27 + k) 1 (pX_cW hk) rfl ?_
    exact gg_lretr (pc := 27) hR dX3_told_27
  · refine gg_ldc2d (pc := 7) hC dX3_told_7 qX3_33 ?_
    refine gg_aload_n (pc := 10) hC dX3_told_10 (i := 0) rfl 0 rfl ?_
    refine gg_get (pc := 11) hC dX3_told_11 fX3_15 (23 + k) (pX_cS hk) (v := .ref (A (31 + k))) rfl ?_
    refine gg_iload_n (pc := 14) hC dX3_told_14 (i := 1) rfl 1 rfl ?_
    refine gg_dald (pc := 15) hC dX3_told_15 (31 + k) 3 (pX_cR hk) rfl ?_
    refine gg_dmul (pc := 16) hC dX3_told_16 ?_
    refine gg_d2l (pc := 17) hC dX3_told_17 ?_
    refine gg_goto (pc := 18) hC dX3_told_18 (tgt := 27) rfl ?_
    exact gg_lretr (pc := 27) hR dX3_told_27

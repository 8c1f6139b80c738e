def fX6_back  (σ : zS) : Option (Int32 × zS) :=
    if (zi σ 8) = 0 then (some ((-3 : Int32), σ)) else
    (zv (wi σ 8 ((zi σ 8) - 1)) (fun (s1 : zS) =>
    zv (wi s1 4 1) (fun (s2 : zS) =>
    some ((zi s2 8), s2))))
set_option maxHeartbeats 4000000 in
set_option maxRecDepth 100000 in
theorem mX6_back {l : Launch} {D : va_G} {A : Nat → Nat} {cA : Nat → ClassId}   {σ : zS} {r : Int32 × zS} (h : fX6_back  σ = some r) : zMI l D (wX A cA) yX6_back (zws yX6_back cX6_back 1 (some .int)) 0 0 [.ref (A 0)] σ r := by
  refine zm_I (lv := [(0, .ref (A 0))]) rfl (sX_ok A) (Nat.le_of_ble_eq_true rfl) rfl (fun C _ _ hC hR => ?_) h
  unfold fX6_back
  refine gg_aload_n (pc := 0) hC dX6_back_0 (i := 0) rfl 0 rfl ?_
  refine gg_get (pc := 1) hC dX6_back_1 fX6_26 0 pX_0 (v := .ref (A 3)) rfl ?_
  refine gg_get (pc := 4) hC dX6_back_4 fX6_204 3 pX_3 (v := .int (zi σ 8)) rfl ?_
  refine gg_if_ne (pc := 7) hC dX6_back_7 (tgt := 13) rfl (fun _ => ?_) (fun _ => ?_)
  · refine gg_bipush (pc := 10) hC dX6_back_10 (x := -3) rfl ?_
    exact gg_iret (pc := 12) hR dX6_back_12
  · refine gg_aload_n (pc := 13) hC dX6_back_13 (i := 0) rfl 0 rfl ?_
    refine gg_get (pc := 14) hC dX6_back_14 fX6_26 0 pX_0 (v := .ref (A 3)) rfl ?_
    refine gg_dup (pc := 17) hC dX6_back_17 rfl ?_
    refine gg_get (pc := 18) hC dX6_back_18 fX6_204 3 pX_3 (v := .int (zi σ 8)) rfl ?_
    refine gg_iconst (pc := 21) hC dX6_back_21 (x := 1) rfl ?_
    refine gg_isub (pc := 22) hC dX6_back_22 ?_
    refine gg_put (pc := 23) hC dX6_back_23 fX6_204 tX1_2 3 pX_3 rfl rfl rfl (Nat.le_of_ble_eq_true rfl) sX_3_4 ?_
    refine gg_zvs (fun s1 => ?_)
    refine gg_aload_n (pc := 26) hC dX6_back_26 (i := 0) rfl 0 rfl ?_
    refine gg_iconst (pc := 27) hC dX6_back_27 (x := 1) rfl ?_
    refine gg_put (pc := 28) hC dX6_back_28 fX6_67 tX6_2 0 pX_0 rfl rfl rfl (Nat.le_of_ble_eq_true rfl) sX_0_11 ?_
    refine gg_zvs (fun s2 => ?_)
    refine gg_aload_n (pc := 31) hC dX6_back_31 (i := 0) rfl 0 rfl ?_
    refine gg_get (pc := 32) hC dX6_back_32 fX6_26 0 pX_0 (v := .ref (A 3)) rfl ?_
    refine gg_get (pc := 35) hC dX6_back_35 fX6_204 3 pX_3 (v := .int (zi s2 8)) rfl ?_
    exact gg_iret (pc := 38) hR dX6_back_38
def fX6_isWithin (v0 : Int32) (v1 : Int32) (v2 : Int32) (σ : zS) : Option (Int32) :=
    if v0 < v1 then (some 0) else
    (if v2 < v0 then (some 0) else
    (some 1))
set_option maxHeartbeats 4000000 in
set_option maxRecDepth 100000 in
theorem mX6_isWithin {l : Launch} {D : va_G} {A : Nat → Nat} {cA : Nat → ClassId} {v0 : Int32} {v1 : Int32} {v2 : Int32}  {σ : zS} {r : Int32} (h : fX6_isWithin v0 v1 v2 σ = some r) : zMI l D (wX A cA) yX6_isWithin (zws yX6_isWithin cX6_isWithin 3 (some .boolean)) 0 0 [.int v0, .int v1, .int v2] σ (r, σ) := by
  refine zm_Zr (lv := [(0, .int v0), (1, .int v1), (2, .int v2)]) rfl (sX_ok A) (Nat.le_of_ble_eq_true rfl) rfl (fun C _ _ hC hR => ?_) h
  unfold fX6_isWithin
  refine gg_iload_n (pc := 0) hC dX6_isWithin_0 (i := 0) rfl 0 rfl ?_
  refine gg_iload_n (pc := 1) hC dX6_isWithin_1 (i := 1) rfl 1 rfl ?_
  refine gg_icmp_lt (pc := 2) hC dX6_isWithin_2 (tgt := 14) rfl (fun _ => ?_) (fun _ => ?_)
  · refine gg_iconst (pc := 14) hC dX6_isWithin_14 (x := 0) rfl ?_
    exact gg_zretr (pc := 15) hR dX6_isWithin_15 rfl
  · refine gg_iload_n (pc := 5) hC dX6_isWithin_5 (i := 0) rfl 0 rfl ?_
    refine gg_iload_n (pc := 6) hC dX6_isWithin_6 (i := 2) rfl 2 rfl ?_
    refine gg_icmp_gt (pc := 7) hC dX6_isWithin_7 (tgt := 14) rfl (fun _ => ?_) (fun _ => ?_)
    · refine gg_iconst (pc := 14) hC dX6_isWithin_14 (x := 0) rfl ?_
      exact gg_zretr (pc := 15) hR dX6_isWithin_15 rfl
    · refine gg_iconst (pc := 10) hC dX6_isWithin_10 (x := 1) rfl ?_
      refine gg_goto (pc := 11) hC dX6_isWithin_11 (tgt := 15) rfl ?_
      exact gg_zretr (pc := 15) hR dX6_isWithin_15 rfl
def fX6_isBin (v1 : Int32) (σ : zS) : Option (Int32) :=
    zy1 (fX6_isWithin v1 0 ((zi σ 6) - 1) σ) (fun x1 =>
    zg (zz x1) (some x1))
set_option maxHeartbeats 4000000 in
set_option maxRecDepth 100000 in
theorem mX6_isBin {l : Launch} {D : va_G} {A : Nat → Nat} {cA : Nat → ClassId} {v1 : Int32}  {σ : zS} {r : Int32} (h : fX6_isBin v1 σ = some r) : zMI l D (wX A cA) yX6_isBin (zws yX6_isBin cX6_isBin 2 (some .boolean)) 1 22 [.ref (A 0), .int v1] σ (r, σ) := by
  refine zm_Zr (lv := [(0, .ref (A 0)), (1, .int v1)]) rfl (sX_ok A) (Nat.le_of_ble_eq_true rfl) rfl (fun C _ _ hC hR => ?_) h
  unfold fX6_isBin
  refine gg_iload_n (pc := 0) hC dX6_isBin_0 (i := 1) rfl 1 rfl ?_
  refine gg_iconst (pc := 1) hC dX6_isBin_1 (x := 0) rfl ?_
  refine gg_aload_n (pc := 2) hC dX6_isBin_2 (i := 0) rfl 0 rfl ?_
  refine gg_get (pc := 3) hC dX6_isBin_3 fX6_19 0 pX_0 (v := .ref (A 2)) rfl ?_
  refine gg_get (pc := 6) hC dX6_isBin_6 fX6_110 2 pX_2 (v := .int (zi σ 6)) rfl ?_
  refine gg_iconst (pc := 9) hC dX6_isBin_9 (x := 1) rfl ?_
  refine gg_isub (pc := 10) hC dX6_isBin_10 ?_
  refine gg_callSIr (pc := 11) hC dX6_isBin_11 cX6_87 (fun _ h => mX6_isWithin h) (Nat.le_of_ble_eq_true rfl) (Nat.le_of_ble_eq_true rfl) (As := [.int v1, .int 0, .int ((zi σ 6) - 1)]) (rest := []) rfl rfl (Nat.le_of_ble_eq_true rfl) (fun x1 => ?_)
  exact gg_zretgr (pc := 14) hR dX6_isBin_14
def fX6_bin (v1 : Int32) (v2 : Int32) (σ : zS) : Option (Int32) :=
    zy1 (fX6_isBin v1 σ) (fun x1 =>
    if x1 = 0 then (some (-2 : Int32)) else
    (zy1 (fX6_isWithin v2 0 2 σ) (fun x2 =>
    if x2 = 0 then (some (-2 : Int32)) else
    (if v2 = 0 then (zg (zq v1 12) (some (za σ 2 v1.toNatClampNeg))) else
    (if v2 = 1 then (zy1 (fX0_widthOf v1 σ) (fun x3 =>
    some x3)) else
    (zg (zq v1 12) (some (za σ 3 v1.toNatClampNeg))))))))
set_option maxHeartbeats 4000000 in
set_option maxRecDepth 100000 in
theorem mX6_bin {l : Launch} {D : va_G} {A : Nat → Nat} {cA : Nat → ClassId} {v1 : Int32} {v2 : Int32}  {σ : zS} {r : Int32} (h : fX6_bin v1 v2 σ = some r) : zMI l D (wX A cA) yX6_bin (zws yX6_bin cX6_bin 3 (some .int)) 2 43 [.ref (A 0), .int v1, .int v2] σ (r, σ) := by
  refine zm_Ir (lv := [(0, .ref (A 0)), (1, .int v1), (2, .int v2)]) rfl (sX_ok A) (Nat.le_of_ble_eq_true rfl) rfl (fun C _ _ hC hR => ?_) h
  unfold fX6_bin
  refine gg_aload_n (pc := 0) hC dX6_bin_0 (i := 0) rfl 0 rfl ?_
  refine gg_iload_n (pc := 1) hC dX6_bin_1 (i := 1) rfl 1 rfl ?_
  refine gg_callVIr (pc := 2) hC dX6_bin_2 vX6_128 (fun _ h => mX6_isBin h) (Nat.le_of_ble_eq_true rfl) (Nat.le_of_ble_eq_true rfl) (As := [.int v1]) (rest := []) rfl rfl (Nat.le_of_ble_eq_true rfl) 0 6 pX_0 rfl (fun x1 => ?_)
  refine gg_if_eq (pc := 5) hC dX6_bin_5 (tgt := 17) rfl (fun _ => ?_) (fun _ => ?_)
  · refine gg_bipush (pc := 17) hC dX6_bin_17 (x := -2) rfl ?_
    exact gg_iretr (pc := 19) hR dX6_bin_19
  · refine gg_iload_n (pc := 8) hC dX6_bin_8 (i := 2) rfl 2 rfl ?_
    refine gg_iconst (pc := 9) hC dX6_bin_9 (x := 0) rfl ?_
    refine gg_iconst (pc := 10) hC dX6_bin_10 (x := 2) rfl ?_
    refine gg_callSIr (pc := 11) hC dX6_bin_11 cX6_87 (fun _ h => mX6_isWithin h) (Nat.le_of_ble_eq_true rfl) (Nat.le_of_ble_eq_true rfl) (As := [.int v2, .int 0, .int 2]) (rest := []) rfl rfl (Nat.le_of_ble_eq_true rfl) (fun x2 => ?_)
    refine gg_if_ne (pc := 14) hC dX6_bin_14 (tgt := 20) rfl (fun _ => ?_) (fun _ => ?_)
    · refine gg_bipush (pc := 17) hC dX6_bin_17 (x := -2) rfl ?_
      exact gg_iretr (pc := 19) hR dX6_bin_19
    · refine gg_iload_n (pc := 20) hC dX6_bin_20 (i := 2) rfl 2 rfl ?_
      refine gg_if_ne (pc := 21) hC dX6_bin_21 (tgt := 34) rfl (fun _ => ?_) (fun _ => ?_)
      · refine gg_aload_n (pc := 24) hC dX6_bin_24 (i := 0) rfl 0 rfl ?_
        refine gg_get (pc := 25) hC dX6_bin_25 fX6_19 0 pX_0 (v := .ref (A 2)) rfl ?_
        refine gg_get (pc := 28) hC dX6_bin_28 fX6_103 2 pX_2 (v := .ref (A 9)) rfl ?_
        refine gg_iload_n (pc := 31) hC dX6_bin_31 (i := 1) rfl 1 rfl ?_
        refine gg_iald (pc := 32) hC dX6_bin_32 9 0 pX_9 rfl ?_
        exact gg_iretr (pc := 33) hR dX6_bin_33
      · refine gg_iload_n (pc := 34) hC dX6_bin_34 (i := 2) rfl 2 rfl ?_
        refine gg_iconst (pc := 35) hC dX6_bin_35 (x := 1) rfl ?_
        refine gg_icmp_ne (pc := 36) hC dX6_bin_36 (tgt := 50) rfl (fun _ => ?_) (fun _ => ?_)
        · refine gg_aload_n (pc := 39) hC dX6_bin_39 (i := 0) rfl 0 rfl ?_
          refine gg_get (pc := 40) hC dX6_bin_40 fX6_19 0 pX_0 (v := .ref (A 2)) rfl ?_
          refine gg_iload_n (pc := 43) hC dX6_bin_43 (i := 1) rfl 1 rfl ?_
          refine gg_callVIr (pc := 44) hC dX6_bin_44 vX6_131 (fun _ h => mX0_widthOf h) (Nat.le_of_ble_eq_true rfl) (Nat.le_of_ble_eq_true rfl) (As := [.int v1]) (rest := []) rfl rfl (Nat.le_of_ble_eq_true rfl) 2 0 pX_2 rfl (fun x3 => ?_)
          refine gg_goto (pc := 47) hC dX6_bin_47 (tgt := 59) rfl ?_
          exact gg_iretr (pc := 59) hR dX6_bin_59
        · refine gg_aload_n (pc := 50) hC dX6_bin_50 (i := 0) rfl 0 rfl ?_
          refine gg_get (pc := 51) hC dX6_bin_51 fX6_19 0 pX_0 (v := .ref (A 2)) rfl ?_
          refine gg_get (pc := 54) hC dX6_bin_54 fX6_134 2 pX_2 (v := .ref (A 10)) rfl ?_
          refine gg_iload_n (pc := 57) hC dX6_bin_57 (i := 1) rfl 1 rfl ?_
          refine gg_iald (pc := 58) hC dX6_bin_58 10 0 pX_10 rfl ?_
          exact gg_iretr (pc := 59) hR dX6_bin_59
def fX6_finding (v1 : Int32) (σ : zS) : Option (Int32 × zS) :=
    zv (wi σ 3 v1) (fun (s1 : zS) =>
    some (((-10 : Int32) - v1), s1))
set_option maxHeartbeats 4000000 in
set_option maxRecDepth 100000 in
theorem mX6_finding {l : Launch} {D : va_G} {A : Nat → Nat} {cA : Nat → ClassId} {v1 : Int32}  {σ : zS} {r : Int32 × zS} (h : fX6_finding v1 σ = some r) : zMI l D (wX A cA) yX6_finding (zws yX6_finding cX6_finding 2 (some .int)) 0 0 [.ref (A 0), .int v1] σ r := by
  refine zm_I (lv := [(0, .ref (A 0)), (1, .int v1)]) rfl (sX_ok A) (Nat.le_of_ble_eq_true rfl) rfl (fun C _ _ hC hR => ?_) h
  unfold fX6_finding
  refine gg_aload_n (pc := 0) hC dX6_finding_0 (i := 0) rfl 0 rfl ?_
  refine gg_iload_n (pc := 1) hC dX6_finding_1 (i := 1) rfl 1 rfl ?_
  refine gg_put (pc := 2) hC dX6_finding_2 fX6_64 tX6_2 0 pX_0 rfl rfl rfl (Nat.le_of_ble_eq_true rfl) sX_0_10 ?_
  refine gg_zvs (fun s1 => ?_)
  refine gg_bipush (pc := 5) hC dX6_finding_5 (x := -10) rfl ?_
  refine gg_iload_n (pc := 7) hC dX6_finding_7 (i := 1) rfl 1 rfl ?_
  refine gg_isub (pc := 8) hC dX6_finding_8 ?_
  exact gg_iret (pc := 9) hR dX6_finding_9
def fX6_isSheet (v0 : Int32) (σ : zS) : Option (Int32) :=
    zy1 (fX6_isWithin v0 0 3 σ) (fun x1 =>
    zg (zz x1) (some x1))
set_option maxHeartbeats 4000000 in
set_option maxRecDepth 100000 in
theorem mX6_isSheet {l : Launch} {D : va_G} {A : Nat → Nat} {cA : Nat → ClassId} {v0 : Int32}  {σ : zS} {r : Int32} (h : fX6_isSheet v0 σ = some r) : zMI l D (wX A cA) yX6_isSheet (zws yX6_isSheet cX6_isSheet 1 (some .boolean)) 1 22 [.int v0] σ (r, σ) := by
  refine zm_Zr (lv := [(0, .int v0)]) rfl (sX_ok A) (Nat.le_of_ble_eq_true rfl) rfl (fun C _ _ hC hR => ?_) h
  unfold fX6_isSheet
  refine gg_iload_n (pc := 0) hC dX6_isSheet_0 (i := 0) rfl 0 rfl ?_
  refine gg_iconst (pc := 1) hC dX6_isSheet_1 (x := 0) rfl ?_
  refine gg_iconst (pc := 2) hC dX6_isSheet_2 (x := 3) rfl ?_
  refine gg_callSIr (pc := 3) hC dX6_isSheet_3 cX6_87 (fun _ h => mX6_isWithin h) (Nat.le_of_ble_eq_true rfl) (Nat.le_of_ble_eq_true rfl) (As := [.int v0, .int 0, .int 3]) (rest := []) rfl rfl (Nat.le_of_ble_eq_true rfl) (fun x1 => ?_)
  exact gg_zretgr (pc := 6) hR dX6_isSheet_6
def fX6_blank (v1 : Int32) (v2 : Int32) (σ : zS) : Option (Int32 × zS) :=
    zy1 (fX6_isSheet v1 σ) (fun x1 =>
    if x1 = 0 then (some ((-2 : Int32), σ)) else
    (zg (zq v1 4) (zy1 (fX3_isLost v1.toNatClampNeg σ) (fun x3 =>
    if x3 = 0 then (zy1 (fX3_holdsReals v1.toNatClampNeg σ) (fun x4 =>
    if x4 = 0 then (zy2 (fX6_finding 3 σ) (fun x5 s6 =>
    some (x5, s6))) else
    (zy1 (fX3_has v1.toNatClampNeg v2 σ) (fun x7 =>
    if x7 = 0 then (zy2 (fX6_finding 2 σ) (fun x8 s9 =>
    some (x8, s9))) else
    (zg (zq v2 40) (zv (wa σ (20 + v1.toNatClampNeg) v2.toNatClampNeg (vp_nar .boolean 1)) (fun (s10 : zS) =>
    some (1, s10)))))))) else
    (zy2 (fX6_finding 1 σ) (fun x11 s12 =>
    some (x11, s12)))))))
set_option maxHeartbeats 4000000 in
set_option maxRecDepth 100000 in
theorem mX6_blank {l : Launch} {D : va_G} {A : Nat → Nat} {cA : Nat → ClassId} {v1 : Int32} {v2 : Int32}  {σ : zS} {r : Int32 × zS} (h : fX6_blank v1 v2 σ = some r) : zMI l D (wX A cA) yX6_blank (zws yX6_blank cX6_blank 4 (some .int)) 2 42 [.ref (A 0), .int v1, .int v2] σ r := by
  refine zm_I (lv := [(0, .ref (A 0)), (1, .int v1), (2, .int v2)]) rfl (sX_ok A) (Nat.le_of_ble_eq_true rfl) rfl (fun C _ _ hC hR => ?_) h
  unfold fX6_blank
  refine gg_iload_n (pc := 0) hC dX6_blank_0 (i := 1) rfl 1 rfl ?_
  refine gg_callSIr (pc := 1) hC dX6_blank_1 cX6_254 (fun _ h => mX6_isSheet h) (Nat.le_of_ble_eq_true rfl) (Nat.le_of_ble_eq_true rfl) (As := [.int v1]) (rest := []) rfl rfl (Nat.le_of_ble_eq_true rfl) (fun x1 => ?_)
  refine gg_if_ne (pc := 4) hC dX6_blank_4 (tgt := 10) rfl (fun _ => ?_) (fun _ => ?_)
  · refine gg_bipush (pc := 7) hC dX6_blank_7 (x := -2) rfl ?_
    exact gg_iret (pc := 9) hR dX6_blank_9
  · refine gg_aload_n (pc := 10) hC dX6_blank_10 (i := 0) rfl 0 rfl ?_
    refine gg_get (pc := 11) hC dX6_blank_11 fX6_46 0 pX_0 (v := .ref (A 6)) rfl ?_
    refine gg_iload_n (pc := 14) hC dX6_blank_14 (i := 1) rfl 1 rfl ?_
    refine gg_sheets (pc := 15) hC dX6_blank_15 (fun hk2 => ?_)
    refine gg_astore_n (pc := 16) hC dX6_blank_16 (i := 3) rfl (Nat.le_of_ble_eq_true rfl) (lv' := [(3, .ref (A (23 + v1.toNatClampNeg))), (0, .ref (A 0)), (1, .int v1), (2, .int v2)]) rfl ?_
    refine gg_aload_n (pc := 17) hC dX6_blank_17 (i := 3) rfl 0 rfl ?_
    refine gg_callVIr (pc := 18) hC dX6_blank_18 vX6_266 (fun _ h => mX3_isLost hk2 h) (Nat.le_of_ble_eq_true rfl) (Nat.le_of_ble_eq_true rfl) (As := []) (rest := []) rfl rfl (Nat.le_of_ble_eq_true rfl) (23 + v1.toNatClampNeg) 3 (pX_cS hk2) rfl (fun x3 => ?_)
    refine gg_if_eq (pc := 21) hC dX6_blank_21 (tgt := 30) rfl (fun _ => ?_) (fun _ => ?_)
    · refine gg_aload_n (pc := 30) hC dX6_blank_30 (i := 3) rfl 0 rfl ?_
      refine gg_callVIr (pc := 31) hC dX6_blank_31 vX6_279 (fun _ h => mX3_holdsReals hk2 h) (Nat.le_of_ble_eq_true rfl) (Nat.le_of_ble_eq_true rfl) (As := []) (rest := []) rfl rfl (Nat.le_of_ble_eq_true rfl) (23 + v1.toNatClampNeg) 3 (pX_cS hk2) rfl (fun x4 => ?_)
      refine gg_if_ne (pc := 34) hC dX6_blank_34 (tgt := 43) rfl (fun _ => ?_) (fun _ => ?_)
      · refine gg_aload_n (pc := 37) hC dX6_blank_37 (i := 0) rfl 1 rfl ?_
        refine gg_iconst (pc := 38) hC dX6_blank_38 (x := 3) rfl ?_
        refine gg_callVI (pc := 39) hC dX6_blank_39 vX6_260 (fun _ h => mX6_finding h) (Nat.le_of_ble_eq_true rfl) (Nat.le_of_ble_eq_true rfl) (As := [.int 3]) (rest := []) rfl rfl (Nat.le_of_ble_eq_true rfl) 0 6 pX_0 rfl (fun x5 s6 => ?_)
        exact gg_iret (pc := 42) hR dX6_blank_42
      · refine gg_aload_n (pc := 43) hC dX6_blank_43 (i := 3) rfl 0 rfl ?_
        refine gg_iload_n (pc := 44) hC dX6_blank_44 (i := 2) rfl 3 rfl ?_
        refine gg_callVIr (pc := 45) hC dX6_blank_45 vX6_273 (fun _ h => mX3_has hk2 h) (Nat.le_of_ble_eq_true rfl) (Nat.le_of_ble_eq_true rfl) (As := [.int v2]) (rest := []) rfl rfl (Nat.le_of_ble_eq_true rfl) (23 + v1.toNatClampNeg) 3 (pX_cS hk2) rfl (fun x7 => ?_)
        refine gg_if_ne (pc := 48) hC dX6_blank_48 (tgt := 57) rfl (fun _ => ?_) (fun _ => ?_)
        · refine gg_aload_n (pc := 51) hC dX6_blank_51 (i := 0) rfl 1 rfl ?_
          refine gg_iconst (pc := 52) hC dX6_blank_52 (x := 2) rfl ?_
          refine gg_callVI (pc := 53) hC dX6_blank_53 vX6_260 (fun _ h => mX6_finding h) (Nat.le_of_ble_eq_true rfl) (Nat.le_of_ble_eq_true rfl) (As := [.int 2]) (rest := []) rfl rfl (Nat.le_of_ble_eq_true rfl) 0 6 pX_0 rfl (fun x8 s9 => ?_)
          exact gg_iret (pc := 56) hR dX6_blank_56
        · refine gg_aload_n (pc := 57) hC dX6_blank_57 (i := 3) rfl 0 rfl ?_
          refine gg_get (pc := 58) hC dX6_blank_58 fX6_282 (23 + v1.toNatClampNeg) (pX_cS hk2) (v := .ref (A (35 + v1.toNatClampNeg))) rfl ?_
          refine gg_iload_n (pc := 61) hC dX6_blank_61 (i := 2) rfl 3 rfl ?_
          refine gg_iconst (pc := 62) hC dX6_blank_62 (x := 1) rfl ?_
          refine gg_zast (pc := 63) hC dX6_blank_63 (35 + v1.toNatClampNeg) 2 (pX_cN hk2) rfl (sX_cN hk2) ?_
          refine gg_zvs (fun s10 => ?_)
          refine gg_iconst (pc := 64) hC dX6_blank_64 (x := 1) rfl ?_
          exact gg_iret (pc := 65) hR dX6_blank_65
    · refine gg_aload_n (pc := 24) hC dX6_blank_24 (i := 0) rfl 1 rfl ?_
      refine gg_iconst (pc := 25) hC dX6_blank_25 (x := 1) rfl ?_
      refine gg_callVI (pc := 26) hC dX6_blank_26 vX6_260 (fun _ h => mX6_finding h) (Nat.le_of_ble_eq_true rfl) (Nat.le_of_ble_eq_true rfl) (As := [.int 1]) (rest := []) rfl rfl (Nat.le_of_ble_eq_true rfl) 0 6 pX_0 rfl (fun x11 s12 => ?_)
      exact gg_iret (pc := 29) hR dX6_blank_29
def fX6_modeReads_15 (v1 : Nat) (σ : zS) : Nat → Int32 → Option (Int32)
  | 0, _ => none
  | n + 1, v2 =>
    if (zi σ 0) ≤ v2 then (some 1) else
    (zg (zq v2 5) (zg (zq v2 5) (if (sCh v1 v2.toNatClampNeg) = (za σ 0 v2.toNatClampNeg) then (fX6_modeReads_15 v1 σ n (v2 + 1)) else
    (some 0))))
def fX6_modeReads (v1 : Nat) (σ : zS) : Option (Int32) :=
    if 5 = (zi σ 0) then (fX6_modeReads_15 v1 σ 500 0) else
    (some 0)
set_option maxHeartbeats 4000000 in
set_option maxRecDepth 100000 in
theorem lX6_modeReads_15 {C : zK} {A : Nat → Nat} {cA : Nat → ClassId} (hC : zOK C (wX A cA) cX6_modeReads RX6 3 4 85) {v1 : Nat} (ht : v1 < 2) {σ : zS} {r : Int32} (hR : zRZ C (wX A cA) 3 cX6_modeReads (r, σ)) : ∀ (n : Nat) (v2 : Int32), zG C (wX A cA) 3 (fun v => v = r) (fX6_modeReads_15 v1 σ n v2) 15 [(0, .ref (A 0)), (1, .ref (A (100 + v1))), (2, .int v2)] [] σ := by
  intro n
  induction n with
  | zero => intro v2; exact gg_none (o := none)
  | succ n ih =>
    intro v2
    rw [fX6_modeReads_15]
    refine gg_iload_n (pc := 15) hC dX6_modeReads_15 (i := 2) rfl 2 rfl ?_
    refine gg_aload_n (pc := 16) hC dX6_modeReads_16 (i := 0) rfl 0 rfl ?_
    refine gg_get (pc := 17) hC dX6_modeReads_17 fX6_54 0 pX_0 (v := .int (zi σ 0)) rfl ?_
    refine gg_icmp_ge (pc := 20) hC dX6_modeReads_20 (tgt := 45) rfl (fun _ => ?_) (fun _ => ?_)
    · refine gg_iconst (pc := 45) hC dX6_modeReads_45 (x := 1) rfl ?_
      exact gg_zretr (pc := 46) hR dX6_modeReads_46 rfl
    · refine gg_aload_n (pc := 23) hC dX6_modeReads_23 (i := 1) rfl 1 rfl ?_
      refine gg_iload_n (pc := 24) hC dX6_modeReads_24 (i := 2) rfl 2 rfl ?_
      refine gg_schar (pc := 25) hC dX6_modeReads_25 ht (k := ?_)
      refine gg_aload_n (pc := 28) hC dX6_modeReads_28 (i := 0) rfl 0 rfl ?_
      refine gg_get (pc := 29) hC dX6_modeReads_29 fX6_50 0 pX_0 (v := .ref (A 7)) rfl ?_
      refine gg_iload_n (pc := 32) hC dX6_modeReads_32 (i := 2) rfl 2 rfl ?_
      refine gg_iald (pc := 33) hC dX6_modeReads_33 7 0 pX_7 rfl ?_
      refine gg_icmp_eq (pc := 34) hC dX6_modeReads_34 (tgt := 39) rfl (fun _ => ?_) (fun _ => ?_)
      · refine gg_iinc (pc := 39) hC dX6_modeReads_39 (y := 0) (j := 2) rfl (z := 1) rfl (Nat.le_of_ble_eq_true rfl) (lv' := [(2, .int (v2 + 1)), (0, .ref (A 0)), (1, .ref (A (100 + v1)))]) rfl ?_
        refine gg_goto (pc := 42) hC dX6_modeReads_42 (tgt := 15) rfl ?_
        exact gg_lv [1, 2, 0] rfl (ih _)
      · refine gg_iconst (pc := 37) hC dX6_modeReads_37 (x := 0) rfl ?_
        exact gg_zretr (pc := 38) hR dX6_modeReads_38 rfl
set_option maxHeartbeats 4000000 in
set_option maxRecDepth 100000 in
theorem mX6_modeReads {l : Launch} {D : va_G} {A : Nat → Nat} {cA : Nat → ClassId} {v1 : Nat} (ht : v1 < 2) {σ : zS} {r : Int32} (h : fX6_modeReads v1 σ = some r) : zMI l D (wX A cA) yX6_modeReads (zws yX6_modeReads cX6_modeReads 3 (some .boolean)) 4 85 [.ref (A 0), .ref (A (100 + v1))] σ (r, σ) := by
  refine zm_Zr (lv := [(0, .ref (A 0)), (1, .ref (A (100 + v1)))]) rfl (sX_ok A) (Nat.le_of_ble_eq_true rfl) rfl (fun C _ _ hC hR => ?_) h
  unfold fX6_modeReads
  refine gg_aload_n (pc := 0) hC dX6_modeReads_0 (i := 1) rfl 1 rfl ?_
  refine gg_slen (pc := 1) hC dX6_modeReads_1 ht (k := ?_)
  refine gg_aload_n (pc := 4) hC dX6_modeReads_4 (i := 0) rfl 0 rfl ?_
  refine gg_get (pc := 5) hC dX6_modeReads_5 fX6_54 0 pX_0 (v := .int (zi σ 0)) rfl ?_
  refine gg_icmp_eq (pc := 8) hC dX6_modeReads_8 (tgt := 13) rfl (fun _ => ?_) (fun _ => ?_)
  · refine gg_iconst (pc := 13) hC dX6_modeReads_13 (x := 0) rfl ?_
    refine gg_istore_n (pc := 14) hC dX6_modeReads_14 (i := 2) rfl (Nat.le_of_ble_eq_true rfl) (lv' := [(2, .int 0), (0, .ref (A 0)), (1, .ref (A (100 + v1)))]) rfl ?_
    exact gg_lv [1, 2, 0] rfl (lX6_modeReads_15 hC ht hR 500 _)
  · refine gg_iconst (pc := 11) hC dX6_modeReads_11 (x := 0) rfl ?_
    exact gg_zretr (pc := 12) hR dX6_modeReads_12 rfl
def fX6_mode  (σ : zS) : Option (Int32) :=
    zy1 (fX6_modeReads 0 σ) (fun x1 =>
    if x1 = 0 then (zy1 (fX6_modeReads 1 σ) (fun x2 =>
    if x2 = 0 then (some 0) else
    (some 2))) else
    (some 1))
set_option maxHeartbeats 4000000 in
set_option maxRecDepth 100000 in
theorem mX6_mode {l : Launch} {D : va_G} {A : Nat → Nat} {cA : Nat → ClassId}   {σ : zS} {r : Int32} (h : fX6_mode  σ = some r) : zMI l D (wX A cA) yX6_mode (zws yX6_mode cX6_mode 1 (some .int)) 5 107 [.ref (A 0)] σ (r, σ) := by
  refine zm_Ir (lv := [(0, .ref (A 0))]) rfl (sX_ok A) (Nat.le_of_ble_eq_true rfl) rfl (fun C _ _ hC hR => ?_) h
  unfold fX6_mode
  refine gg_aload_n (pc := 0) hC dX6_mode_0 (i := 0) rfl 0 rfl ?_
  refine gg_str0 (pc := 1) hC dX6_mode_1 ?_
  refine gg_callVIr (pc := 3) hC dX6_mode_3 vX6_156 (fun _ h => mX6_modeReads (by decide) h) (Nat.le_of_ble_eq_true rfl) (Nat.le_of_ble_eq_true rfl) (As := [.ref (A (100 + 0))]) (rest := []) rfl rfl (Nat.le_of_ble_eq_true rfl) 0 6 pX_0 rfl (fun x1 => ?_)
  refine gg_if_eq (pc := 6) hC dX6_mode_6 (tgt := 11) rfl (fun _ => ?_) (fun _ => ?_)
  · refine gg_aload_n (pc := 11) hC dX6_mode_11 (i := 0) rfl 0 rfl ?_
    refine gg_str1 (pc := 12) hC dX6_mode_12 ?_
    refine gg_callVIr (pc := 14) hC dX6_mode_14 vX6_156 (fun _ h => mX6_modeReads (by decide) h) (Nat.le_of_ble_eq_true rfl) (Nat.le_of_ble_eq_true rfl) (As := [.ref (A (100 + 1))]) (rest := []) rfl rfl (Nat.le_of_ble_eq_true rfl) 0 6 pX_0 rfl (fun x2 => ?_)
    refine gg_if_eq (pc := 17) hC dX6_mode_17 (tgt := 24) rfl (fun _ => ?_) (fun _ => ?_)
    · refine gg_iconst (pc := 24) hC dX6_mode_24 (x := 0) rfl ?_
      exact gg_iretr (pc := 25) hR dX6_mode_25
    · refine gg_iconst (pc := 20) hC dX6_mode_20 (x := 2) rfl ?_
      refine gg_goto (pc := 21) hC dX6_mode_21 (tgt := 25) rfl ?_
      exact gg_iretr (pc := 25) hR dX6_mode_25
  · refine gg_iconst (pc := 9) hC dX6_mode_9 (x := 1) rfl ?_
    exact gg_iretr (pc := 10) hR dX6_mode_10
def fX6_renew  (σ : zS) : Option (zS) :=
    if (zi σ 4) = 0 then (some σ) else
    (zv (wi σ 4 0) (fun (s1 : zS) =>
    zy1 (fX6_mode s1) (fun x2 =>
    zy1 (fX2_renewStamps x2 s1) (fun s3 =>
    zy1 (fX2_renewPlaces (zi s3 1) (zi s3 2) s3) (fun s4 =>
    zy1 (fX1_locate s4) (fun s5 =>
    zy1 (fX4_renewSums s5) (fun s6 =>
    some s6)))))))
set_option maxHeartbeats 4000000 in
set_option maxRecDepth 100000 in
theorem mX6_renew {l : Launch} {D : va_G} {A : Nat → Nat} {cA : Nat → ClassId}   {σ : zS} {r : zS} (h : fX6_renew  σ = some r) : zMV l D (wX A cA) yX6_renew (zws yX6_renew cX6_renew 1 none) 6 127 [.ref (A 0)] σ r := by
  refine zm_V (lv := [(0, .ref (A 0))]) rfl (sX_ok A) (Nat.le_of_ble_eq_true rfl) rfl (fun C _ _ hC hR => ?_) h
  unfold fX6_renew
  refine gg_aload_n (pc := 0) hC dX6_renew_0 (i := 0) rfl 0 rfl ?_
  refine gg_get (pc := 1) hC dX6_renew_1 fX6_67 0 pX_0 (v := .int (zi σ 4)) rfl ?_
  refine gg_if_eq (pc := 4) hC dX6_renew_4 (tgt := 68) rfl (fun _ => ?_) (fun _ => ?_)
  · exact gg_vret (pc := 68) hR dX6_renew_68
  · refine gg_aload_n (pc := 7) hC dX6_renew_7 (i := 0) rfl 0 rfl ?_
    refine gg_iconst (pc := 8) hC dX6_renew_8 (x := 0) rfl ?_
    refine gg_put (pc := 9) hC dX6_renew_9 fX6_67 tX6_2 0 pX_0 rfl rfl rfl (Nat.le_of_ble_eq_true rfl) sX_0_11 ?_
    refine gg_zvs (fun s1 => ?_)
    refine gg_aload_n (pc := 12) hC dX6_renew_12 (i := 0) rfl 0 rfl ?_
    refine gg_get (pc := 13) hC dX6_renew_13 fX6_33 0 pX_0 (v := .ref (A 4)) rfl ?_
    refine gg_aload_n (pc := 16) hC dX6_renew_16 (i := 0) rfl 0 rfl ?_
    refine gg_get (pc := 17) hC dX6_renew_17 fX6_10 0 pX_0 (v := .ref (A 1)) rfl ?_
    refine gg_aload_n (pc := 20) hC dX6_renew_20 (i := 0) rfl 0 rfl ?_
    refine gg_get (pc := 21) hC dX6_renew_21 fX6_19 0 pX_0 (v := .ref (A 2)) rfl ?_
    refine gg_aload_n (pc := 24) hC dX6_renew_24 (i := 0) rfl 0 rfl ?_
    refine gg_callVIr (pc := 25) hC dX6_renew_25 vX6_324 (fun _ h => mX6_mode h) (Nat.le_of_ble_eq_true rfl) (Nat.le_of_ble_eq_true rfl) (As := []) (rest := [.ref (A 2), .ref (A 1), .ref (A 4)]) rfl rfl (Nat.le_of_ble_eq_true rfl) 0 6 pX_0 rfl (fun x2 => ?_)
    refine gg_callVV (pc := 28) hC dX6_renew_28 vX6_394 (fun _ h => mX2_renewStamps h) (Nat.le_of_ble_eq_true rfl) (Nat.le_of_ble_eq_true rfl) (As := [.ref (A 1), .ref (A 2), .int x2]) (rest := []) rfl rfl (Nat.le_of_ble_eq_true rfl) 4 2 pX_4 rfl (fun s3 => ?_)
    refine gg_aload_n (pc := 31) hC dX6_renew_31 (i := 0) rfl 0 rfl ?_
    refine gg_get (pc := 32) hC dX6_renew_32 fX6_33 0 pX_0 (v := .ref (A 4)) rfl ?_
    refine gg_aload_n (pc := 35) hC dX6_renew_35 (i := 0) rfl 0 rfl ?_
    refine gg_get (pc := 36) hC dX6_renew_36 fX6_58 0 pX_0 (v := .int (zi s3 1)) rfl ?_
    refine gg_aload_n (pc := 39) hC dX6_renew_39 (i := 0) rfl 0 rfl ?_
    refine gg_get (pc := 40) hC dX6_renew_40 fX6_61 0 pX_0 (v := .int (zi s3 2)) rfl ?_
    refine gg_callVV (pc := 43) hC dX6_renew_43 vX6_398 (fun _ h => mX2_renewPlaces h) (Nat.le_of_ble_eq_true rfl) (Nat.le_of_ble_eq_true rfl) (As := [.int (zi s3 1), .int (zi s3 2)]) (rest := []) rfl rfl (Nat.le_of_ble_eq_true rfl) 4 2 pX_4 rfl (fun s4 => ?_)
    refine gg_aload_n (pc := 46) hC dX6_renew_46 (i := 0) rfl 0 rfl ?_
    refine gg_get (pc := 47) hC dX6_renew_47 fX6_26 0 pX_0 (v := .ref (A 3)) rfl ?_
    refine gg_aload_n (pc := 50) hC dX6_renew_50 (i := 0) rfl 0 rfl ?_
    refine gg_get (pc := 51) hC dX6_renew_51 fX6_10 0 pX_0 (v := .ref (A 1)) rfl ?_
    refine gg_callVV (pc := 54) hC dX6_renew_54 vX6_401 (fun _ h => mX1_locate h) (Nat.le_of_ble_eq_true rfl) (Nat.le_of_ble_eq_true rfl) (As := [.ref (A 1)]) (rest := []) rfl rfl (Nat.le_of_ble_eq_true rfl) 3 1 pX_3 rfl (fun s5 => ?_)
    refine gg_aload_n (pc := 57) hC dX6_renew_57 (i := 0) rfl 0 rfl ?_
    refine gg_get (pc := 58) hC dX6_renew_58 fX6_40 0 pX_0 (v := .ref (A 5)) rfl ?_
    refine gg_aload_n (pc := 61) hC dX6_renew_61 (i := 0) rfl 0 rfl ?_
    refine gg_get (pc := 62) hC dX6_renew_62 fX6_33 0 pX_0 (v := .ref (A 4)) rfl ?_
    refine gg_callVV (pc := 65) hC dX6_renew_65 vX6_405 (fun _ h => mX4_renewSums h) (Nat.le_of_ble_eq_true rfl) (Nat.le_of_ble_eq_true rfl) (As := [.ref (A 4)]) (rest := []) rfl rfl (Nat.le_of_ble_eq_true rfl) 5 4 pX_5 rfl (fun s6 => ?_)
    exact gg_vret (pc := 68) hR dX6_renew_68
def fX6_chain_38 (v1 : Int32) (v2 : Int32) (v3 : Int32) (σ : zS) : Nat → Int32 → Int32 → Int32 → Int32 → Option (Int32 × zS)
  | 0, _, _, _, _ => none
  | n + 1, v4, v5, v6, v7 =>
    if (zi σ 5) ≤ v7 then (if 2 < v3 then (if v3 = 3 then (some (v5, σ)) else
    (some (v6, σ))) else
    (some ((-2 : Int32), σ))) else
    (zy1 (fX5_coarseOf v7 σ) (fun x1 =>
    zy1 (fX5_coarseOf v4 σ) (fun x2 =>
    if (x1 - x2) < v1 then (fX6_chain_38 v1 v2 v3 σ n v4 v5 v6 (v7 + 1)) else
    (zy1 (fX2_periods v4 v7 σ) (fun x3 =>
    if 2 < v3 then (zv (v6 + x3) (fun (x4 : Int32) =>
    fX6_chain_38 v1 v2 v3 σ n v7 (v5 + 1) x4 (v7 + 1))) else
    (if v5 = v2 then (if v3 = 0 then (some (v4, σ)) else
    (if v3 = 1 then (some (v7, σ)) else
    (some (x3, σ)))) else
    (zv (v6 + x3) (fun (x5 : Int32) =>
    fX6_chain_38 v1 v2 v3 σ n v7 (v5 + 1) x5 (v7 + 1)))))))))
def fX6_chain (v1 : Int32) (v2 : Int32) (v3 : Int32) (σ : zS) : Option (Int32 × zS) :=
    zy1 (fX6_isWithin v1 1 99 σ) (fun x1 =>
    if x1 = 0 then (some ((-2 : Int32), σ)) else
    (zy1 (fX6_isWithin v3 0 4 σ) (fun x2 =>
    if x2 = 0 then (some ((-2 : Int32), σ)) else
    (zy1 (fX6_renew σ) (fun s3 =>
    fX6_chain_38 v1 v2 v3 s3 500 0 0 0 1)))))
set_option maxHeartbeats 4000000 in
set_option maxRecDepth 100000 in
theorem lX6_chain_38 {C : zK} {A : Nat → Nat} {cA : Nat → ClassId} (hC : zOK C (wX A cA) cX6_chain RX6 9 7 147) {v1 : Int32} {v2 : Int32} {v3 : Int32} {σ : zS} {r : Int32 × zS} (hR : zRI C (wX A cA) 9 cX6_chain r) : ∀ (n : Nat) (v4 : Int32) (v5 : Int32) (v6 : Int32) (v7 : Int32), zG C (wX A cA) 9 (fun v => v = r) (fX6_chain_38 v1 v2 v3 σ n v4 v5 v6 v7) 38 [(0, .ref (A 0)), (1, .int v1), (2, .int v2), (3, .int v3), (4, .int v4), (5, .int v5), (6, .int v6), (7, .int v7)] [] σ := by
  intro n
  induction n with
  | zero => intro v4 v5 v6 v7; exact gg_none (o := none)
  | succ n ih =>
    intro v4 v5 v6 v7
    rw [fX6_chain_38]
    refine gg_iload (pc := 38) hC dX6_chain_38 7 rfl ?_
    refine gg_aload_n (pc := 40) hC dX6_chain_40 (i := 0) rfl 0 rfl ?_
    refine gg_get (pc := 41) hC dX6_chain_41 fX6_10 0 pX_0 (v := .ref (A 1)) rfl ?_
    refine gg_get (pc := 44) hC dX6_chain_44 fX6_97 1 pX_1 (v := .int (zi σ 5)) rfl ?_
    refine gg_icmp_ge (pc := 47) hC dX6_chain_47 (tgt := 139) rfl (fun _ => ?_) (fun _ => ?_)
    · refine gg_iload_n (pc := 139) hC dX6_chain_139 (i := 3) rfl 3 rfl ?_
      refine gg_iconst (pc := 140) hC dX6_chain_140 (x := 2) rfl ?_
      refine gg_icmp_gt (pc := 141) hC dX6_chain_141 (tgt := 147) rfl (fun _ => ?_) (fun _ => ?_)
      · refine gg_iload_n (pc := 147) hC dX6_chain_147 (i := 3) rfl 3 rfl ?_
        refine gg_iconst (pc := 148) hC dX6_chain_148 (x := 3) rfl ?_
        refine gg_icmp_ne (pc := 149) hC dX6_chain_149 (tgt := 157) rfl (fun _ => ?_) (fun _ => ?_)
        · refine gg_iload (pc := 152) hC dX6_chain_152 5 rfl ?_
          refine gg_goto (pc := 154) hC dX6_chain_154 (tgt := 159) rfl ?_
          exact gg_iret (pc := 159) hR dX6_chain_159
        · refine gg_iload (pc := 157) hC dX6_chain_157 6 rfl ?_
          exact gg_iret (pc := 159) hR dX6_chain_159
      · refine gg_bipush (pc := 144) hC dX6_chain_144 (x := -2) rfl ?_
        exact gg_iret (pc := 146) hR dX6_chain_146
    · refine gg_aload_n (pc := 50) hC dX6_chain_50 (i := 0) rfl 0 rfl ?_
      refine gg_get (pc := 51) hC dX6_chain_51 fX6_10 0 pX_0 (v := .ref (A 1)) rfl ?_
      refine gg_iload (pc := 54) hC dX6_chain_54 7 rfl ?_
      refine gg_callVIr (pc := 56) hC dX6_chain_56 vX6_168 (fun _ h => mX5_coarseOf h) (Nat.le_of_ble_eq_true rfl) (Nat.le_of_ble_eq_true rfl) (As := [.int v7]) (rest := []) rfl rfl (Nat.le_of_ble_eq_true rfl) 1 5 pX_1 rfl (fun x1 => ?_)
      refine gg_aload_n (pc := 59) hC dX6_chain_59 (i := 0) rfl 0 rfl ?_
      refine gg_get (pc := 60) hC dX6_chain_60 fX6_10 0 pX_0 (v := .ref (A 1)) rfl ?_
      refine gg_iload (pc := 63) hC dX6_chain_63 4 rfl ?_
      refine gg_callVIr (pc := 65) hC dX6_chain_65 vX6_168 (fun _ h => mX5_coarseOf h) (Nat.le_of_ble_eq_true rfl) (Nat.le_of_ble_eq_true rfl) (As := [.int v4]) (rest := [.int x1]) rfl rfl (Nat.le_of_ble_eq_true rfl) 1 5 pX_1 rfl (fun x2 => ?_)
      refine gg_isub (pc := 68) hC dX6_chain_68 ?_
      refine gg_iload_n (pc := 69) hC dX6_chain_69 (i := 1) rfl 1 rfl ?_
      refine gg_icmp_lt (pc := 70) hC dX6_chain_70 (tgt := 133) rfl (fun _ => ?_) (fun _ => ?_)
      · refine gg_iinc (pc := 133) hC dX6_chain_133 (y := 0) (j := 7) rfl (z := 1) rfl (Nat.le_of_ble_eq_true rfl) (lv' := [(7, .int (v7 + 1)), (0, .ref (A 0)), (1, .int v1), (2, .int v2), (3, .int v3), (4, .int v4), (5, .int v5), (6, .int v6)]) rfl ?_
        refine gg_goto (pc := 136) hC dX6_chain_136 (tgt := 38) rfl ?_
        exact gg_lv [1, 2, 3, 4, 5, 6, 7, 0] rfl (ih _ _ _ _)
      · refine gg_aload_n (pc := 73) hC dX6_chain_73 (i := 0) rfl 0 rfl ?_
        refine gg_get (pc := 74) hC dX6_chain_74 fX6_33 0 pX_0 (v := .ref (A 4)) rfl ?_
        refine gg_iload (pc := 77) hC dX6_chain_77 4 rfl ?_
        refine gg_iload (pc := 79) hC dX6_chain_79 7 rfl ?_
        refine gg_callVIr (pc := 81) hC dX6_chain_81 vX6_217 (fun _ h => mX2_periods h) (Nat.le_of_ble_eq_true rfl) (Nat.le_of_ble_eq_true rfl) (As := [.int v4, .int v7]) (rest := []) rfl rfl (Nat.le_of_ble_eq_true rfl) 4 2 pX_4 rfl (fun x3 => ?_)
        refine gg_istore (pc := 84) hC dX6_chain_84 (Nat.le_of_ble_eq_true rfl) (lv' := [(8, .int x3), (0, .ref (A 0)), (1, .int v1), (2, .int v2), (3, .int v3), (4, .int v4), (5, .int v5), (6, .int v6), (7, .int v7)]) rfl ?_
        refine gg_iload_n (pc := 86) hC dX6_chain_86 (i := 3) rfl 4 rfl ?_
        refine gg_iconst (pc := 87) hC dX6_chain_87 (x := 2) rfl ?_
        refine gg_icmp_gt (pc := 88) hC dX6_chain_88 (tgt := 119) rfl (fun _ => ?_) (fun _ => ?_)
        · refine gg_iload (pc := 119) hC dX6_chain_119 7 rfl ?_
          refine gg_iload (pc := 121) hC dX6_chain_121 0 rfl ?_
          refine gg_iadd (pc := 123) hC dX6_chain_123 ?_
          refine gg_zvi (fun x4 => ?_)
          refine gg_istore (pc := 124) hC dX6_chain_124 (Nat.le_of_ble_eq_true rfl) (lv' := [(6, .int x4), (8, .int x3), (0, .ref (A 0)), (1, .int v1), (2, .int v2), (3, .int v3), (4, .int v4), (5, .int v5), (7, .int v7)]) rfl ?_
          refine gg_iinc (pc := 126) hC dX6_chain_126 (y := 0) (j := 7) rfl (z := 1) rfl (Nat.le_of_ble_eq_true rfl) (lv' := [(5, .int (v5 + 1)), (6, .int x4), (8, .int x3), (0, .ref (A 0)), (1, .int v1), (2, .int v2), (3, .int v3), (4, .int v4), (7, .int v7)]) rfl ?_
          refine gg_iload (pc := 129) hC dX6_chain_129 8 rfl ?_
          refine gg_istore (pc := 131) hC dX6_chain_131 (Nat.le_of_ble_eq_true rfl) (lv' := [(4, .int v7), (5, .int (v5 + 1)), (6, .int x4), (8, .int x3), (0, .ref (A 0)), (1, .int v1), (2, .int v2), (3, .int v3), (7, .int v7)]) rfl ?_
          refine gg_iinc (pc := 133) hC dX6_chain_133 (y := 0) (j := 8) rfl (z := 1) rfl (Nat.le_of_ble_eq_true rfl) (lv' := [(7, .int (v7 + 1)), (4, .int v7), (5, .int (v5 + 1)), (6, .int x4), (8, .int x3), (0, .ref (A 0)), (1, .int v1), (2, .int v2), (3, .int v3)]) rfl ?_
          refine gg_goto (pc := 136) hC dX6_chain_136 (tgt := 38) rfl ?_
          exact gg_lv [5, 6, 7, 8, 1, 2, 3, 0] rfl (ih _ _ _ _)
        · refine gg_iload (pc := 91) hC dX6_chain_91 6 rfl ?_
          refine gg_iload_n (pc := 93) hC dX6_chain_93 (i := 2) rfl 3 rfl ?_
          refine gg_icmp_ne (pc := 94) hC dX6_chain_94 (tgt := 119) rfl (fun _ => ?_) (fun _ => ?_)
          · refine gg_iload_n (pc := 97) hC dX6_chain_97 (i := 3) rfl 4 rfl ?_
            refine gg_if_ne (pc := 98) hC dX6_chain_98 (tgt := 106) rfl (fun _ => ?_) (fun _ => ?_)
            · refine gg_iload (pc := 101) hC dX6_chain_101 5 rfl ?_
              refine gg_goto (pc := 103) hC dX6_chain_103 (tgt := 118) rfl ?_
              exact gg_iret (pc := 118) hR dX6_chain_118
            · refine gg_iload_n (pc := 106) hC dX6_chain_106 (i := 3) rfl 4 rfl ?_
              refine gg_iconst (pc := 107) hC dX6_chain_107 (x := 1) rfl ?_
              refine gg_icmp_ne (pc := 108) hC dX6_chain_108 (tgt := 116) rfl (fun _ => ?_) (fun _ => ?_)
              · refine gg_iload (pc := 111) hC dX6_chain_111 8 rfl ?_
                refine gg_goto (pc := 113) hC dX6_chain_113 (tgt := 118) rfl ?_
                exact gg_iret (pc := 118) hR dX6_chain_118
              · refine gg_iload (pc := 116) hC dX6_chain_116 0 rfl ?_
                exact gg_iret (pc := 118) hR dX6_chain_118
          · refine gg_iload (pc := 119) hC dX6_chain_119 7 rfl ?_
            refine gg_iload (pc := 121) hC dX6_chain_121 0 rfl ?_
            refine gg_iadd (pc := 123) hC dX6_chain_123 ?_
            refine gg_zvi (fun x5 => ?_)
            refine gg_istore (pc := 124) hC dX6_chain_124 (Nat.le_of_ble_eq_true rfl) (lv' := [(6, .int x5), (8, .int x3), (0, .ref (A 0)), (1, .int v1), (2, .int v2), (3, .int v3), (4, .int v4), (5, .int v5), (7, .int v7)]) rfl ?_
            refine gg_iinc (pc := 126) hC dX6_chain_126 (y := 0) (j := 7) rfl (z := 1) rfl (Nat.le_of_ble_eq_true rfl) (lv' := [(5, .int (v5 + 1)), (6, .int x5), (8, .int x3), (0, .ref (A 0)), (1, .int v1), (2, .int v2), (3, .int v3), (4, .int v4), (7, .int v7)]) rfl ?_
            refine gg_iload (pc := 129) hC dX6_chain_129 8 rfl ?_
            refine gg_istore (pc := 131) hC dX6_chain_131 (Nat.le_of_ble_eq_true rfl) (lv' := [(4, .int v7), (5, .int (v5 + 1)), (6, .int x5), (8, .int x3), (0, .ref (A 0)), (1, .int v1), (2, .int v2), (3, .int v3), (7, .int v7)]) rfl ?_
            refine gg_iinc (pc := 133) hC dX6_chain_133 (y := 0) (j := 8) rfl (z := 1) rfl (Nat.le_of_ble_eq_true rfl) (lv' := [(7, .int (v7 + 1)), (4, .int v7), (5, .int (v5 + 1)), (6, .int x5), (8, .int x3), (0, .ref (A 0)), (1, .int v1), (2, .int v2), (3, .int v3)]) rfl ?_
            refine gg_goto (pc := 136) hC dX6_chain_136 (tgt := 38) rfl ?_
            exact gg_lv [5, 6, 7, 8, 1, 2, 3, 0] rfl (ih _ _ _ _)
set_option maxHeartbeats 4000000 in
set_option maxRecDepth 100000 in
theorem mX6_chain {l : Launch} {D : va_G} {A : Nat → Nat} {cA : Nat → ClassId} {v1 : Int32} {v2 : Int32} {v3 : Int32}  {σ : zS} {r : Int32 × zS} (h : fX6_chain v1 v2 v3 σ = some r) : zMI l D (wX A cA) yX6_chain (zws yX6_chain cX6_chain 9 (some .int)) 7 147 [.ref (A 0), .int v1, .int v2, .int v3] σ r := by
  refine zm_I (lv := [(0, .ref (A 0)), (1, .int v1), (2, .int v2), (3, .int v3)]) rfl (sX_ok A) (Nat.le_of_ble_eq_true rfl) rfl (fun C _ _ hC hR => ?_) h
  unfold fX6_chain
  refine gg_iload_n (pc := 0) hC dX6_chain_0 (i := 1) rfl 1 rfl ?_
  refine gg_iconst (pc := 1) hC dX6_chain_1 (x := 1) rfl ?_
  refine gg_bipush (pc := 2) hC dX6_chain_2 (x := 99) rfl ?_
  refine gg_callSIr (pc := 4) hC dX6_chain_4 cX6_87 (fun _ h => mX6_isWithin h) (Nat.le_of_ble_eq_true rfl) (Nat.le_of_ble_eq_true rfl) (As := [.int v1, .int 1, .int 99]) (rest := []) rfl rfl (Nat.le_of_ble_eq_true rfl) (fun x1 => ?_)
  refine gg_if_eq (pc := 7) hC dX6_chain_7 (tgt := 19) rfl (fun _ => ?_) (fun _ => ?_)
  · refine gg_bipush (pc := 19) hC dX6_chain_19 (x := -2) rfl ?_
    exact gg_iret (pc := 21) hR dX6_chain_21
  · refine gg_iload_n (pc := 10) hC dX6_chain_10 (i := 3) rfl 3 rfl ?_
    refine gg_iconst (pc := 11) hC dX6_chain_11 (x := 0) rfl ?_
    refine gg_iconst (pc := 12) hC dX6_chain_12 (x := 4) rfl ?_
    refine gg_callSIr (pc := 13) hC dX6_chain_13 cX6_87 (fun _ h => mX6_isWithin h) (Nat.le_of_ble_eq_true rfl) (Nat.le_of_ble_eq_true rfl) (As := [.int v3, .int 0, .int 4]) (rest := []) rfl rfl (Nat.le_of_ble_eq_true rfl) (fun x2 => ?_)
    refine gg_if_ne (pc := 16) hC dX6_chain_16 (tgt := 22) rfl (fun _ => ?_) (fun _ => ?_)
    · refine gg_bipush (pc := 19) hC dX6_chain_19 (x := -2) rfl ?_
      exact gg_iret (pc := 21) hR dX6_chain_21
    · refine gg_aload_n (pc := 22) hC dX6_chain_22 (i := 0) rfl 0 rfl ?_
      refine gg_callVV (pc := 23) hC dX6_chain_23 vX6_162 (fun _ h => mX6_renew h) (Nat.le_of_ble_eq_true rfl) (Nat.le_of_ble_eq_true rfl) (As := []) (rest := []) rfl rfl (Nat.le_of_ble_eq_true rfl) 0 6 pX_0 rfl (fun s3 => ?_)
      refine gg_iconst (pc := 26) hC dX6_chain_26 (x := 0) rfl ?_
      refine gg_istore (pc := 27) hC dX6_chain_27 (Nat.le_of_ble_eq_true rfl) (lv' := [(4, .int 0), (0, .ref (A 0)), (1, .int v1), (2, .int v2), (3, .int v3)]) rfl ?_
      refine gg_iconst (pc := 29) hC dX6_chain_29 (x := 0) rfl ?_
      refine gg_istore (pc := 30) hC dX6_chain_30 (Nat.le_of_ble_eq_true rfl) (lv' := [(5, .int 0), (4, .int 0), (0, .ref (A 0)), (1, .int v1), (2, .int v2), (3, .int v3)]) rfl ?_
      refine gg_iconst (pc := 32) hC dX6_chain_32 (x := 0) rfl ?_
      refine gg_istore (pc := 33) hC dX6_chain_33 (Nat.le_of_ble_eq_true rfl) (lv' := [(6, .int 0), (5, .int 0), (4, .int 0), (0, .ref (A 0)), (1, .int v1), (2, .int v2), (3, .int v3)]) rfl ?_
      refine gg_iconst (pc := 35) hC dX6_chain_35 (x := 1) rfl ?_
      refine gg_istore (pc := 36) hC dX6_chain_36 (Nat.le_of_ble_eq_true rfl) (lv' := [(7, .int 1), (6, .int 0), (5, .int 0), (4, .int 0), (0, .ref (A 0)), (1, .int v1), (2, .int v2), (3, .int v3)]) rfl ?_
      exact gg_lv [4, 5, 6, 7, 3, 2, 1, 0] rfl (lX6_chain_38 hC hR 500 _ _ _ _)
def fX6_clear  (σ : zS) : Option (Int32 × zS) :=
    zv (zi σ 5) (fun (x1 : Int32) =>
    zv (wi σ 5 0) (fun (s2 : zS) =>
    zv (wi s2 4 1) (fun (s3 : zS) =>
    some (x1, s3))))
set_option maxHeartbeats 4000000 in
set_option maxRecDepth 100000 in
theorem mX6_clear {l : Launch} {D : va_G} {A : Nat → Nat} {cA : Nat → ClassId}   {σ : zS} {r : Int32 × zS} (h : fX6_clear  σ = some r) : zMI l D (wX A cA) yX6_clear (zws yX6_clear cX6_clear 2 (some .int)) 0 0 [.ref (A 0)] σ r := by
  refine zm_I (lv := [(0, .ref (A 0))]) rfl (sX_ok A) (Nat.le_of_ble_eq_true rfl) rfl (fun C _ _ hC hR => ?_) h
  unfold fX6_clear
  refine gg_aload_n (pc := 0) hC dX6_clear_0 (i := 0) rfl 0 rfl ?_
  refine gg_get (pc := 1) hC dX6_clear_1 fX6_10 0 pX_0 (v := .ref (A 1)) rfl ?_
  refine gg_get (pc := 4) hC dX6_clear_4 fX6_97 1 pX_1 (v := .int (zi σ 5)) rfl ?_
  refine gg_zvi (fun x1 => ?_)
  refine gg_istore_n (pc := 7) hC dX6_clear_7 (i := 1) rfl (Nat.le_of_ble_eq_true rfl) (lv' := [(1, .int x1), (0, .ref (A 0))]) rfl ?_
  refine gg_aload_n (pc := 8) hC dX6_clear_8 (i := 0) rfl 1 rfl ?_
  refine gg_get (pc := 9) hC dX6_clear_9 fX6_10 0 pX_0 (v := .ref (A 1)) rfl ?_
  refine gg_iconst (pc := 12) hC dX6_clear_12 (x := 0) rfl ?_
  refine gg_put (pc := 13) hC dX6_clear_13 fX6_97 tX5_2 1 pX_1 rfl rfl rfl (Nat.le_of_ble_eq_true rfl) sX_1_1 ?_
  refine gg_zvs (fun s2 => ?_)
  refine gg_aload_n (pc := 16) hC dX6_clear_16 (i := 0) rfl 1 rfl ?_
  refine gg_iconst (pc := 17) hC dX6_clear_17 (x := 1) rfl ?_
  refine gg_put (pc := 18) hC dX6_clear_18 fX6_67 tX6_2 0 pX_0 rfl rfl rfl (Nat.le_of_ble_eq_true rfl) sX_0_11 ?_
  refine gg_zvs (fun s3 => ?_)
  refine gg_iload_n (pc := 21) hC dX6_clear_21 (i := 1) rfl 0 rfl ?_
  exact gg_iret (pc := 22) hR dX6_clear_22
def fX6_isGate (v1 : Int32) (σ : zS) : Option (Int32) :=
    zy1 (fX6_isWithin v1 0 ((zi σ 8) - 1) σ) (fun x1 =>
    zg (zz x1) (some x1))
set_option maxHeartbeats 4000000 in
set_option maxRecDepth 100000 in
theorem mX6_isGate {l : Launch} {D : va_G} {A : Nat → Nat} {cA : Nat → ClassId} {v1 : Int32}  {σ : zS} {r : Int32} (h : fX6_isGate v1 σ = some r) : zMI l D (wX A cA) yX6_isGate (zws yX6_isGate cX6_isGate 2 (some .boolean)) 1 22 [.ref (A 0), .int v1] σ (r, σ) := by
  refine zm_Zr (lv := [(0, .ref (A 0)), (1, .int v1)]) rfl (sX_ok A) (Nat.le_of_ble_eq_true rfl) rfl (fun C _ _ hC hR => ?_) h
  unfold fX6_isGate
  refine gg_iload_n (pc := 0) hC dX6_isGate_0 (i := 1) rfl 1 rfl ?_
  refine gg_iconst (pc := 1) hC dX6_isGate_1 (x := 0) rfl ?_
  refine gg_aload_n (pc := 2) hC dX6_isGate_2 (i := 0) rfl 0 rfl ?_
  refine gg_get (pc := 3) hC dX6_isGate_3 fX6_26 0 pX_0 (v := .ref (A 3)) rfl ?_
  refine gg_get (pc := 6) hC dX6_isGate_6 fX6_204 3 pX_3 (v := .int (zi σ 8)) rfl ?_
  refine gg_iconst (pc := 9) hC dX6_isGate_9 (x := 1) rfl ?_
  refine gg_isub (pc := 10) hC dX6_isGate_10 ?_
  refine gg_callSIr (pc := 11) hC dX6_isGate_11 cX6_87 (fun _ h => mX6_isWithin h) (Nat.le_of_ble_eq_true rfl) (Nat.le_of_ble_eq_true rfl) (As := [.int v1, .int 0, .int ((zi σ 8) - 1)]) (rest := []) rfl rfl (Nat.le_of_ble_eq_true rfl) (fun x1 => ?_)
  exact gg_zretgr (pc := 14) hR dX6_isGate_14
def fX6_closing (v1 : Int32) (σ : zS) : Option (Int32 × zS) :=
    zy1 (fX6_isGate v1 σ) (fun x1 =>
    if x1 = 0 then (some ((-2 : Int32), σ)) else
    (zy1 (fX6_renew σ) (fun s2 =>
    zy1 (fX1_closingAt v1 s2) (fun x3 =>
    some (x3, s2)))))
set_option maxHeartbeats 4000000 in
set_option maxRecDepth 100000 in
theorem mX6_closing {l : Launch} {D : va_G} {A : Nat → Nat} {cA : Nat → ClassId} {v1 : Int32}  {σ : zS} {r : Int32 × zS} (h : fX6_closing v1 σ = some r) : zMI l D (wX A cA) yX6_closing (zws yX6_closing cX6_closing 2 (some .int)) 7 147 [.ref (A 0), .int v1] σ r := by
  refine zm_I (lv := [(0, .ref (A 0)), (1, .int v1)]) rfl (sX_ok A) (Nat.le_of_ble_eq_true rfl) rfl (fun C _ _ hC hR => ?_) h
  unfold fX6_closing
  refine gg_aload_n (pc := 0) hC dX6_closing_0 (i := 0) rfl 0 rfl ?_
  refine gg_iload_n (pc := 1) hC dX6_closing_1 (i := 1) rfl 1 rfl ?_
  refine gg_callVIr (pc := 2) hC dX6_closing_2 vX6_208 (fun _ h => mX6_isGate h) (Nat.le_of_ble_eq_true rfl) (Nat.le_of_ble_eq_true rfl) (As := [.int v1]) (rest := []) rfl rfl (Nat.le_of_ble_eq_true rfl) 0 6 pX_0 rfl (fun x1 => ?_)
  refine gg_if_ne (pc := 5) hC dX6_closing_5 (tgt := 11) rfl (fun _ => ?_) (fun _ => ?_)
  · refine gg_bipush (pc := 8) hC dX6_closing_8 (x := -2) rfl ?_
    exact gg_iret (pc := 10) hR dX6_closing_10
  · refine gg_aload_n (pc := 11) hC dX6_closing_11 (i := 0) rfl 0 rfl ?_
    refine gg_callVV (pc := 12) hC dX6_closing_12 vX6_162 (fun _ h => mX6_renew h) (Nat.le_of_ble_eq_true rfl) (Nat.le_of_ble_eq_true rfl) (As := []) (rest := []) rfl rfl (Nat.le_of_ble_eq_true rfl) 0 6 pX_0 rfl (fun s2 => ?_)
    refine gg_aload_n (pc := 15) hC dX6_closing_15 (i := 0) rfl 0 rfl ?_
    refine gg_get (pc := 16) hC dX6_closing_16 fX6_26 0 pX_0 (v := .ref (A 3)) rfl ?_
    refine gg_iload_n (pc := 19) hC dX6_closing_19 (i := 1) rfl 1 rfl ?_
    refine gg_callVIr (pc := 20) hC dX6_closing_20 vX6_224 (fun _ h => mX1_closingAt h) (Nat.le_of_ble_eq_true rfl) (Nat.le_of_ble_eq_true rfl) (As := [.int v1]) (rest := []) rfl rfl (Nat.le_of_ble_eq_true rfl) 3 1 pX_3 rfl (fun x3 => ?_)
    exact gg_iret (pc := 23) hR dX6_closing_23
def fX6_commonDivisor_9 (σ : zS) : Nat → Int64 → Int64 → Int32 → Option (Int64)
  | 0, _, _, _ => none
  | n + 1, v4, v6, v8 =>
    if 100 ≤ v8 then (some v4) else
    (if v6 = (0 : Int64) then (some v4) else
    (zg (decide (¬ v6 = 0)) (zv (v4 - v4 / v6 * v6) (fun (x1 : Int64) =>
    fX6_commonDivisor_9 σ n v6 x1 (v8 + 1)))))
def fX6_commonDivisor (v0 : Int64) (v2 : Int64) (σ : zS) : Option (Int64) :=
    zy1 (fX6_commonDivisor_9 σ 500 v0 v2 0) (fun (x1 : Int64) =>
    some x1)
set_option maxHeartbeats 4000000 in
set_option maxRecDepth 100000 in
theorem lX6_commonDivisor_9 {C : zK} {A : Nat → Nat} {cA : Nat → ClassId} (hC : zOK C (wX A cA) cX6_commonDivisor RX6 11 0 0) {σ : zS} : ∀ (n : Nat) (v4 : Int64) (v6 : Int64) (v8 : Int32), zG C (wX A cA) 11 (fun q => zW C (wX A cA) 11 44 [(4, .long q)] [] σ) (fX6_commonDivisor_9 σ n v4 v6 v8) 9 [(4, .long v4), (6, .long v6), (8, .int v8)] [] σ := by
  intro n
  induction n with
  | zero => intro v4 v6 v8; exact gg_none (o := none)
  | succ n ih =>
    intro v4 v6 v8
    rw [fX6_commonDivisor_9]
    refine gg_iload (pc := 9) hC dX6_commonDivisor_9 2 rfl ?_
    refine gg_bipush (pc := 11) hC dX6_commonDivisor_11 (x := 100) rfl ?_
    refine gg_icmp_ge (pc := 13) hC dX6_commonDivisor_13 (tgt := 44) rfl (fun _ => ?_) (fun _ => ?_)
    · exact gg_y (fun h => zW_lv [0] rfl h)
    · refine gg_lload (pc := 16) hC dX6_commonDivisor_16 1 rfl ?_
      refine gg_lconst (pc := 18) hC dX6_commonDivisor_18 (x := 0) rfl ?_
      refine gg_lcmp_eq (pc := 19) hC dX6_commonDivisor_19 dX6_commonDivisor_20 (tgt := 44) rfl (fun _ => ?_) (fun _ => ?_)
      · exact gg_y (fun h => zW_lv [0] rfl h)
      · refine gg_lload (pc := 23) hC dX6_commonDivisor_23 0 rfl ?_
        refine gg_lload (pc := 25) hC dX6_commonDivisor_25 1 rfl ?_
        refine gg_lrem_g (pc := 27) hC dX6_commonDivisor_27 ?_
        refine gg_zvl (fun x1 => ?_)
        refine gg_lstore (pc := 28) hC dX6_commonDivisor_28 (Nat.le_of_ble_eq_true rfl) (lv' := [(9, .long x1), (4, .long v4), (6, .long v6), (8, .int v8)]) rfl ?_
        refine gg_lload (pc := 30) hC dX6_commonDivisor_30 2 rfl ?_
        refine gg_lstore (pc := 32) hC dX6_commonDivisor_32 (Nat.le_of_ble_eq_true rfl) (lv' := [(4, .long v6), (9, .long x1), (6, .long v6), (8, .int v8)]) rfl ?_
        refine gg_lload (pc := 34) hC dX6_commonDivisor_34 1 rfl ?_
        refine gg_lstore (pc := 36) hC dX6_commonDivisor_36 (Nat.le_of_ble_eq_true rfl) (lv' := [(6, .long x1), (4, .long v6), (9, .long x1), (8, .int v8)]) rfl ?_
        refine gg_iinc (pc := 38) hC dX6_commonDivisor_38 (y := 0) (j := 3) rfl (z := 1) rfl (Nat.le_of_ble_eq_true rfl) (lv' := [(8, .int (v8 + 1)), (6, .long x1), (4, .long v6), (9, .long x1)]) rfl ?_
        refine gg_goto (pc := 41) hC dX6_commonDivisor_41 (tgt := 9) rfl ?_
        exact gg_lv [2, 1, 0] rfl (ih _ _ _)
set_option maxHeartbeats 4000000 in
set_option maxRecDepth 100000 in
theorem mX6_commonDivisor {l : Launch} {D : va_G} {A : Nat → Nat} {cA : Nat → ClassId} {v0 : Int64} {v2 : Int64}  {σ : zS} {r : Int64} (h : fX6_commonDivisor v0 v2 σ = some r) : zML l D (wX A cA) yX6_commonDivisor (zws yX6_commonDivisor cX6_commonDivisor 11 (some .long)) 0 0 [.long v0, .long v2] σ (r, σ) := by
  refine zm_Lr (lv := [(0, .long v0), (2, .long v2)]) rfl (sX_ok A) (Nat.le_of_ble_eq_true rfl) rfl (fun C _ _ hC hR => ?_) h
  unfold fX6_commonDivisor
  refine gg_lload_n (pc := 0) hC dX6_commonDivisor_0 (i := 0) rfl 0 rfl ?_
  refine gg_lstore (pc := 1) hC dX6_commonDivisor_1 (Nat.le_of_ble_eq_true rfl) (lv' := [(4, .long v0), (0, .long v0), (2, .long v2)]) rfl ?_
  refine gg_lload_n (pc := 3) hC dX6_commonDivisor_3 (i := 2) rfl 2 rfl ?_
  refine gg_lstore (pc := 4) hC dX6_commonDivisor_4 (Nat.le_of_ble_eq_true rfl) (lv' := [(6, .long v2), (4, .long v0), (0, .long v0), (2, .long v2)]) rfl ?_
  refine gg_iconst (pc := 6) hC dX6_commonDivisor_6 (x := 0) rfl ?_
  refine gg_istore (pc := 7) hC dX6_commonDivisor_7 (Nat.le_of_ble_eq_true rfl) (lv' := [(8, .int 0), (6, .long v2), (4, .long v0), (0, .long v0), (2, .long v2)]) rfl ?_
  refine gg_join1 (E' := (fun q => zW C (wX A cA) 11 44 [(4, .long q)] [] σ)) (gg_lv [2, 1, 0] rfl (lX6_commonDivisor_9 hC  500 _ _ _)) (fun x1 => ?_)
  show zG C (wX A cA) 11 _ _ 44 [(4, .long x1)] [] σ
  refine gg_lload (pc := 44) hC dX6_commonDivisor_44 0 rfl ?_
  exact gg_lretr (pc := 46) hR dX6_commonDivisor_46
def fX6_copy (v1 : Int32) (v2 : Int32) (v3 : Int32) (v4 : Int32) (v5 : Int32) (σ : zS) : Option (Int32 × zS) :=
    zy1 (fX6_isSheet v1 σ) (fun x1 =>
    if x1 = 0 then (some ((-2 : Int32), σ)) else
    (zy1 (fX6_isSheet v3 σ) (fun x2 =>
    if x2 = 0 then (some ((-2 : Int32), σ)) else
    (zg (zq v1 4) (zg (zq v3 4) (zy1 (fX3_isLost v1.toNatClampNeg σ) (fun x5 =>
    if x5 = 0 then (zy1 (fX3_isLost v3.toNatClampNeg σ) (fun x6 =>
    if x6 = 0 then (if (zi σ (20 + v1.toNatClampNeg)) = (zi σ (20 + v3.toNatClampNeg)) then (zy1 (fX3_hasRange v1.toNatClampNeg v2 v5 σ) (fun x7 =>
    if x7 = 0 then (zy2 (fX6_finding 2 σ) (fun x8 s9 =>
    some (x8, s9))) else
    (zy1 (fX3_hasRange v3.toNatClampNeg v4 v5 σ) (fun x10 =>
    if x10 = 0 then (zy2 (fX6_finding 2 σ) (fun x11 s12 =>
    some (x11, s12))) else
    (zy1 (fX3_take v3.toNatClampNeg v1.toNatClampNeg v2 v4 v5 σ) (fun s13 =>
    some (1, s13))))))) else
    (zy2 (fX6_finding 4 σ) (fun x14 s15 =>
    some (x14, s15)))) else
    (zy2 (fX6_finding 1 σ) (fun x16 s17 =>
    some (x16, s17))))) else
    (zy2 (fX6_finding 1 σ) (fun x18 s19 =>
    some (x18, s19))))))))))
set_option maxHeartbeats 4000000 in
set_option maxRecDepth 100000 in
theorem mX6_copy {l : Launch} {D : va_G} {A : Nat → Nat} {cA : Nat → ClassId} {v1 : Int32} {v2 : Int32} {v3 : Int32} {v4 : Int32} {v5 : Int32}  {σ : zS} {r : Int32 × zS} (h : fX6_copy v1 v2 v3 v4 v5 σ = some r) : zMI l D (wX A cA) yX6_copy (zws yX6_copy cX6_copy 8 (some .int)) 2 42 [.ref (A 0), .int v1, .int v2, .int v3, .int v4, .int v5] σ r := by
  refine zm_I (lv := [(0, .ref (A 0)), (1, .int v1), (2, .int v2), (3, .int v3), (4, .int v4), (5, .int v5)]) rfl (sX_ok A) (Nat.le_of_ble_eq_true rfl) rfl (fun C _ _ hC hR => ?_) h
  unfold fX6_copy
  refine gg_iload_n (pc := 0) hC dX6_copy_0 (i := 1) rfl 1 rfl ?_
  refine gg_callSIr (pc := 1) hC dX6_copy_1 cX6_254 (fun _ h => mX6_isSheet h) (Nat.le_of_ble_eq_true rfl) (Nat.le_of_ble_eq_true rfl) (As := [.int v1]) (rest := []) rfl rfl (Nat.le_of_ble_eq_true rfl) (fun x1 => ?_)
  refine gg_if_eq (pc := 4) hC dX6_copy_4 (tgt := 14) rfl (fun _ => ?_) (fun _ => ?_)
  · refine gg_bipush (pc := 14) hC dX6_copy_14 (x := -2) rfl ?_
    exact gg_iret (pc := 16) hR dX6_copy_16
  · refine gg_iload_n (pc := 7) hC dX6_copy_7 (i := 3) rfl 3 rfl ?_
    refine gg_callSIr (pc := 8) hC dX6_copy_8 cX6_254 (fun _ h => mX6_isSheet h) (Nat.le_of_ble_eq_true rfl) (Nat.le_of_ble_eq_true rfl) (As := [.int v3]) (rest := []) rfl rfl (Nat.le_of_ble_eq_true rfl) (fun x2 => ?_)
    refine gg_if_ne (pc := 11) hC dX6_copy_11 (tgt := 17) rfl (fun _ => ?_) (fun _ => ?_)
    · refine gg_bipush (pc := 14) hC dX6_copy_14 (x := -2) rfl ?_
      exact gg_iret (pc := 16) hR dX6_copy_16
    · refine gg_aload_n (pc := 17) hC dX6_copy_17 (i := 0) rfl 0 rfl ?_
      refine gg_get (pc := 18) hC dX6_copy_18 fX6_46 0 pX_0 (v := .ref (A 6)) rfl ?_
      refine gg_iload_n (pc := 21) hC dX6_copy_21 (i := 1) rfl 1 rfl ?_
      refine gg_sheets (pc := 22) hC dX6_copy_22 (fun hk3 => ?_)
      refine gg_astore (pc := 23) hC dX6_copy_23 (Nat.le_of_ble_eq_true rfl) (lv' := [(6, .ref (A (23 + v1.toNatClampNeg))), (0, .ref (A 0)), (1, .int v1), (2, .int v2), (3, .int v3), (4, .int v4), (5, .int v5)]) rfl ?_
      refine gg_aload_n (pc := 25) hC dX6_copy_25 (i := 0) rfl 1 rfl ?_
      refine gg_get (pc := 26) hC dX6_copy_26 fX6_46 0 pX_0 (v := .ref (A 6)) rfl ?_
      refine gg_iload_n (pc := 29) hC dX6_copy_29 (i := 3) rfl 4 rfl ?_
      refine gg_sheets (pc := 30) hC dX6_copy_30 (fun hk4 => ?_)
      refine gg_astore (pc := 31) hC dX6_copy_31 (Nat.le_of_ble_eq_true rfl) (lv' := [(7, .ref (A (23 + v3.toNatClampNeg))), (6, .ref (A (23 + v1.toNatClampNeg))), (0, .ref (A 0)), (1, .int v1), (2, .int v2), (3, .int v3), (4, .int v4), (5, .int v5)]) rfl ?_
      refine gg_aload (pc := 33) hC dX6_copy_33 1 rfl ?_
      refine gg_callVIr (pc := 35) hC dX6_copy_35 vX6_266 (fun _ h => mX3_isLost hk3 h) (Nat.le_of_ble_eq_true rfl) (Nat.le_of_ble_eq_true rfl) (As := []) (rest := []) rfl rfl (Nat.le_of_ble_eq_true rfl) (23 + v1.toNatClampNeg) 3 (pX_cS hk3) rfl (fun x5 => ?_)
      refine gg_if_ne (pc := 38) hC dX6_copy_38 (tgt := 49) rfl (fun _ => ?_) (fun _ => ?_)
      · refine gg_aload (pc := 41) hC dX6_copy_41 0 rfl ?_
        refine gg_callVIr (pc := 43) hC dX6_copy_43 vX6_266 (fun _ h => mX3_isLost hk4 h) (Nat.le_of_ble_eq_true rfl) (Nat.le_of_ble_eq_true rfl) (As := []) (rest := []) rfl rfl (Nat.le_of_ble_eq_true rfl) (23 + v3.toNatClampNeg) 3 (pX_cS hk4) rfl (fun x6 => ?_)
        refine gg_if_eq (pc := 46) hC dX6_copy_46 (tgt := 55) rfl (fun _ => ?_) (fun _ => ?_)
        · refine gg_aload (pc := 55) hC dX6_copy_55 1 rfl ?_
          refine gg_get (pc := 57) hC dX6_copy_57 fX6_269 (23 + v1.toNatClampNeg) (pX_cS hk3) (v := .int (zi σ (20 + v1.toNatClampNeg))) rfl ?_
          refine gg_aload (pc := 60) hC dX6_copy_60 0 rfl ?_
          refine gg_get (pc := 62) hC dX6_copy_62 fX6_269 (23 + v3.toNatClampNeg) (pX_cS hk4) (v := .int (zi σ (20 + v3.toNatClampNeg))) rfl ?_
          refine gg_icmp_eq (pc := 65) hC dX6_copy_65 (tgt := 74) rfl (fun _ => ?_) (fun _ => ?_)
          · refine gg_aload (pc := 74) hC dX6_copy_74 1 rfl ?_
            refine gg_iload_n (pc := 76) hC dX6_copy_76 (i := 2) rfl 4 rfl ?_
            refine gg_iload (pc := 77) hC dX6_copy_77 7 rfl ?_
            refine gg_callVIr (pc := 79) hC dX6_copy_79 vX6_288 (fun _ h => mX3_hasRange hk3 h) (Nat.le_of_ble_eq_true rfl) (Nat.le_of_ble_eq_true rfl) (As := [.int v2, .int v5]) (rest := []) rfl rfl (Nat.le_of_ble_eq_true rfl) (23 + v1.toNatClampNeg) 3 (pX_cS hk3) rfl (fun x7 => ?_)
            refine gg_if_eq (pc := 82) hC dX6_copy_82 (tgt := 97) rfl (fun _ => ?_) (fun _ => ?_)
            · refine gg_aload_n (pc := 97) hC dX6_copy_97 (i := 0) rfl 2 rfl ?_
              refine gg_iconst (pc := 98) hC dX6_copy_98 (x := 2) rfl ?_
              refine gg_callVI (pc := 99) hC dX6_copy_99 vX6_260 (fun _ h => mX6_finding h) (Nat.le_of_ble_eq_true rfl) (Nat.le_of_ble_eq_true rfl) (As := [.int 2]) (rest := []) rfl rfl (Nat.le_of_ble_eq_true rfl) 0 6 pX_0 rfl (fun x8 s9 => ?_)
              exact gg_iret (pc := 102) hR dX6_copy_102
            · refine gg_aload (pc := 85) hC dX6_copy_85 0 rfl ?_
              refine gg_iload (pc := 87) hC dX6_copy_87 6 rfl ?_
              refine gg_iload (pc := 89) hC dX6_copy_89 7 rfl ?_
              refine gg_callVIr (pc := 91) hC dX6_copy_91 vX6_288 (fun _ h => mX3_hasRange hk4 h) (Nat.le_of_ble_eq_true rfl) (Nat.le_of_ble_eq_true rfl) (As := [.int v4, .int v5]) (rest := []) rfl rfl (Nat.le_of_ble_eq_true rfl) (23 + v3.toNatClampNeg) 3 (pX_cS hk4) rfl (fun x10 => ?_)
              refine gg_if_ne (pc := 94) hC dX6_copy_94 (tgt := 103) rfl (fun _ => ?_) (fun _ => ?_)
              · refine gg_aload_n (pc := 97) hC dX6_copy_97 (i := 0) rfl 2 rfl ?_
                refine gg_iconst (pc := 98) hC dX6_copy_98 (x := 2) rfl ?_
                refine gg_callVI (pc := 99) hC dX6_copy_99 vX6_260 (fun _ h => mX6_finding h) (Nat.le_of_ble_eq_true rfl) (Nat.le_of_ble_eq_true rfl) (As := [.int 2]) (rest := []) rfl rfl (Nat.le_of_ble_eq_true rfl) 0 6 pX_0 rfl (fun x11 s12 => ?_)
                exact gg_iret (pc := 102) hR dX6_copy_102
              · refine gg_aload (pc := 103) hC dX6_copy_103 0 rfl ?_
                refine gg_aload (pc := 105) hC dX6_copy_105 1 rfl ?_
                refine gg_iload_n (pc := 107) hC dX6_copy_107 (i := 2) rfl 4 rfl ?_
                refine gg_iload (pc := 108) hC dX6_copy_108 6 rfl ?_
                refine gg_iload (pc := 110) hC dX6_copy_110 7 rfl ?_
                refine gg_callVV (pc := 112) hC dX6_copy_112 vX6_291 (fun _ h => mX3_take hk4 hk3 h) (Nat.le_of_ble_eq_true rfl) (Nat.le_of_ble_eq_true rfl) (As := [.ref (A (23 + v1.toNatClampNeg)), .int v2, .int v4, .int v5]) (rest := []) rfl rfl (Nat.le_of_ble_eq_true rfl) (23 + v3.toNatClampNeg) 3 (pX_cS hk4) rfl (fun s13 => ?_)
                refine gg_iconst (pc := 115) hC dX6_copy_115 (x := 1) rfl ?_
                exact gg_iret (pc := 116) hR dX6_copy_116
          · refine gg_aload_n (pc := 68) hC dX6_copy_68 (i := 0) rfl 2 rfl ?_
            refine gg_iconst (pc := 69) hC dX6_copy_69 (x := 4) rfl ?_
            refine gg_callVI (pc := 70) hC dX6_copy_70 vX6_260 (fun _ h => mX6_finding h) (Nat.le_of_ble_eq_true rfl) (Nat.le_of_ble_eq_true rfl) (As := [.int 4]) (rest := []) rfl rfl (Nat.le_of_ble_eq_true rfl) 0 6 pX_0 rfl (fun x14 s15 => ?_)
            exact gg_iret (pc := 73) hR dX6_copy_73
        · refine gg_aload_n (pc := 49) hC dX6_copy_49 (i := 0) rfl 2 rfl ?_
          refine gg_iconst (pc := 50) hC dX6_copy_50 (x := 1) rfl ?_
          refine gg_callVI (pc := 51) hC dX6_copy_51 vX6_260 (fun _ h => mX6_finding h) (Nat.le_of_ble_eq_true rfl) (Nat.le_of_ble_eq_true rfl) (As := [.int 1]) (rest := []) rfl rfl (Nat.le_of_ble_eq_true rfl) 0 6 pX_0 rfl (fun x16 s17 => ?_)
          exact gg_iret (pc := 54) hR dX6_copy_54
      · refine gg_aload_n (pc := 49) hC dX6_copy_49 (i := 0) rfl 2 rfl ?_
        refine gg_iconst (pc := 50) hC dX6_copy_50 (x := 1) rfl ?_
        refine gg_callVI (pc := 51) hC dX6_copy_51 vX6_260 (fun _ h => mX6_finding h) (Nat.le_of_ble_eq_true rfl) (Nat.le_of_ble_eq_true rfl) (As := [.int 1]) (rest := []) rfl rfl (Nat.le_of_ble_eq_true rfl) 0 6 pX_0 rfl (fun x18 s19 => ?_)
        exact gg_iret (pc := 54) hR dX6_copy_54
def fX6_count (v1 : Int32) (σ : zS) : Option (Int32 × zS) :=
    zy1 (fX6_isWithin v1 0 8 σ) (fun x1 =>
    if x1 = 0 then (some ((-2 : Int32), σ)) else
    (zy1 (fX6_renew σ) (fun s2 =>
    if v1 = 0 then (some ((zi s2 5), s2)) else
    if v1 = 1 then (some ((zi s2 6), s2)) else
    if v1 = 2 then (some ((zi s2 7), s2)) else
    if v1 = 3 then (some ((zi s2 8), s2)) else
    if v1 = 4 then (some ((zi s2 11), s2)) else
    if v1 = 5 then (some ((zi s2 12), s2)) else
    if v1 = 6 then (some ((zi s2 13), s2)) else
    if v1 = 7 then (some ((zi s2 0), s2)) else
    (some ((zi s2 3), s2)))))
set_option maxHeartbeats 4000000 in
set_option maxRecDepth 100000 in
theorem mX6_count {l : Launch} {D : va_G} {A : Nat → Nat} {cA : Nat → ClassId} {v1 : Int32}  {σ : zS} {r : Int32 × zS} (h : fX6_count v1 σ = some r) : zMI l D (wX A cA) yX6_count (zws yX6_count cX6_count 2 (some .int)) 7 147 [.ref (A 0), .int v1] σ r := by
  refine zm_I (lv := [(0, .ref (A 0)), (1, .int v1)]) rfl (sX_ok A) (Nat.le_of_ble_eq_true rfl) rfl (fun C _ _ hC hR => ?_) h
  unfold fX6_count
  refine gg_iload_n (pc := 0) hC dX6_count_0 (i := 1) rfl 1 rfl ?_
  refine gg_iconst (pc := 1) hC dX6_count_1 (x := 0) rfl ?_
  refine gg_bipush (pc := 2) hC dX6_count_2 (x := 8) rfl ?_
  refine gg_callSIr (pc := 4) hC dX6_count_4 cX6_87 (fun _ h => mX6_isWithin h) (Nat.le_of_ble_eq_true rfl) (Nat.le_of_ble_eq_true rfl) (As := [.int v1, .int 0, .int 8]) (rest := []) rfl rfl (Nat.le_of_ble_eq_true rfl) (fun x1 => ?_)
  refine gg_if_ne (pc := 7) hC dX6_count_7 (tgt := 13) rfl (fun _ => ?_) (fun _ => ?_)
  · refine gg_bipush (pc := 10) hC dX6_count_10 (x := -2) rfl ?_
    exact gg_iret (pc := 12) hR dX6_count_12
  · refine gg_aload_n (pc := 13) hC dX6_count_13 (i := 0) rfl 0 rfl ?_
    refine gg_callVV (pc := 14) hC dX6_count_14 vX6_162 (fun _ h => mX6_renew h) (Nat.le_of_ble_eq_true rfl) (Nat.le_of_ble_eq_true rfl) (As := []) (rest := []) rfl rfl (Nat.le_of_ble_eq_true rfl) 0 6 pX_0 rfl (fun s2 => ?_)
    refine gg_iload_n (pc := 17) hC dX6_count_17 (i := 1) rfl 1 rfl ?_
    refine gg_ite (fun hc3 => ?_) (fun hc3 => ?_)
    · refine gg_tabIn (pc := 18) hC dX6_count_18 (by rw [hc3]; decide) (by rw [hc3]; decide) (off := 46) (by rw [hc3]; rfl) (tgt := 64) rfl ?_
      refine gg_aload_n (pc := 64) hC dX6_count_64 (i := 0) rfl 0 rfl ?_
      refine gg_get (pc := 65) hC dX6_count_65 fX6_10 0 pX_0 (v := .ref (A 1)) rfl ?_
      refine gg_get (pc := 68) hC dX6_count_68 fX6_97 1 pX_1 (v := .int (zi s2 5)) rfl ?_
      exact gg_iret (pc := 71) hR dX6_count_71
    · skip
      refine gg_ite (fun hc4 => ?_) (fun hc4 => ?_)
      · refine gg_tabIn (pc := 18) hC dX6_count_18 (by rw [hc4]; decide) (by rw [hc4]; decide) (off := 54) (by rw [hc4]; rfl) (tgt := 72) rfl ?_
        refine gg_aload_n (pc := 72) hC dX6_count_72 (i := 0) rfl 0 rfl ?_
        refine gg_get (pc := 73) hC dX6_count_73 fX6_19 0 pX_0 (v := .ref (A 2)) rfl ?_
        refine gg_get (pc := 76) hC dX6_count_76 fX6_110 2 pX_2 (v := .int (zi s2 6)) rfl ?_
        exact gg_iret (pc := 79) hR dX6_count_79
      · skip
        refine gg_ite (fun hc5 => ?_) (fun hc5 => ?_)
        · refine gg_tabIn (pc := 18) hC dX6_count_18 (by rw [hc5]; decide) (by rw [hc5]; decide) (off := 62) (by rw [hc5]; rfl) (tgt := 80) rfl ?_
          refine gg_aload_n (pc := 80) hC dX6_count_80 (i := 0) rfl 0 rfl ?_
          refine gg_get (pc := 81) hC dX6_count_81 fX6_19 0 pX_0 (v := .ref (A 2)) rfl ?_
          refine gg_get (pc := 84) hC dX6_count_84 fX6_118 2 pX_2 (v := .int (zi s2 7)) rfl ?_
          exact gg_iret (pc := 87) hR dX6_count_87
        · skip
          refine gg_ite (fun hc6 => ?_) (fun hc6 => ?_)
          · refine gg_tabIn (pc := 18) hC dX6_count_18 (by rw [hc6]; decide) (by rw [hc6]; decide) (off := 70) (by rw [hc6]; rfl) (tgt := 88) rfl ?_
            refine gg_aload_n (pc := 88) hC dX6_count_88 (i := 0) rfl 0 rfl ?_
            refine gg_get (pc := 89) hC dX6_count_89 fX6_26 0 pX_0 (v := .ref (A 3)) rfl ?_
            refine gg_get (pc := 92) hC dX6_count_92 fX6_204 3 pX_3 (v := .int (zi s2 8)) rfl ?_
            exact gg_iret (pc := 95) hR dX6_count_95
          · skip
            refine gg_ite (fun hc7 => ?_) (fun hc7 => ?_)
            · refine gg_tabIn (pc := 18) hC dX6_count_18 (by rw [hc7]; decide) (by rw [hc7]; decide) (off := 78) (by rw [hc7]; rfl) (tgt := 96) rfl ?_
              refine gg_aload_n (pc := 96) hC dX6_count_96 (i := 0) rfl 0 rfl ?_
              refine gg_get (pc := 97) hC dX6_count_97 fX6_33 0 pX_0 (v := .ref (A 4)) rfl ?_
              refine gg_get (pc := 100) hC dX6_count_100 fX6_309 4 pX_4 (v := .int (zi s2 11)) rfl ?_
              exact gg_iret (pc := 103) hR dX6_count_103
            · skip
              refine gg_ite (fun hc8 => ?_) (fun hc8 => ?_)
              · refine gg_tabIn (pc := 18) hC dX6_count_18 (by rw [hc8]; decide) (by rw [hc8]; decide) (off := 86) (by rw [hc8]; rfl) (tgt := 104) rfl ?_
                refine gg_aload_n (pc := 104) hC dX6_count_104 (i := 0) rfl 0 rfl ?_
                refine gg_get (pc := 105) hC dX6_count_105 fX6_33 0 pX_0 (v := .ref (A 4)) rfl ?_
                refine gg_get (pc := 108) hC dX6_count_108 fX6_312 4 pX_4 (v := .int (zi s2 12)) rfl ?_
                exact gg_iret (pc := 111) hR dX6_count_111
              · skip
                refine gg_ite (fun hc9 => ?_) (fun hc9 => ?_)
                · refine gg_tabIn (pc := 18) hC dX6_count_18 (by rw [hc9]; decide) (by rw [hc9]; decide) (off := 94) (by rw [hc9]; rfl) (tgt := 112) rfl ?_
                  refine gg_aload_n (pc := 112) hC dX6_count_112 (i := 0) rfl 0 rfl ?_
                  refine gg_get (pc := 113) hC dX6_count_113 fX6_40 0 pX_0 (v := .ref (A 5)) rfl ?_
                  refine gg_get (pc := 116) hC dX6_count_116 fX6_242 5 pX_5 (v := .int (zi s2 13)) rfl ?_
                  exact gg_iret (pc := 119) hR dX6_count_119
                · skip
                  refine gg_ite (fun hc10 => ?_) (fun hc10 => ?_)
                  · refine gg_tabIn (pc := 18) hC dX6_count_18 (by rw [hc10]; decide) (by rw [hc10]; decide) (off := 102) (by rw [hc10]; rfl) (tgt := 120) rfl ?_
                    refine gg_aload_n (pc := 120) hC dX6_count_120 (i := 0) rfl 0 rfl ?_
                    refine gg_get (pc := 121) hC dX6_count_121 fX6_54 0 pX_0 (v := .int (zi s2 0)) rfl ?_
                    exact gg_iret (pc := 124) hR dX6_count_124
                  · skip
                    refine gg_tabOut (pc := 18) hC dX6_count_18 (zsw_out (n := 7) (Nat.le_of_ble_eq_true rfl) (fun k hk => by
                  match k, hk with
                  | 0, _ => exact hc3
                  | 1, _ => exact hc4
                  | 2, _ => exact hc5
                  | 3, _ => exact hc6
                  | 4, _ => exact hc7
                  | 5, _ => exact hc8
                  | 6, _ => exact hc9
                  | 7, _ => exact hc10)) (tgt := 125) rfl ?_
                    refine gg_aload_n (pc := 125) hC dX6_count_125 (i := 0) rfl 0 rfl ?_
                    refine gg_get (pc := 126) hC dX6_count_126 fX6_64 0 pX_0 (v := .int (zi s2 3)) rfl ?_
                    exact gg_iret (pc := 129) hR dX6_count_129
def fX6_cut (v1 : Int32) (σ : zS) : Option (Int32 × zS) :=
    zy1 (fX6_isWithin v1 1 59 σ) (fun x1 =>
    if x1 = 0 then (some ((-2 : Int32), σ)) else
    (zy1 (fX0_codeOf v1 σ) (fun x2 =>
    zg (zq x2 12) (if (za σ 2 x2.toNatClampNeg) = v1 then (zy1 (fX0_joinToPrevious x2 σ) (fun s3 =>
    zv (wi s3 4 1) (fun (s4 : zS) =>
    some ((zi s4 6), s4)))) else
    (if 12 ≤ (zi σ 6) then (some ((-4 : Int32), σ)) else
    (zy1 (fX0_split x2 v1 σ) (fun s5 =>
    zv (wi s5 4 1) (fun (s6 : zS) =>
    some ((zi s6 6), s6)))))))))
set_option maxHeartbeats 4000000 in
set_option maxRecDepth 100000 in
theorem mX6_cut {l : Launch} {D : va_G} {A : Nat → Nat} {cA : Nat → ClassId} {v1 : Int32}  {σ : zS} {r : Int32 × zS} (h : fX6_cut v1 σ = some r) : zMI l D (wX A cA) yX6_cut (zws yX6_cut cX6_cut 3 (some .int)) 2 44 [.ref (A 0), .int v1] σ r := by
  refine zm_I (lv := [(0, .ref (A 0)), (1, .int v1)]) rfl (sX_ok A) (Nat.le_of_ble_eq_true rfl) rfl (fun C _ _ hC hR => ?_) h
  unfold fX6_cut
  refine gg_iload_n (pc := 0) hC dX6_cut_0 (i := 1) rfl 1 rfl ?_
  refine gg_iconst (pc := 1) hC dX6_cut_1 (x := 1) rfl ?_
  refine gg_bipush (pc := 2) hC dX6_cut_2 (x := 59) rfl ?_
  refine gg_callSIr (pc := 4) hC dX6_cut_4 cX6_87 (fun _ h => mX6_isWithin h) (Nat.le_of_ble_eq_true rfl) (Nat.le_of_ble_eq_true rfl) (As := [.int v1, .int 1, .int 59]) (rest := []) rfl rfl (Nat.le_of_ble_eq_true rfl) (fun x1 => ?_)
  refine gg_if_ne (pc := 7) hC dX6_cut_7 (tgt := 13) rfl (fun _ => ?_) (fun _ => ?_)
  · refine gg_bipush (pc := 10) hC dX6_cut_10 (x := -2) rfl ?_
    exact gg_iret (pc := 12) hR dX6_cut_12
  · refine gg_aload_n (pc := 13) hC dX6_cut_13 (i := 0) rfl 0 rfl ?_
    refine gg_get (pc := 14) hC dX6_cut_14 fX6_19 0 pX_0 (v := .ref (A 2)) rfl ?_
    refine gg_iload_n (pc := 17) hC dX6_cut_17 (i := 1) rfl 1 rfl ?_
    refine gg_callVIr (pc := 18) hC dX6_cut_18 vX6_100 (fun _ h => mX0_codeOf h) (Nat.le_of_ble_eq_true rfl) (Nat.le_of_ble_eq_true rfl) (As := [.int v1]) (rest := []) rfl rfl (Nat.le_of_ble_eq_true rfl) 2 0 pX_2 rfl (fun x2 => ?_)
    refine gg_istore_n (pc := 21) hC dX6_cut_21 (i := 2) rfl (Nat.le_of_ble_eq_true rfl) (lv' := [(2, .int x2), (0, .ref (A 0)), (1, .int v1)]) rfl ?_
    refine gg_aload_n (pc := 22) hC dX6_cut_22 (i := 0) rfl 1 rfl ?_
    refine gg_get (pc := 23) hC dX6_cut_23 fX6_19 0 pX_0 (v := .ref (A 2)) rfl ?_
    refine gg_get (pc := 26) hC dX6_cut_26 fX6_103 2 pX_2 (v := .ref (A 9)) rfl ?_
    refine gg_iload_n (pc := 29) hC dX6_cut_29 (i := 2) rfl 0 rfl ?_
    refine gg_iald (pc := 30) hC dX6_cut_30 9 0 pX_9 rfl ?_
    refine gg_iload_n (pc := 31) hC dX6_cut_31 (i := 1) rfl 2 rfl ?_
    refine gg_icmp_ne (pc := 32) hC dX6_cut_32 (tgt := 46) rfl (fun _ => ?_) (fun _ => ?_)
    · refine gg_aload_n (pc := 35) hC dX6_cut_35 (i := 0) rfl 1 rfl ?_
      refine gg_get (pc := 36) hC dX6_cut_36 fX6_19 0 pX_0 (v := .ref (A 2)) rfl ?_
      refine gg_iload_n (pc := 39) hC dX6_cut_39 (i := 2) rfl 0 rfl ?_
      refine gg_callVV (pc := 40) hC dX6_cut_40 vX6_106 (fun _ h => mX0_joinToPrevious h) (Nat.le_of_ble_eq_true rfl) (Nat.le_of_ble_eq_true rfl) (As := [.int x2]) (rest := []) rfl rfl (Nat.le_of_ble_eq_true rfl) 2 0 pX_2 rfl (fun s3 => ?_)
      refine gg_goto (pc := 43) hC dX6_cut_43 (tgt := 73) rfl ?_
      refine gg_aload_n (pc := 73) hC dX6_cut_73 (i := 0) rfl 1 rfl ?_
      refine gg_iconst (pc := 74) hC dX6_cut_74 (x := 1) rfl ?_
      refine gg_put (pc := 75) hC dX6_cut_75 fX6_67 tX6_2 0 pX_0 rfl rfl rfl (Nat.le_of_ble_eq_true rfl) sX_0_11 ?_
      refine gg_zvs (fun s4 => ?_)
      refine gg_aload_n (pc := 78) hC dX6_cut_78 (i := 0) rfl 1 rfl ?_
      refine gg_get (pc := 79) hC dX6_cut_79 fX6_19 0 pX_0 (v := .ref (A 2)) rfl ?_
      refine gg_get (pc := 82) hC dX6_cut_82 fX6_110 2 pX_2 (v := .int (zi s4 6)) rfl ?_
      exact gg_iret (pc := 85) hR dX6_cut_85
    · refine gg_aload_n (pc := 46) hC dX6_cut_46 (i := 0) rfl 1 rfl ?_
      refine gg_get (pc := 47) hC dX6_cut_47 fX6_19 0 pX_0 (v := .ref (A 2)) rfl ?_
      refine gg_get (pc := 50) hC dX6_cut_50 fX6_110 2 pX_2 (v := .int (zi σ 6)) rfl ?_
      refine gg_bipush (pc := 53) hC dX6_cut_53 (x := 12) rfl ?_
      refine gg_icmp_ge (pc := 55) hC dX6_cut_55 (tgt := 70) rfl (fun _ => ?_) (fun _ => ?_)
      · refine gg_bipush (pc := 70) hC dX6_cut_70 (x := -4) rfl ?_
        exact gg_iret (pc := 72) hR dX6_cut_72
      · refine gg_aload_n (pc := 58) hC dX6_cut_58 (i := 0) rfl 1 rfl ?_
        refine gg_get (pc := 59) hC dX6_cut_59 fX6_19 0 pX_0 (v := .ref (A 2)) rfl ?_
        refine gg_iload_n (pc := 62) hC dX6_cut_62 (i := 2) rfl 0 rfl ?_
        refine gg_iload_n (pc := 63) hC dX6_cut_63 (i := 1) rfl 2 rfl ?_
        refine gg_callVV (pc := 64) hC dX6_cut_64 vX6_111 (fun _ h => mX0_split h) (Nat.le_of_ble_eq_true rfl) (Nat.le_of_ble_eq_true rfl) (As := [.int x2, .int v1]) (rest := []) rfl rfl (Nat.le_of_ble_eq_true rfl) 2 0 pX_2 rfl (fun s5 => ?_)
        refine gg_goto (pc := 67) hC dX6_cut_67 (tgt := 73) rfl ?_
        refine gg_aload_n (pc := 73) hC dX6_cut_73 (i := 0) rfl 1 rfl ?_
        refine gg_iconst (pc := 74) hC dX6_cut_74 (x := 1) rfl ?_
        refine gg_put (pc := 75) hC dX6_cut_75 fX6_67 tX6_2 0 pX_0 rfl rfl rfl (Nat.le_of_ble_eq_true rfl) sX_0_11 ?_
        refine gg_zvs (fun s6 => ?_)
        refine gg_aload_n (pc := 78) hC dX6_cut_78 (i := 0) rfl 1 rfl ?_
        refine gg_get (pc := 79) hC dX6_cut_79 fX6_19 0 pX_0 (v := .ref (A 2)) rfl ?_
        refine gg_get (pc := 82) hC dX6_cut_82 fX6_110 2 pX_2 (v := .int (zi s6 6)) rfl ?_
        exact gg_iret (pc := 85) hR dX6_cut_85
def fX6_isHalf (v0 : Int32) (σ : zS) : Option (Int32) :=
    if v0 = 0 then (some 1) else
    (if v0 = 1 then (some 1) else
    (some 0))
set_option maxHeartbeats 4000000 in
set_option maxRecDepth 100000 in
theorem mX6_isHalf {l : Launch} {D : va_G} {A : Nat → Nat} {cA : Nat → ClassId} {v0 : Int32}  {σ : zS} {r : Int32} (h : fX6_isHalf v0 σ = some r) : zMI l D (wX A cA) yX6_isHalf (zws yX6_isHalf cX6_isHalf 1 (some .boolean)) 0 0 [.int v0] σ (r, σ) := by
  refine zm_Zr (lv := [(0, .int v0)]) rfl (sX_ok A) (Nat.le_of_ble_eq_true rfl) rfl (fun C _ _ hC hR => ?_) h
  unfold fX6_isHalf
  refine gg_iload_n (pc := 0) hC dX6_isHalf_0 (i := 0) rfl 0 rfl ?_
  refine gg_if_eq (pc := 1) hC dX6_isHalf_1 (tgt := 9) rfl (fun _ => ?_) (fun _ => ?_)
  · refine gg_iconst (pc := 9) hC dX6_isHalf_9 (x := 1) rfl ?_
    refine gg_goto (pc := 10) hC dX6_isHalf_10 (tgt := 14) rfl ?_
    exact gg_zretr (pc := 14) hR dX6_isHalf_14 rfl
  · refine gg_iload_n (pc := 4) hC dX6_isHalf_4 (i := 0) rfl 0 rfl ?_
    refine gg_iconst (pc := 5) hC dX6_isHalf_5 (x := 1) rfl ?_
    refine gg_icmp_ne (pc := 6) hC dX6_isHalf_6 (tgt := 13) rfl (fun _ => ?_) (fun _ => ?_)
    · refine gg_iconst (pc := 9) hC dX6_isHalf_9 (x := 1) rfl ?_
      refine gg_goto (pc := 10) hC dX6_isHalf_10 (tgt := 14) rfl ?_
      exact gg_zretr (pc := 14) hR dX6_isHalf_14 rfl
    · refine gg_iconst (pc := 13) hC dX6_isHalf_13 (x := 0) rfl ?_
      exact gg_zretr (pc := 14) hR dX6_isHalf_14 rfl
def fX6_lowest (v0 : Int64) (v2 : Int64) (v4 : Int32) (σ : zS) : Option (Int64) :=
    zy1 (fX6_commonDivisor v0 v2 σ) (fun x1 =>
    zy1 (if v4 = 0 then (some v0) else
    (some v2)) (fun (x2 : Int64) =>
    if x1 ≤ (1 : Int64) then (some x2) else
    (zg (decide (¬ x1 = 0)) (some (x2 / x1)))))
set_option maxHeartbeats 4000000 in
set_option maxRecDepth 100000 in
theorem mX6_lowest {l : Launch} {D : va_G} {A : Nat → Nat} {cA : Nat → ClassId} {v0 : Int64} {v2 : Int64} {v4 : Int32}  {σ : zS} {r : Int64} (h : fX6_lowest v0 v2 v4 σ = some r) : zML l D (wX A cA) yX6_lowest (zws yX6_lowest cX6_lowest 9 (some .long)) 1 30 [.long v0, .long v2, .int v4] σ (r, σ) := by
  refine zm_Lr (lv := [(0, .long v0), (2, .long v2), (4, .int v4)]) rfl (sX_ok A) (Nat.le_of_ble_eq_true rfl) rfl (fun C _ _ hC hR => ?_) h
  unfold fX6_lowest
  refine gg_lload_n (pc := 0) hC dX6_lowest_0 (i := 0) rfl 0 rfl ?_
  refine gg_lload_n (pc := 1) hC dX6_lowest_1 (i := 2) rfl 1 rfl ?_
  refine gg_callSLr (pc := 2) hC dX6_lowest_2 cX6_391 (fun _ h => mX6_commonDivisor h) (Nat.le_of_ble_eq_true rfl) (Nat.le_of_ble_eq_true rfl) (As := [.long v0, .long v2]) (rest := []) rfl rfl (Nat.le_of_ble_eq_true rfl) (fun x1 => ?_)
  refine gg_lstore (pc := 5) hC dX6_lowest_5 (Nat.le_of_ble_eq_true rfl) (lv' := [(5, .long x1), (0, .long v0), (2, .long v2), (4, .int v4)]) rfl ?_
  refine gg_iload (pc := 7) hC dX6_lowest_7 3 rfl ?_
  refine gg_join1 (E' := (fun q => zW C (wX A cA) 9 17 [(5, .long x1)] [.long q] σ)) ?_ (fun x2 => ?_)
  · refine gg_if_ne (pc := 9) hC dX6_lowest_9 (tgt := 16) rfl (fun _ => ?_) (fun _ => ?_)
    · refine gg_lload_n (pc := 12) hC dX6_lowest_12 (i := 0) rfl 1 rfl ?_
      refine gg_goto (pc := 13) hC dX6_lowest_13 (tgt := 17) rfl ?_
      exact gg_y (fun h => zW_lv [0] rfl h)
    · refine gg_lload_n (pc := 16) hC dX6_lowest_16 (i := 2) rfl 2 rfl ?_
      exact gg_y (fun h => zW_lv [0] rfl h)
  · show zG C (wX A cA) 9 _ _ 17 [(5, .long x1)] [.long x2] σ
    refine gg_lstore (pc := 17) hC dX6_lowest_17 (Nat.le_of_ble_eq_true rfl) (lv' := [(7, .long x2), (5, .long x1)]) rfl ?_
    refine gg_lload (pc := 19) hC dX6_lowest_19 1 rfl ?_
    refine gg_lconst (pc := 21) hC dX6_lowest_21 (x := 1) rfl ?_
    refine gg_lcmp_le (pc := 22) hC dX6_lowest_22 dX6_lowest_23 (tgt := 34) rfl (fun _ => ?_) (fun _ => ?_)
    · refine gg_lload (pc := 34) hC dX6_lowest_34 0 rfl ?_
      exact gg_lretr (pc := 36) hR dX6_lowest_36
    · refine gg_lload (pc := 26) hC dX6_lowest_26 0 rfl ?_
      refine gg_lload (pc := 28) hC dX6_lowest_28 1 rfl ?_
      refine gg_ldiv_g (pc := 30) hC dX6_lowest_30 ?_
      refine gg_goto (pc := 31) hC dX6_lowest_31 (tgt := 36) rfl ?_
      exact gg_lretr (pc := 36) hR dX6_lowest_36
def fX6_refusal (v0 : Int32) (σ : zS) : Option (Int64) :=
    some ((-9223372036854775808 : Int64) - (v0.toInt64))
set_option maxHeartbeats 4000000 in
set_option maxRecDepth 100000 in
theorem mX6_refusal {l : Launch} {D : va_G} {A : Nat → Nat} {cA : Nat → ClassId} {v0 : Int32}  {σ : zS} {r : Int64} (h : fX6_refusal v0 σ = some r) : zML l D (wX A cA) yX6_refusal (zws yX6_refusal cX6_refusal 1 (some .long)) 0 0 [.int v0] σ (r, σ) := by
  refine zm_Lr (lv := [(0, .int v0)]) rfl (sX_ok A) (Nat.le_of_ble_eq_true rfl) rfl (fun C _ _ hC hR => ?_) h
  unfold fX6_refusal
  refine gg_ldc2 (pc := 0) hC dX6_refusal_0 qX6_389 ?_
  refine gg_iload_n (pc := 3) hC dX6_refusal_3 (i := 0) rfl 0 rfl ?_
  refine gg_i2l (pc := 4) hC dX6_refusal_4 ?_
  refine gg_lsub (pc := 5) hC dX6_refusal_5 ?_
  exact gg_lretr (pc := 6) hR dX6_refusal_6
def fX6_dense (v1 : Int32) (v2 : Int32) (σ : zS) : Option (Int64) :=
    zy1 (fX6_isBin v1 σ) (fun x1 =>
    if x1 = 0 then (zy1 (fX6_refusal (-2 : Int32) σ) (fun x2 =>
    some x2)) else
    (zy1 (fX6_isHalf v2 σ) (fun x3 =>
    if x3 = 0 then (zy1 (fX6_refusal (-2 : Int32) σ) (fun x4 =>
    some x4)) else
    (if (zi σ 7) = 0 then (zy1 (fX6_refusal (-3 : Int32) σ) (fun x5 =>
    some x5)) else
    (zg (zq v1 12) (zy1 (fX6_lowest ((60 : Int64) * ((za σ 3 v1.toNatClampNeg).toInt64)) ((zi σ 7).toInt64) v2 σ) (fun x6 =>
    some x6)))))))
set_option maxHeartbeats 4000000 in
set_option maxRecDepth 100000 in
theorem mX6_dense {l : Launch} {D : va_G} {A : Nat → Nat} {cA : Nat → ClassId} {v1 : Int32} {v2 : Int32}  {σ : zS} {r : Int64} (h : fX6_dense v1 v2 σ = some r) : zML l D (wX A cA) yX6_dense (zws yX6_dense cX6_dense 3 (some .long)) 2 58 [.ref (A 0), .int v1, .int v2] σ (r, σ) := by
  refine zm_Lr (lv := [(0, .ref (A 0)), (1, .int v1), (2, .int v2)]) rfl (sX_ok A) (Nat.le_of_ble_eq_true rfl) rfl (fun C _ _ hC hR => ?_) h
  unfold fX6_dense
  refine gg_aload_n (pc := 0) hC dX6_dense_0 (i := 0) rfl 0 rfl ?_
  refine gg_iload_n (pc := 1) hC dX6_dense_1 (i := 1) rfl 1 rfl ?_
  refine gg_callVIr (pc := 2) hC dX6_dense_2 vX6_128 (fun _ h => mX6_isBin h) (Nat.le_of_ble_eq_true rfl) (Nat.le_of_ble_eq_true rfl) (As := [.int v1]) (rest := []) rfl rfl (Nat.le_of_ble_eq_true rfl) 0 6 pX_0 rfl (fun x1 => ?_)
  refine gg_if_eq (pc := 5) hC dX6_dense_5 (tgt := 15) rfl (fun _ => ?_) (fun _ => ?_)
  · refine gg_bipush (pc := 15) hC dX6_dense_15 (x := -2) rfl ?_
    refine gg_callSLr (pc := 17) hC dX6_dense_17 cX6_140 (fun _ h => mX6_refusal h) (Nat.le_of_ble_eq_true rfl) (Nat.le_of_ble_eq_true rfl) (As := [.int (-2 : Int32)]) (rest := []) rfl rfl (Nat.le_of_ble_eq_true rfl) (fun x2 => ?_)
    exact gg_lretr (pc := 20) hR dX6_dense_20
  · refine gg_iload_n (pc := 8) hC dX6_dense_8 (i := 2) rfl 2 rfl ?_
    refine gg_callSIr (pc := 9) hC dX6_dense_9 cX6_137 (fun _ h => mX6_isHalf h) (Nat.le_of_ble_eq_true rfl) (Nat.le_of_ble_eq_true rfl) (As := [.int v2]) (rest := []) rfl rfl (Nat.le_of_ble_eq_true rfl) (fun x3 => ?_)
    refine gg_if_ne (pc := 12) hC dX6_dense_12 (tgt := 21) rfl (fun _ => ?_) (fun _ => ?_)
    · refine gg_bipush (pc := 15) hC dX6_dense_15 (x := -2) rfl ?_
      refine gg_callSLr (pc := 17) hC dX6_dense_17 cX6_140 (fun _ h => mX6_refusal h) (Nat.le_of_ble_eq_true rfl) (Nat.le_of_ble_eq_true rfl) (As := [.int (-2 : Int32)]) (rest := []) rfl rfl (Nat.le_of_ble_eq_true rfl) (fun x4 => ?_)
      exact gg_lretr (pc := 20) hR dX6_dense_20
    · refine gg_aload_n (pc := 21) hC dX6_dense_21 (i := 0) rfl 0 rfl ?_
      refine gg_get (pc := 22) hC dX6_dense_22 fX6_19 0 pX_0 (v := .ref (A 2)) rfl ?_
      refine gg_get (pc := 25) hC dX6_dense_25 fX6_118 2 pX_2 (v := .int (zi σ 7)) rfl ?_
      refine gg_if_ne (pc := 28) hC dX6_dense_28 (tgt := 37) rfl (fun _ => ?_) (fun _ => ?_)
      · refine gg_bipush (pc := 31) hC dX6_dense_31 (x := -3) rfl ?_
        refine gg_callSLr (pc := 33) hC dX6_dense_33 cX6_140 (fun _ h => mX6_refusal h) (Nat.le_of_ble_eq_true rfl) (Nat.le_of_ble_eq_true rfl) (As := [.int (-3 : Int32)]) (rest := []) rfl rfl (Nat.le_of_ble_eq_true rfl) (fun x5 => ?_)
        exact gg_lretr (pc := 36) hR dX6_dense_36
      · refine gg_ldc2 (pc := 37) hC dX6_dense_37 qX6_144 ?_
        refine gg_aload_n (pc := 40) hC dX6_dense_40 (i := 0) rfl 0 rfl ?_
        refine gg_get (pc := 41) hC dX6_dense_41 fX6_19 0 pX_0 (v := .ref (A 2)) rfl ?_
        refine gg_get (pc := 44) hC dX6_dense_44 fX6_134 2 pX_2 (v := .ref (A 10)) rfl ?_
        refine gg_iload_n (pc := 47) hC dX6_dense_47 (i := 1) rfl 1 rfl ?_
        refine gg_iald (pc := 48) hC dX6_dense_48 10 0 pX_10 rfl ?_
        refine gg_i2l (pc := 49) hC dX6_dense_49 ?_
        refine gg_lmul (pc := 50) hC dX6_dense_50 ?_
        refine gg_aload_n (pc := 51) hC dX6_dense_51 (i := 0) rfl 0 rfl ?_
        refine gg_get (pc := 52) hC dX6_dense_52 fX6_19 0 pX_0 (v := .ref (A 2)) rfl ?_
        refine gg_get (pc := 55) hC dX6_dense_55 fX6_118 2 pX_2 (v := .int (zi σ 7)) rfl ?_
        refine gg_i2l (pc := 58) hC dX6_dense_58 ?_
        refine gg_iload_n (pc := 59) hC dX6_dense_59 (i := 2) rfl 2 rfl ?_
        refine gg_callSLr (pc := 60) hC dX6_dense_60 cX6_146 (fun _ h => mX6_lowest h) (Nat.le_of_ble_eq_true rfl) (Nat.le_of_ble_eq_true rfl) (As := [.long ((60 : Int64) * ((za σ 3 v1.toNatClampNeg).toInt64)), .long ((zi σ 7).toInt64), .int v2]) (rest := []) rfl rfl (Nat.le_of_ble_eq_true rfl) (fun x6 => ?_)
        exact gg_lretr (pc := 63) hR dX6_dense_63
def fX6_gain (v1 : Int32) (v2 : Int32) (σ : zS) : Option (Int64) :=
    zy1 (fX6_isWithin v1 3 32 σ) (fun x1 =>
    if x1 = 0 then (zy1 (fX6_refusal (-2 : Int32) σ) (fun x2 =>
    some x2)) else
    (zy1 (fX6_isHalf v2 σ) (fun x3 =>
    if x3 = 0 then (zy1 (fX6_refusal (-2 : Int32) σ) (fun x4 =>
    some x4)) else
    (zy1 (fX6_lowest ((v1.toInt64) * ((v1 + 1).toInt64)) ((6 : Int64) * ((v1 - 1).toInt64)) v2 σ) (fun x5 =>
    some x5)))))
set_option maxHeartbeats 4000000 in
set_option maxRecDepth 100000 in
theorem mX6_gain {l : Launch} {D : va_G} {A : Nat → Nat} {cA : Nat → ClassId} {v1 : Int32} {v2 : Int32}  {σ : zS} {r : Int64} (h : fX6_gain v1 v2 σ = some r) : zML l D (wX A cA) yX6_gain (zws yX6_gain cX6_gain 3 (some .long)) 2 58 [.ref (A 0), .int v1, .int v2] σ (r, σ) := by
  refine zm_Lr (lv := [(0, .ref (A 0)), (1, .int v1), (2, .int v2)]) rfl (sX_ok A) (Nat.le_of_ble_eq_true rfl) rfl (fun C _ _ hC hR => ?_) h
  unfold fX6_gain
  refine gg_iload_n (pc := 0) hC dX6_gain_0 (i := 1) rfl 1 rfl ?_
  refine gg_iconst (pc := 1) hC dX6_gain_1 (x := 3) rfl ?_
  refine gg_bipush (pc := 2) hC dX6_gain_2 (x := 32) rfl ?_
  refine gg_callSIr (pc := 4) hC dX6_gain_4 cX6_87 (fun _ h => mX6_isWithin h) (Nat.le_of_ble_eq_true rfl) (Nat.le_of_ble_eq_true rfl) (As := [.int v1, .int 3, .int 32]) (rest := []) rfl rfl (Nat.le_of_ble_eq_true rfl) (fun x1 => ?_)
  refine gg_if_eq (pc := 7) hC dX6_gain_7 (tgt := 17) rfl (fun _ => ?_) (fun _ => ?_)
  · refine gg_bipush (pc := 17) hC dX6_gain_17 (x := -2) rfl ?_
    refine gg_callSLr (pc := 19) hC dX6_gain_19 cX6_140 (fun _ h => mX6_refusal h) (Nat.le_of_ble_eq_true rfl) (Nat.le_of_ble_eq_true rfl) (As := [.int (-2 : Int32)]) (rest := []) rfl rfl (Nat.le_of_ble_eq_true rfl) (fun x2 => ?_)
    exact gg_lretr (pc := 22) hR dX6_gain_22
  · refine gg_iload_n (pc := 10) hC dX6_gain_10 (i := 2) rfl 2 rfl ?_
    refine gg_callSIr (pc := 11) hC dX6_gain_11 cX6_137 (fun _ h => mX6_isHalf h) (Nat.le_of_ble_eq_true rfl) (Nat.le_of_ble_eq_true rfl) (As := [.int v2]) (rest := []) rfl rfl (Nat.le_of_ble_eq_true rfl) (fun x3 => ?_)
    refine gg_if_ne (pc := 14) hC dX6_gain_14 (tgt := 23) rfl (fun _ => ?_) (fun _ => ?_)
    · refine gg_bipush (pc := 17) hC dX6_gain_17 (x := -2) rfl ?_
      refine gg_callSLr (pc := 19) hC dX6_gain_19 cX6_140 (fun _ h => mX6_refusal h) (Nat.le_of_ble_eq_true rfl) (Nat.le_of_ble_eq_true rfl) (As := [.int (-2 : Int32)]) (rest := []) rfl rfl (Nat.le_of_ble_eq_true rfl) (fun x4 => ?_)
      exact gg_lretr (pc := 22) hR dX6_gain_22
    · refine gg_iload_n (pc := 23) hC dX6_gain_23 (i := 1) rfl 1 rfl ?_
      refine gg_i2l (pc := 24) hC dX6_gain_24 ?_
      refine gg_iload_n (pc := 25) hC dX6_gain_25 (i := 1) rfl 1 rfl ?_
      refine gg_iconst (pc := 26) hC dX6_gain_26 (x := 1) rfl ?_
      refine gg_iadd (pc := 27) hC dX6_gain_27 ?_
      refine gg_i2l (pc := 28) hC dX6_gain_28 ?_
      refine gg_lmul (pc := 29) hC dX6_gain_29 ?_
      refine gg_ldc2 (pc := 30) hC dX6_gain_30 qX6_240 ?_
      refine gg_iload_n (pc := 33) hC dX6_gain_33 (i := 1) rfl 1 rfl ?_
      refine gg_iconst (pc := 34) hC dX6_gain_34 (x := 1) rfl ?_
      refine gg_isub (pc := 35) hC dX6_gain_35 ?_
      refine gg_i2l (pc := 36) hC dX6_gain_36 ?_
      refine gg_lmul (pc := 37) hC dX6_gain_37 ?_
      refine gg_iload_n (pc := 38) hC dX6_gain_38 (i := 2) rfl 2 rfl ?_
      refine gg_callSLr (pc := 39) hC dX6_gain_39 cX6_146 (fun _ h => mX6_lowest h) (Nat.le_of_ble_eq_true rfl) (Nat.le_of_ble_eq_true rfl) (As := [.long ((v1.toInt64) * ((v1 + 1).toInt64)), .long ((6 : Int64) * ((v1 - 1).toInt64)), .int v2]) (rest := []) rfl rfl (Nat.le_of_ble_eq_true rfl) (fun x5 => ?_)
      exact gg_lretr (pc := 42) hR dX6_gain_42

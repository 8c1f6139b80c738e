def fX7_seenOf (v1 : Int32) (v2 : Int32) (σ : zS) : Option (Int32 × zS) :=
    zy1 (fX7_finds σ) (fun s1 =>
    if v2 = 0 then (zg (zq v1 32) (some ((za s1 0 v1.toNatClampNeg), s1))) else
    if v2 = 1 then (zg (zq v1 32) (some (((za s1 0 v1.toNatClampNeg) / 60), s1))) else
    if v2 = 2 then (zg (zq v1 32) (zy1 (fX7_codeOf ((za s1 0 v1.toNatClampNeg) - (za s1 0 v1.toNatClampNeg) / 60 * 60) s1) (fun x4 =>
    some (x4, s1)))) else
    if v2 = 3 then (zy1 (fX7_boundOf v1 0 s1) (fun x6 =>
    some (x6, s1))) else
    if v2 = 4 then (zy1 (fX7_boundOf v1 1 s1) (fun x8 =>
    some (x8, s1))) else
    if v2 = 5 then (zg (zq v1 32) (some ((za s1 6 v1.toNatClampNeg), s1))) else
    if v2 = 6 then (if (zi s1 0) ≤ (v1 + 1) then (some ((-1 : Int32), s1)) else
    (zg (zq v1 32) (some ((za s1 7 v1.toNatClampNeg), s1)))) else
    (zg (zq v1 32) (if (za s1 8 v1.toNatClampNeg) = 0 then (some (0, s1)) else
    (some (1, s1)))))
set_option maxHeartbeats 4000000 in
set_option maxRecDepth 100000 in
theorem mX7_seenOf {l : Launch} {D : va_G} {A : Nat → Nat} {cA : Nat → ClassId} {v1 : Int32} {v2 : Int32}  {σ : zS} {r : Int32 × zS} (h : fX7_seenOf v1 v2 σ = some r) : zMI l D (wM A cA) yX7_seenOf (zws yX7_seenOf cX7_seenOf 3 (some .int)) 3 72 [.ref (A 0), .int v1, .int v2] σ r := by
  refine zm_I (lv := [(0, .ref (A 0)), (1, .int v1), (2, .int v2)]) rfl sM_ok (Nat.le_of_ble_eq_true rfl) rfl (fun C _ _ hC hR => ?_) h
  unfold fX7_seenOf
  refine gg_aload_n (pc := 0) hC dX7_seenOf_0 (i := 0) rfl 0 rfl ?_
  refine gg_callVV (pc := 1) hC dX7_seenOf_1 vX7_178 (fun _ h => mX7_finds h) (Nat.le_of_ble_eq_true rfl) (Nat.le_of_ble_eq_true rfl) (As := []) (rest := []) rfl rfl (Nat.le_of_ble_eq_true rfl) 0 7 pM_0 rfl (fun s1 => ?_)
  refine gg_iload_n (pc := 4) hC dX7_seenOf_4 (i := 2) rfl 2 rfl ?_
  refine gg_ite (fun hc2 => ?_) (fun hc2 => ?_)
  · refine gg_tabIn (pc := 5) hC dX7_seenOf_5 (by rw [hc2]; decide) (by rw [hc2]; decide) (off := 43) (by rw [hc2]; rfl) (tgt := 48) rfl ?_
    refine gg_aload_n (pc := 48) hC dX7_seenOf_48 (i := 0) rfl 0 rfl ?_
    refine gg_get (pc := 49) hC dX7_seenOf_49 fX7_7 0 pM_0 (v := .ref (A 1)) rfl ?_
    refine gg_iload_n (pc := 52) hC dX7_seenOf_52 (i := 1) rfl 1 rfl ?_
    refine gg_iald (pc := 53) hC dX7_seenOf_53 1 0 pM_1 rfl ?_
    exact gg_iret (pc := 54) hR dX7_seenOf_54
  · skip
    refine gg_ite (fun hc3 => ?_) (fun hc3 => ?_)
    · refine gg_tabIn (pc := 5) hC dX7_seenOf_5 (by rw [hc3]; decide) (by rw [hc3]; decide) (off := 50) (by rw [hc3]; rfl) (tgt := 55) rfl ?_
      refine gg_aload_n (pc := 55) hC dX7_seenOf_55 (i := 0) rfl 0 rfl ?_
      refine gg_get (pc := 56) hC dX7_seenOf_56 fX7_7 0 pM_0 (v := .ref (A 1)) rfl ?_
      refine gg_iload_n (pc := 59) hC dX7_seenOf_59 (i := 1) rfl 1 rfl ?_
      refine gg_iald (pc := 60) hC dX7_seenOf_60 1 0 pM_1 rfl ?_
      refine gg_bipush (pc := 61) hC dX7_seenOf_61 (x := 60) rfl ?_
      refine gg_idiv (pc := 63) hC dX7_seenOf_63 (by decide) ?_
      exact gg_iret (pc := 64) hR dX7_seenOf_64
    · skip
      refine gg_ite (fun hc5 => ?_) (fun hc5 => ?_)
      · refine gg_tabIn (pc := 5) hC dX7_seenOf_5 (by rw [hc5]; decide) (by rw [hc5]; decide) (off := 60) (by rw [hc5]; rfl) (tgt := 65) rfl ?_
        refine gg_aload_n (pc := 65) hC dX7_seenOf_65 (i := 0) rfl 0 rfl ?_
        refine gg_aload_n (pc := 66) hC dX7_seenOf_66 (i := 0) rfl 0 rfl ?_
        refine gg_get (pc := 67) hC dX7_seenOf_67 fX7_7 0 pM_0 (v := .ref (A 1)) rfl ?_
        refine gg_iload_n (pc := 70) hC dX7_seenOf_70 (i := 1) rfl 1 rfl ?_
        refine gg_iald (pc := 71) hC dX7_seenOf_71 1 0 pM_1 rfl ?_
        refine gg_bipush (pc := 72) hC dX7_seenOf_72 (x := 60) rfl ?_
        refine gg_irem (pc := 74) hC dX7_seenOf_74 (by decide) ?_
        refine gg_callVIr (pc := 75) hC dX7_seenOf_75 vX7_113 (fun _ h => mX7_codeOf h) (Nat.le_of_ble_eq_true rfl) (Nat.le_of_ble_eq_true rfl) (As := [.int ((za s1 0 v1.toNatClampNeg) - (za s1 0 v1.toNatClampNeg) / 60 * 60)]) (rest := []) rfl rfl (Nat.le_of_ble_eq_true rfl) 0 7 pM_0 rfl (fun x4 => ?_)
        exact gg_iret (pc := 78) hR dX7_seenOf_78
      · skip
        refine gg_ite (fun hc7 => ?_) (fun hc7 => ?_)
        · refine gg_tabIn (pc := 5) hC dX7_seenOf_5 (by rw [hc7]; decide) (by rw [hc7]; decide) (off := 74) (by rw [hc7]; rfl) (tgt := 79) rfl ?_
          refine gg_aload_n (pc := 79) hC dX7_seenOf_79 (i := 0) rfl 0 rfl ?_
          refine gg_iload_n (pc := 80) hC dX7_seenOf_80 (i := 1) rfl 1 rfl ?_
          refine gg_iconst (pc := 81) hC dX7_seenOf_81 (x := 0) rfl ?_
          refine gg_callVIr (pc := 82) hC dX7_seenOf_82 vX7_181 (fun _ h => mX7_boundOf h) (Nat.le_of_ble_eq_true rfl) (Nat.le_of_ble_eq_true rfl) (As := [.int v1, .int 0]) (rest := []) rfl rfl (Nat.le_of_ble_eq_true rfl) 0 7 pM_0 rfl (fun x6 => ?_)
          exact gg_iret (pc := 85) hR dX7_seenOf_85
        · skip
          refine gg_ite (fun hc9 => ?_) (fun hc9 => ?_)
          · refine gg_tabIn (pc := 5) hC dX7_seenOf_5 (by rw [hc9]; decide) (by rw [hc9]; decide) (off := 81) (by rw [hc9]; rfl) (tgt := 86) rfl ?_
            refine gg_aload_n (pc := 86) hC dX7_seenOf_86 (i := 0) rfl 0 rfl ?_
            refine gg_iload_n (pc := 87) hC dX7_seenOf_87 (i := 1) rfl 1 rfl ?_
            refine gg_iconst (pc := 88) hC dX7_seenOf_88 (x := 1) rfl ?_
            refine gg_callVIr (pc := 89) hC dX7_seenOf_89 vX7_181 (fun _ h => mX7_boundOf h) (Nat.le_of_ble_eq_true rfl) (Nat.le_of_ble_eq_true rfl) (As := [.int v1, .int 1]) (rest := []) rfl rfl (Nat.le_of_ble_eq_true rfl) 0 7 pM_0 rfl (fun x8 => ?_)
            exact gg_iret (pc := 92) hR dX7_seenOf_92
          · skip
            refine gg_ite (fun hc10 => ?_) (fun hc10 => ?_)
            · refine gg_tabIn (pc := 5) hC dX7_seenOf_5 (by rw [hc10]; decide) (by rw [hc10]; decide) (off := 88) (by rw [hc10]; rfl) (tgt := 93) rfl ?_
              refine gg_aload_n (pc := 93) hC dX7_seenOf_93 (i := 0) rfl 0 rfl ?_
              refine gg_get (pc := 94) hC dX7_seenOf_94 fX7_33 0 pM_0 (v := .ref (A 8)) rfl ?_
              refine gg_iload_n (pc := 97) hC dX7_seenOf_97 (i := 1) rfl 1 rfl ?_
              refine gg_iald (pc := 98) hC dX7_seenOf_98 8 0 pM_8 rfl ?_
              exact gg_iret (pc := 99) hR dX7_seenOf_99
            · skip
              refine gg_ite (fun hc11 => ?_) (fun hc11 => ?_)
              · refine gg_tabIn (pc := 5) hC dX7_seenOf_5 (by rw [hc11]; decide) (by rw [hc11]; decide) (off := 95) (by rw [hc11]; rfl) (tgt := 100) rfl ?_
                refine gg_iload_n (pc := 100) hC dX7_seenOf_100 (i := 1) rfl 1 rfl ?_
                refine gg_iconst (pc := 101) hC dX7_seenOf_101 (x := 1) rfl ?_
                refine gg_iadd (pc := 102) hC dX7_seenOf_102 ?_
                refine gg_aload_n (pc := 103) hC dX7_seenOf_103 (i := 0) rfl 0 rfl ?_
                refine gg_get (pc := 104) hC dX7_seenOf_104 fX7_81 0 pM_0 (v := .int (zi s1 0)) rfl ?_
                refine gg_icmp_ge (pc := 107) hC dX7_seenOf_107 (tgt := 119) rfl (fun _ => ?_) (fun _ => ?_)
                · refine gg_iconst (pc := 119) hC dX7_seenOf_119 (x := -1) rfl ?_
                  exact gg_iret (pc := 120) hR dX7_seenOf_120
                · refine gg_aload_n (pc := 110) hC dX7_seenOf_110 (i := 0) rfl 0 rfl ?_
                  refine gg_get (pc := 111) hC dX7_seenOf_111 fX7_36 0 pM_0 (v := .ref (A 9)) rfl ?_
                  refine gg_iload_n (pc := 114) hC dX7_seenOf_114 (i := 1) rfl 1 rfl ?_
                  refine gg_iald (pc := 115) hC dX7_seenOf_115 9 0 pM_9 rfl ?_
                  refine gg_goto (pc := 116) hC dX7_seenOf_116 (tgt := 120) rfl ?_
                  exact gg_iret (pc := 120) hR dX7_seenOf_120
              · skip
                refine gg_tabOut (pc := 5) hC dX7_seenOf_5 (zsw_out (n := 6) (Nat.le_of_ble_eq_true rfl) (fun k hk => by
                match k, hk with
                | 0, _ => exact hc2
                | 1, _ => exact hc3
                | 2, _ => exact hc5
                | 3, _ => exact hc7
                | 4, _ => exact hc9
                | 5, _ => exact hc10
                | 6, _ => exact hc11)) (tgt := 121) rfl ?_
                refine gg_aload_n (pc := 121) hC dX7_seenOf_121 (i := 0) rfl 0 rfl ?_
                refine gg_get (pc := 122) hC dX7_seenOf_122 fX7_39 0 pM_0 (v := .ref (A 10)) rfl ?_
                refine gg_iload_n (pc := 125) hC dX7_seenOf_125 (i := 1) rfl 1 rfl ?_
                refine gg_zald (pc := 126) hC dX7_seenOf_126 10 2 pM_10 rfl ?_
                refine gg_if_eq (pc := 127) hC dX7_seenOf_127 (tgt := 134) rfl (fun _ => ?_) (fun _ => ?_)
                · refine gg_iconst (pc := 134) hC dX7_seenOf_134 (x := 0) rfl ?_
                  exact gg_iret (pc := 135) hR dX7_seenOf_135
                · refine gg_iconst (pc := 130) hC dX7_seenOf_130 (x := 1) rfl ?_
                  refine gg_goto (pc := 131) hC dX7_seenOf_131 (tgt := 135) rfl ?_
                  exact gg_iret (pc := 135) hR dX7_seenOf_135
def fX7_stampOf (v1 : Int32) (v2 : Int32) (σ : zS) : Option (Int64 × zS) :=
    zy1 (fX7_finds σ) (fun s1 =>
    zg (zq v1 32) (zy1 (fX7_partOf (zj s1 0 v1.toNatClampNeg) (zl s1 0) v2 s1) (fun x2 =>
    some (x2, s1))))
set_option maxHeartbeats 4000000 in
set_option maxRecDepth 100000 in
theorem mX7_stampOf {l : Launch} {D : va_G} {A : Nat → Nat} {cA : Nat → ClassId} {v1 : Int32} {v2 : Int32}  {σ : zS} {r : Int64 × zS} (h : fX7_stampOf v1 v2 σ = some r) : zML l D (wM A cA) yX7_stampOf (zws yX7_stampOf cX7_stampOf 3 (some .long)) 3 72 [.ref (A 0), .int v1, .int v2] σ r := by
  refine zm_L (lv := [(0, .ref (A 0)), (1, .int v1), (2, .int v2)]) rfl sM_ok (Nat.le_of_ble_eq_true rfl) rfl (fun C _ _ hC hR => ?_) h
  unfold fX7_stampOf
  refine gg_aload_n (pc := 0) hC dX7_stampOf_0 (i := 0) rfl 0 rfl ?_
  refine gg_callVV (pc := 1) hC dX7_stampOf_1 vX7_178 (fun _ h => mX7_finds h) (Nat.le_of_ble_eq_true rfl) (Nat.le_of_ble_eq_true rfl) (As := []) (rest := []) rfl rfl (Nat.le_of_ble_eq_true rfl) 0 7 pM_0 rfl (fun s1 => ?_)
  refine gg_aload_n (pc := 4) hC dX7_stampOf_4 (i := 0) rfl 0 rfl ?_
  refine gg_get (pc := 5) hC dX7_stampOf_5 fX7_29 0 pM_0 (v := .ref (A 7)) rfl ?_
  refine gg_iload_n (pc := 8) hC dX7_stampOf_8 (i := 1) rfl 1 rfl ?_
  refine gg_lald (pc := 9) hC dX7_stampOf_9 7 1 pM_7 rfl ?_
  refine gg_aload_n (pc := 10) hC dX7_stampOf_10 (i := 0) rfl 0 rfl ?_
  refine gg_get (pc := 11) hC dX7_stampOf_11 fX7_161 0 pM_0 (v := .long (zl s1 0)) rfl ?_
  refine gg_iload_n (pc := 14) hC dX7_stampOf_14 (i := 2) rfl 2 rfl ?_
  refine gg_callSLr (pc := 15) hC dX7_stampOf_15 cX7_132 (fun _ h => mX7_partOf h) (Nat.le_of_ble_eq_true rfl) (Nat.le_of_ble_eq_true rfl) (As := [.long (zj s1 0 v1.toNatClampNeg), .long (zl s1 0), .int v2]) (rest := []) rfl rfl (Nat.le_of_ble_eq_true rfl) (fun x2 => ?_)
  exact gg_lret (pc := 18) hR dX7_stampOf_18
def fX7_edgeDigest_6 (v3 : Int32) : Nat → Int64 → Int32 → zS → Option (Int64 × zS)
  | 0, _, _, _ => none
  | n + 1, v4, v6, σ =>
    if 8 ≤ v6 then (some (v4, σ)) else
    (zy2 (fX7_seenOf v3 v6 σ) (fun x1 s2 =>
    zv (((31 : Int64) * v4) + (x1.toInt64)) (fun (x3 : Int64) =>
    fX7_edgeDigest_6 v3 n x3 (v6 + 1) s2)))
def fX7_edgeDigest (v1 : Int64) (v3 : Int32) (σ : zS) : Option (Int64 × zS) :=
    zy2 (fX7_edgeDigest_6 v3 500 v1 0 σ) (fun (x1 : Int64) (s2 : zS) =>
    zy2 (fX7_stampOf v3 0 s2) (fun x3 s4 =>
    zv (((31 : Int64) * x1) + x3) (fun (x5 : Int64) =>
    zy2 (fX7_stampOf v3 1 s4) (fun x6 s7 =>
    some ((((31 : Int64) * x5) + x6), s7)))))
set_option maxHeartbeats 4000000 in
set_option maxRecDepth 100000 in
theorem lX7_edgeDigest_6 {C : zK} {A : Nat → Nat} {cA : Nat → ClassId} (hC : zOK C (wM A cA) cX7_edgeDigest RX7 7 4 94) {v3 : Int32} : ∀ (n : Nat) (v4 : Int64) (v6 : Int32) (σ : zS), zG C (wM A cA) 7 (fun q => zW C (wM A cA) 7 36 [(0, .ref (A 0)), (3, .int v3), (4, .long q.1)] [] q.2) (fX7_edgeDigest_6 v3 n v4 v6 σ) 6 [(0, .ref (A 0)), (3, .int v3), (4, .long v4), (6, .int v6)] [] σ := by
  intro n
  induction n with
  | zero => intro v4 v6 σ; exact gg_none (o := none)
  | succ n ih =>
    intro v4 v6 σ
    rw [fX7_edgeDigest_6]
    refine gg_iload (pc := 6) hC dX7_edgeDigest_6 3 rfl ?_
    refine gg_bipush (pc := 8) hC dX7_edgeDigest_8 (x := 8) rfl ?_
    refine gg_icmp_ge (pc := 10) hC dX7_edgeDigest_10 (tgt := 36) rfl (fun _ => ?_) (fun _ => ?_)
    · exact gg_y (fun h => zW_lv [0, 1, 2] rfl h)
    · refine gg_ldc2 (pc := 13) hC dX7_edgeDigest_13 qX7_311 ?_
      refine gg_lload (pc := 16) hC dX7_edgeDigest_16 2 rfl ?_
      refine gg_lmul (pc := 18) hC dX7_edgeDigest_18 ?_
      refine gg_aload_n (pc := 19) hC dX7_edgeDigest_19 (i := 0) rfl 0 rfl ?_
      refine gg_iload_n (pc := 20) hC dX7_edgeDigest_20 (i := 3) rfl 1 rfl ?_
      refine gg_iload (pc := 21) hC dX7_edgeDigest_21 3 rfl ?_
      refine gg_callVI (pc := 23) hC dX7_edgeDigest_23 vX7_185 (fun _ h => mX7_seenOf h) (Nat.le_of_ble_eq_true rfl) (Nat.le_of_ble_eq_true rfl) (As := [.int v3, .int v6]) (rest := [.long ((31 : Int64) * v4)]) rfl rfl (Nat.le_of_ble_eq_true rfl) 0 7 pM_0 rfl (fun x1 s2 => ?_)
      refine gg_i2l (pc := 26) hC dX7_edgeDigest_26 ?_
      refine gg_ladd (pc := 27) hC dX7_edgeDigest_27 ?_
      refine gg_zvl (fun x3 => ?_)
      refine gg_lstore (pc := 28) hC dX7_edgeDigest_28 (Nat.le_of_ble_eq_true rfl) (lv' := [(4, .long x3), (0, .ref (A 0)), (3, .int v3), (6, .int v6)]) rfl ?_
      refine gg_iinc (pc := 30) hC dX7_edgeDigest_30 (y := 0) (j := 3) rfl (z := 1) rfl (Nat.le_of_ble_eq_true rfl) (lv' := [(6, .int (v6 + 1)), (4, .long x3), (0, .ref (A 0)), (3, .int v3)]) rfl ?_
      refine gg_goto (pc := 33) hC dX7_edgeDigest_33 (tgt := 6) rfl ?_
      exact gg_lv [2, 3, 1, 0] rfl (ih _ _ _)
set_option maxHeartbeats 4000000 in
set_option maxRecDepth 100000 in
theorem mX7_edgeDigest {l : Launch} {D : va_G} {A : Nat → Nat} {cA : Nat → ClassId} {v1 : Int64} {v3 : Int32}  {σ : zS} {r : Int64 × zS} (h : fX7_edgeDigest v1 v3 σ = some r) : zML l D (wM A cA) yX7_edgeDigest (zws yX7_edgeDigest cX7_edgeDigest 7 (some .long)) 4 94 [.ref (A 0), .long v1, .int v3] σ r := by
  refine zm_L (lv := [(0, .ref (A 0)), (1, .long v1), (3, .int v3)]) rfl sM_ok (Nat.le_of_ble_eq_true rfl) rfl (fun C _ _ hC hR => ?_) h
  unfold fX7_edgeDigest
  refine gg_lload_n (pc := 0) hC dX7_edgeDigest_0 (i := 1) rfl 1 rfl ?_
  refine gg_lstore (pc := 1) hC dX7_edgeDigest_1 (Nat.le_of_ble_eq_true rfl) (lv' := [(4, .long v1), (0, .ref (A 0)), (1, .long v1), (3, .int v3)]) rfl ?_
  refine gg_iconst (pc := 3) hC dX7_edgeDigest_3 (x := 0) rfl ?_
  refine gg_istore (pc := 4) hC dX7_edgeDigest_4 (Nat.le_of_ble_eq_true rfl) (lv' := [(6, .int 0), (4, .long v1), (0, .ref (A 0)), (1, .long v1), (3, .int v3)]) rfl ?_
  refine gg_join2 (E' := (fun q => zW C (wM A cA) 7 36 [(0, .ref (A 0)), (3, .int v3), (4, .long q.1)] [] q.2)) (gg_lv [2, 4, 1, 0] rfl (lX7_edgeDigest_6 hC  500 _ _ _)) (fun x1 s2 => ?_)
  show zG C (wM A cA) 7 _ _ 36 [(0, .ref (A 0)), (3, .int v3), (4, .long x1)] [] s2
  refine gg_ldc2 (pc := 36) hC dX7_edgeDigest_36 qX7_311 ?_
  refine gg_lload (pc := 39) hC dX7_edgeDigest_39 2 rfl ?_
  refine gg_lmul (pc := 41) hC dX7_edgeDigest_41 ?_
  refine gg_aload_n (pc := 42) hC dX7_edgeDigest_42 (i := 0) rfl 0 rfl ?_
  refine gg_iload_n (pc := 43) hC dX7_edgeDigest_43 (i := 3) rfl 1 rfl ?_
  refine gg_iconst (pc := 44) hC dX7_edgeDigest_44 (x := 0) rfl ?_
  refine gg_callVL (pc := 45) hC dX7_edgeDigest_45 vX7_188 (fun _ h => mX7_stampOf h) (Nat.le_of_ble_eq_true rfl) (Nat.le_of_ble_eq_true rfl) (As := [.int v3, .int 0]) (rest := [.long ((31 : Int64) * x1)]) rfl rfl (Nat.le_of_ble_eq_true rfl) 0 7 pM_0 rfl (fun x3 s4 => ?_)
  refine gg_ladd (pc := 48) hC dX7_edgeDigest_48 ?_
  refine gg_zvl (fun x5 => ?_)
  refine gg_lstore (pc := 49) hC dX7_edgeDigest_49 (Nat.le_of_ble_eq_true rfl) (lv' := [(4, .long x5), (0, .ref (A 0)), (3, .int v3)]) rfl ?_
  refine gg_ldc2 (pc := 51) hC dX7_edgeDigest_51 qX7_311 ?_
  refine gg_lload (pc := 54) hC dX7_edgeDigest_54 0 rfl ?_
  refine gg_lmul (pc := 56) hC dX7_edgeDigest_56 ?_
  refine gg_aload_n (pc := 57) hC dX7_edgeDigest_57 (i := 0) rfl 1 rfl ?_
  refine gg_iload_n (pc := 58) hC dX7_edgeDigest_58 (i := 3) rfl 2 rfl ?_
  refine gg_iconst (pc := 59) hC dX7_edgeDigest_59 (x := 1) rfl ?_
  refine gg_callVL (pc := 60) hC dX7_edgeDigest_60 vX7_188 (fun _ h => mX7_stampOf h) (Nat.le_of_ble_eq_true rfl) (Nat.le_of_ble_eq_true rfl) (As := [.int v3, .int 1]) (rest := [.long ((31 : Int64) * x5)]) rfl rfl (Nat.le_of_ble_eq_true rfl) 0 7 pM_0 rfl (fun x6 s7 => ?_)
  refine gg_ladd (pc := 63) hC dX7_edgeDigest_63 ?_
  exact gg_lret (pc := 64) hR dX7_edgeDigest_64
def fX7_frequencyOf (v1 : Int32) (v2 : Int32) (v3 : Int32) (σ : zS) : Option (Int64 × zS) :=
    zy1 (fX7_closes v1 σ) (fun x1 =>
    zy1 (fX7_opens v1 σ) (fun x2 =>
    if x1 = (-1 : Int32) then (zy1 (fX7_no (-3 : Int32) σ) (fun x3 =>
    some (x3, σ))) else
    (zy1 (fX7_finds σ) (fun s4 =>
    zg (zq x1 32) (zg (zq x2 32) (zv (((za s4 6 x1.toNatClampNeg) - (za s4 6 x2.toNatClampNeg)).toInt64) (fun (x5 : Int64) =>
    zy1 (if v2 = 0 then (zg (zq x1 32) (zg (zq x2 32) (some ((zj s4 0 x1.toNatClampNeg) - (zj s4 0 x2.toNatClampNeg))))) else
    (if v2 = 1 then (zy1 (fX7_boundOf x1 1 s4) (fun x6 =>
    zy1 (fX7_boundOf x2 0 s4) (fun x7 =>
    some ((x6 - x7).toInt64)))) else
    (if v2 = 2 then (zy1 (fX7_boundOf x1 0 s4) (fun x8 =>
    zy1 (fX7_boundOf x2 1 s4) (fun x9 =>
    some ((x8 - x9).toInt64)))) else
    (zg (zq x1 32) (zg (zq x2 32) (some (((za s4 0 x1.toNatClampNeg) - (za s4 0 x2.toNatClampNeg)).toInt64))))))) (fun (x10 : Int64) =>
    zy1 (if v2 = 0 then (some (zl s4 0)) else
    (some (1 : Int64))) (fun (x11 : Int64) =>
    zv (x5 * x11) (fun (x12 : Int64) =>
    if (0 : Int64) < x10 then (zy1 (fX7_partOf x12 x10 v3 s4) (fun x13 =>
    some (x13, s4))) else
    (zy1 (fX7_no (-3 : Int32) s4) (fun x14 =>
    some (x14, s4)))))))))))))
set_option maxHeartbeats 4000000 in
set_option maxRecDepth 100000 in
theorem mX7_frequencyOf {l : Launch} {D : va_G} {A : Nat → Nat} {cA : Nat → ClassId} {v1 : Int32} {v2 : Int32} {v3 : Int32}  {σ : zS} {r : Int64 × zS} (h : fX7_frequencyOf v1 v2 v3 σ = some r) : zML l D (wM A cA) yX7_frequencyOf (zws yX7_frequencyOf cX7_frequencyOf 10 (some .long)) 3 72 [.ref (A 0), .int v1, .int v2, .int v3] σ r := by
  refine zm_L (lv := [(0, .ref (A 0)), (1, .int v1), (2, .int v2), (3, .int v3)]) rfl sM_ok (Nat.le_of_ble_eq_true rfl) rfl (fun C _ _ hC hR => ?_) h
  unfold fX7_frequencyOf
  refine gg_aload_n (pc := 0) hC dX7_frequencyOf_0 (i := 0) rfl 0 rfl ?_
  refine gg_iload_n (pc := 1) hC dX7_frequencyOf_1 (i := 1) rfl 1 rfl ?_
  refine gg_callVIr (pc := 2) hC dX7_frequencyOf_2 vX7_200 (fun _ h => mX7_closes h) (Nat.le_of_ble_eq_true rfl) (Nat.le_of_ble_eq_true rfl) (As := [.int v1]) (rest := []) rfl rfl (Nat.le_of_ble_eq_true rfl) 0 7 pM_0 rfl (fun x1 => ?_)
  refine gg_istore (pc := 5) hC dX7_frequencyOf_5 (Nat.le_of_ble_eq_true rfl) (lv' := [(4, .int x1), (0, .ref (A 0)), (1, .int v1), (2, .int v2), (3, .int v3)]) rfl ?_
  refine gg_aload_n (pc := 7) hC dX7_frequencyOf_7 (i := 0) rfl 1 rfl ?_
  refine gg_iload_n (pc := 8) hC dX7_frequencyOf_8 (i := 1) rfl 2 rfl ?_
  refine gg_callVIr (pc := 9) hC dX7_frequencyOf_9 vX7_197 (fun _ h => mX7_opens h) (Nat.le_of_ble_eq_true rfl) (Nat.le_of_ble_eq_true rfl) (As := [.int v1]) (rest := []) rfl rfl (Nat.le_of_ble_eq_true rfl) 0 7 pM_0 rfl (fun x2 => ?_)
  refine gg_istore (pc := 12) hC dX7_frequencyOf_12 (Nat.le_of_ble_eq_true rfl) (lv' := [(5, .int x2), (4, .int x1), (0, .ref (A 0)), (1, .int v1), (2, .int v2), (3, .int v3)]) rfl ?_
  refine gg_iload (pc := 14) hC dX7_frequencyOf_14 1 rfl ?_
  refine gg_iconst (pc := 16) hC dX7_frequencyOf_16 (x := -1) rfl ?_
  refine gg_icmp_ne (pc := 17) hC dX7_frequencyOf_17 (tgt := 26) rfl (fun _ => ?_) (fun _ => ?_)
  · refine gg_bipush (pc := 20) hC dX7_frequencyOf_20 (x := -3) rfl ?_
    refine gg_callSLr (pc := 22) hC dX7_frequencyOf_22 cX7_126 (fun _ h => mX7_no h) (Nat.le_of_ble_eq_true rfl) (Nat.le_of_ble_eq_true rfl) (As := [.int (-3 : Int32)]) (rest := []) rfl rfl (Nat.le_of_ble_eq_true rfl) (fun x3 => ?_)
    exact gg_lret (pc := 25) hR dX7_frequencyOf_25
  · refine gg_aload_n (pc := 26) hC dX7_frequencyOf_26 (i := 0) rfl 2 rfl ?_
    refine gg_callVV (pc := 27) hC dX7_frequencyOf_27 vX7_178 (fun _ h => mX7_finds h) (Nat.le_of_ble_eq_true rfl) (Nat.le_of_ble_eq_true rfl) (As := []) (rest := []) rfl rfl (Nat.le_of_ble_eq_true rfl) 0 7 pM_0 rfl (fun s4 => ?_)
    refine gg_aload_n (pc := 30) hC dX7_frequencyOf_30 (i := 0) rfl 2 rfl ?_
    refine gg_get (pc := 31) hC dX7_frequencyOf_31 fX7_33 0 pM_0 (v := .ref (A 8)) rfl ?_
    refine gg_iload (pc := 34) hC dX7_frequencyOf_34 1 rfl ?_
    refine gg_iald (pc := 36) hC dX7_frequencyOf_36 8 0 pM_8 rfl ?_
    refine gg_aload_n (pc := 37) hC dX7_frequencyOf_37 (i := 0) rfl 2 rfl ?_
    refine gg_get (pc := 38) hC dX7_frequencyOf_38 fX7_33 0 pM_0 (v := .ref (A 8)) rfl ?_
    refine gg_iload (pc := 41) hC dX7_frequencyOf_41 0 rfl ?_
    refine gg_iald (pc := 43) hC dX7_frequencyOf_43 8 0 pM_8 rfl ?_
    refine gg_isub (pc := 44) hC dX7_frequencyOf_44 ?_
    refine gg_i2l (pc := 45) hC dX7_frequencyOf_45 ?_
    refine gg_zvl (fun x5 => ?_)
    refine gg_lstore (pc := 46) hC dX7_frequencyOf_46 (Nat.le_of_ble_eq_true rfl) (lv' := [(6, .long x5), (5, .int x2), (4, .int x1), (0, .ref (A 0)), (1, .int v1), (2, .int v2), (3, .int v3)]) rfl ?_
    refine gg_iload_n (pc := 48) hC dX7_frequencyOf_48 (i := 2) rfl 5 rfl ?_
    refine gg_join1 (E' := (fun q => zW C (wM A cA) 10 134 [(0, .ref (A 0)), (2, .int v2), (3, .int v3), (6, .long x5)] [.long q] s4)) ?_ (fun x10 => ?_)
    · refine gg_if_ne (pc := 49) hC dX7_frequencyOf_49 (tgt := 70) rfl (fun _ => ?_) (fun _ => ?_)
      · refine gg_aload_n (pc := 52) hC dX7_frequencyOf_52 (i := 0) rfl 3 rfl ?_
        refine gg_get (pc := 53) hC dX7_frequencyOf_53 fX7_29 0 pM_0 (v := .ref (A 7)) rfl ?_
        refine gg_iload (pc := 56) hC dX7_frequencyOf_56 2 rfl ?_
        refine gg_lald (pc := 58) hC dX7_frequencyOf_58 7 1 pM_7 rfl ?_
        refine gg_aload_n (pc := 59) hC dX7_frequencyOf_59 (i := 0) rfl 3 rfl ?_
        refine gg_get (pc := 60) hC dX7_frequencyOf_60 fX7_29 0 pM_0 (v := .ref (A 7)) rfl ?_
        refine gg_iload (pc := 63) hC dX7_frequencyOf_63 1 rfl ?_
        refine gg_lald (pc := 65) hC dX7_frequencyOf_65 7 1 pM_7 rfl ?_
        refine gg_lsub (pc := 66) hC dX7_frequencyOf_66 ?_
        refine gg_goto (pc := 67) hC dX7_frequencyOf_67 (tgt := 134) rfl ?_
        exact gg_y (fun h => zW_lv [3, 5, 6, 0] rfl h)
      · refine gg_iload_n (pc := 70) hC dX7_frequencyOf_70 (i := 2) rfl 5 rfl ?_
        refine gg_iconst (pc := 71) hC dX7_frequencyOf_71 (x := 1) rfl ?_
        refine gg_icmp_ne (pc := 72) hC dX7_frequencyOf_72 (tgt := 94) rfl (fun _ => ?_) (fun _ => ?_)
        · refine gg_aload_n (pc := 75) hC dX7_frequencyOf_75 (i := 0) rfl 3 rfl ?_
          refine gg_iload (pc := 76) hC dX7_frequencyOf_76 2 rfl ?_
          refine gg_iconst (pc := 78) hC dX7_frequencyOf_78 (x := 1) rfl ?_
          refine gg_callVIr (pc := 79) hC dX7_frequencyOf_79 vX7_181 (fun _ h => mX7_boundOf h) (Nat.le_of_ble_eq_true rfl) (Nat.le_of_ble_eq_true rfl) (As := [.int x1, .int 1]) (rest := []) rfl rfl (Nat.le_of_ble_eq_true rfl) 0 7 pM_0 rfl (fun x6 => ?_)
          refine gg_aload_n (pc := 82) hC dX7_frequencyOf_82 (i := 0) rfl 3 rfl ?_
          refine gg_iload (pc := 83) hC dX7_frequencyOf_83 1 rfl ?_
          refine gg_iconst (pc := 85) hC dX7_frequencyOf_85 (x := 0) rfl ?_
          refine gg_callVIr (pc := 86) hC dX7_frequencyOf_86 vX7_181 (fun _ h => mX7_boundOf h) (Nat.le_of_ble_eq_true rfl) (Nat.le_of_ble_eq_true rfl) (As := [.int x2, .int 0]) (rest := [.int x6]) rfl rfl (Nat.le_of_ble_eq_true rfl) 0 7 pM_0 rfl (fun x7 => ?_)
          refine gg_isub (pc := 89) hC dX7_frequencyOf_89 ?_
          refine gg_i2l (pc := 90) hC dX7_frequencyOf_90 ?_
          refine gg_goto (pc := 91) hC dX7_frequencyOf_91 (tgt := 134) rfl ?_
          exact gg_y (fun h => zW_lv [3, 5, 6, 0] rfl h)
        · refine gg_iload_n (pc := 94) hC dX7_frequencyOf_94 (i := 2) rfl 5 rfl ?_
          refine gg_iconst (pc := 95) hC dX7_frequencyOf_95 (x := 2) rfl ?_
          refine gg_icmp_ne (pc := 96) hC dX7_frequencyOf_96 (tgt := 118) rfl (fun _ => ?_) (fun _ => ?_)
          · refine gg_aload_n (pc := 99) hC dX7_frequencyOf_99 (i := 0) rfl 3 rfl ?_
            refine gg_iload (pc := 100) hC dX7_frequencyOf_100 2 rfl ?_
            refine gg_iconst (pc := 102) hC dX7_frequencyOf_102 (x := 0) rfl ?_
            refine gg_callVIr (pc := 103) hC dX7_frequencyOf_103 vX7_181 (fun _ h => mX7_boundOf h) (Nat.le_of_ble_eq_true rfl) (Nat.le_of_ble_eq_true rfl) (As := [.int x1, .int 0]) (rest := []) rfl rfl (Nat.le_of_ble_eq_true rfl) 0 7 pM_0 rfl (fun x8 => ?_)
            refine gg_aload_n (pc := 106) hC dX7_frequencyOf_106 (i := 0) rfl 3 rfl ?_
            refine gg_iload (pc := 107) hC dX7_frequencyOf_107 1 rfl ?_
            refine gg_iconst (pc := 109) hC dX7_frequencyOf_109 (x := 1) rfl ?_
            refine gg_callVIr (pc := 110) hC dX7_frequencyOf_110 vX7_181 (fun _ h => mX7_boundOf h) (Nat.le_of_ble_eq_true rfl) (Nat.le_of_ble_eq_true rfl) (As := [.int x2, .int 1]) (rest := [.int x8]) rfl rfl (Nat.le_of_ble_eq_true rfl) 0 7 pM_0 rfl (fun x9 => ?_)
            refine gg_isub (pc := 113) hC dX7_frequencyOf_113 ?_
            refine gg_i2l (pc := 114) hC dX7_frequencyOf_114 ?_
            refine gg_goto (pc := 115) hC dX7_frequencyOf_115 (tgt := 134) rfl ?_
            exact gg_y (fun h => zW_lv [3, 5, 6, 0] rfl h)
          · refine gg_aload_n (pc := 118) hC dX7_frequencyOf_118 (i := 0) rfl 3 rfl ?_
            refine gg_get (pc := 119) hC dX7_frequencyOf_119 fX7_7 0 pM_0 (v := .ref (A 1)) rfl ?_
            refine gg_iload (pc := 122) hC dX7_frequencyOf_122 2 rfl ?_
            refine gg_iald (pc := 124) hC dX7_frequencyOf_124 1 0 pM_1 rfl ?_
            refine gg_aload_n (pc := 125) hC dX7_frequencyOf_125 (i := 0) rfl 3 rfl ?_
            refine gg_get (pc := 126) hC dX7_frequencyOf_126 fX7_7 0 pM_0 (v := .ref (A 1)) rfl ?_
            refine gg_iload (pc := 129) hC dX7_frequencyOf_129 1 rfl ?_
            refine gg_iald (pc := 131) hC dX7_frequencyOf_131 1 0 pM_1 rfl ?_
            refine gg_isub (pc := 132) hC dX7_frequencyOf_132 ?_
            refine gg_i2l (pc := 133) hC dX7_frequencyOf_133 ?_
            exact gg_y (fun h => zW_lv [3, 5, 6, 0] rfl h)
    · show zG C (wM A cA) 10 _ _ 134 [(0, .ref (A 0)), (2, .int v2), (3, .int v3), (6, .long x5)] [.long x10] s4
      refine gg_lstore (pc := 134) hC dX7_frequencyOf_134 (Nat.le_of_ble_eq_true rfl) (lv' := [(8, .long x10), (0, .ref (A 0)), (2, .int v2), (3, .int v3), (6, .long x5)]) rfl ?_
      refine gg_lload (pc := 136) hC dX7_frequencyOf_136 4 rfl ?_
      refine gg_iload_n (pc := 138) hC dX7_frequencyOf_138 (i := 2) rfl 2 rfl ?_
      refine gg_join1 (E' := (fun q => zW C (wM A cA) 10 150 [(3, .int v3), (8, .long x10)] [.long q, .long x5] s4)) ?_ (fun x11 => ?_)
      · refine gg_if_ne (pc := 139) hC dX7_frequencyOf_139 (tgt := 149) rfl (fun _ => ?_) (fun _ => ?_)
        · refine gg_aload_n (pc := 142) hC dX7_frequencyOf_142 (i := 0) rfl 1 rfl ?_
          refine gg_get (pc := 143) hC dX7_frequencyOf_143 fX7_161 0 pM_0 (v := .long (zl s4 0)) rfl ?_
          refine gg_goto (pc := 146) hC dX7_frequencyOf_146 (tgt := 150) rfl ?_
          exact gg_y (fun h => zW_lv [3, 0] rfl h)
        · refine gg_lconst (pc := 149) hC dX7_frequencyOf_149 (x := 1) rfl ?_
          exact gg_y (fun h => zW_lv [3, 0] rfl h)
      · show zG C (wM A cA) 10 _ _ 150 [(3, .int v3), (8, .long x10)] [.long x11, .long x5] s4
        refine gg_lmul (pc := 150) hC dX7_frequencyOf_150 ?_
        refine gg_zvl (fun x12 => ?_)
        refine gg_lstore (pc := 151) hC dX7_frequencyOf_151 (Nat.le_of_ble_eq_true rfl) (lv' := [(6, .long x12), (3, .int v3), (8, .long x10)]) rfl ?_
        refine gg_lload (pc := 153) hC dX7_frequencyOf_153 2 rfl ?_
        refine gg_lconst (pc := 155) hC dX7_frequencyOf_155 (x := 0) rfl ?_
        refine gg_lcmp_gt (pc := 156) hC dX7_frequencyOf_156 dX7_frequencyOf_157 (tgt := 168) rfl (fun _ => ?_) (fun _ => ?_)
        · refine gg_lload (pc := 168) hC dX7_frequencyOf_168 0 rfl ?_
          refine gg_lload (pc := 170) hC dX7_frequencyOf_170 2 rfl ?_
          refine gg_iload_n (pc := 172) hC dX7_frequencyOf_172 (i := 3) rfl 1 rfl ?_
          refine gg_callSLr (pc := 173) hC dX7_frequencyOf_173 cX7_132 (fun _ h => mX7_partOf h) (Nat.le_of_ble_eq_true rfl) (Nat.le_of_ble_eq_true rfl) (As := [.long x12, .long x10, .int v3]) (rest := []) rfl rfl (Nat.le_of_ble_eq_true rfl) (fun x13 => ?_)
          exact gg_lret (pc := 176) hR dX7_frequencyOf_176
        · refine gg_bipush (pc := 160) hC dX7_frequencyOf_160 (x := -3) rfl ?_
          refine gg_callSLr (pc := 162) hC dX7_frequencyOf_162 cX7_126 (fun _ h => mX7_no h) (Nat.le_of_ble_eq_true rfl) (Nat.le_of_ble_eq_true rfl) (As := [.int (-3 : Int32)]) (rest := []) rfl rfl (Nat.le_of_ble_eq_true rfl) (fun x14 => ?_)
          refine gg_goto (pc := 165) hC dX7_frequencyOf_165 (tgt := 176) rfl ?_
          exact gg_lret (pc := 176) hR dX7_frequencyOf_176
def fX7_periodsOf (v1 : Int32) (σ : zS) : Option (Int32 × zS) :=
    zy1 (fX7_finds σ) (fun s1 =>
    zy1 (fX7_closes v1 s1) (fun x2 =>
    if x2 = (-1 : Int32) then (some ((-1 : Int32), s1)) else
    (zy1 (fX7_closes v1 s1) (fun x3 =>
    zg (zq x3 32) (zy1 (fX7_opens v1 s1) (fun x4 =>
    zg (zq x4 32) (some (((za s1 6 x3.toNatClampNeg) - (za s1 6 x4.toNatClampNeg)), s1))))))))
set_option maxHeartbeats 4000000 in
set_option maxRecDepth 100000 in
theorem mX7_periodsOf {l : Launch} {D : va_G} {A : Nat → Nat} {cA : Nat → ClassId} {v1 : Int32}  {σ : zS} {r : Int32 × zS} (h : fX7_periodsOf v1 σ = some r) : zMI l D (wM A cA) yX7_periodsOf (zws yX7_periodsOf cX7_periodsOf 2 (some .int)) 3 72 [.ref (A 0), .int v1] σ r := by
  refine zm_I (lv := [(0, .ref (A 0)), (1, .int v1)]) rfl sM_ok (Nat.le_of_ble_eq_true rfl) rfl (fun C _ _ hC hR => ?_) h
  unfold fX7_periodsOf
  refine gg_aload_n (pc := 0) hC dX7_periodsOf_0 (i := 0) rfl 0 rfl ?_
  refine gg_callVV (pc := 1) hC dX7_periodsOf_1 vX7_178 (fun _ h => mX7_finds h) (Nat.le_of_ble_eq_true rfl) (Nat.le_of_ble_eq_true rfl) (As := []) (rest := []) rfl rfl (Nat.le_of_ble_eq_true rfl) 0 7 pM_0 rfl (fun s1 => ?_)
  refine gg_aload_n (pc := 4) hC dX7_periodsOf_4 (i := 0) rfl 0 rfl ?_
  refine gg_iload_n (pc := 5) hC dX7_periodsOf_5 (i := 1) rfl 1 rfl ?_
  refine gg_callVIr (pc := 6) hC dX7_periodsOf_6 vX7_200 (fun _ h => mX7_closes h) (Nat.le_of_ble_eq_true rfl) (Nat.le_of_ble_eq_true rfl) (As := [.int v1]) (rest := []) rfl rfl (Nat.le_of_ble_eq_true rfl) 0 7 pM_0 rfl (fun x2 => ?_)
  refine gg_iconst (pc := 9) hC dX7_periodsOf_9 (x := -1) rfl ?_
  refine gg_icmp_ne (pc := 10) hC dX7_periodsOf_10 (tgt := 17) rfl (fun _ => ?_) (fun _ => ?_)
  · refine gg_iconst (pc := 13) hC dX7_periodsOf_13 (x := -1) rfl ?_
    refine gg_goto (pc := 14) hC dX7_periodsOf_14 (tgt := 38) rfl ?_
    exact gg_iret (pc := 38) hR dX7_periodsOf_38
  · refine gg_aload_n (pc := 17) hC dX7_periodsOf_17 (i := 0) rfl 0 rfl ?_
    refine gg_get (pc := 18) hC dX7_periodsOf_18 fX7_33 0 pM_0 (v := .ref (A 8)) rfl ?_
    refine gg_aload_n (pc := 21) hC dX7_periodsOf_21 (i := 0) rfl 0 rfl ?_
    refine gg_iload_n (pc := 22) hC dX7_periodsOf_22 (i := 1) rfl 1 rfl ?_
    refine gg_callVIr (pc := 23) hC dX7_periodsOf_23 vX7_200 (fun _ h => mX7_closes h) (Nat.le_of_ble_eq_true rfl) (Nat.le_of_ble_eq_true rfl) (As := [.int v1]) (rest := [.ref (A 8)]) rfl rfl (Nat.le_of_ble_eq_true rfl) 0 7 pM_0 rfl (fun x3 => ?_)
    refine gg_iald (pc := 26) hC dX7_periodsOf_26 8 0 pM_8 rfl ?_
    refine gg_aload_n (pc := 27) hC dX7_periodsOf_27 (i := 0) rfl 0 rfl ?_
    refine gg_get (pc := 28) hC dX7_periodsOf_28 fX7_33 0 pM_0 (v := .ref (A 8)) rfl ?_
    refine gg_aload_n (pc := 31) hC dX7_periodsOf_31 (i := 0) rfl 0 rfl ?_
    refine gg_iload_n (pc := 32) hC dX7_periodsOf_32 (i := 1) rfl 1 rfl ?_
    refine gg_callVIr (pc := 33) hC dX7_periodsOf_33 vX7_197 (fun _ h => mX7_opens h) (Nat.le_of_ble_eq_true rfl) (Nat.le_of_ble_eq_true rfl) (As := [.int v1]) (rest := [.ref (A 8), .int (za s1 6 x3.toNatClampNeg)]) rfl rfl (Nat.le_of_ble_eq_true rfl) 0 7 pM_0 rfl (fun x4 => ?_)
    refine gg_iald (pc := 36) hC dX7_periodsOf_36 8 0 pM_8 rfl ?_
    refine gg_isub (pc := 37) hC dX7_periodsOf_37 ?_
    exact gg_iret (pc := 38) hR dX7_periodsOf_38
def fX7_whereOf (v1 : Int32) (v2 : Int32) (σ : zS) : Option (Int32 × zS) :=
    if v2 = 0 then (zy1 (fX7_opens v1 σ) (fun x1 =>
    some (x1, σ))) else
    (if v2 = 1 then (zy1 (fX7_closes v1 σ) (fun x2 =>
    some (x2, σ))) else
    (zy2 (fX7_periodsOf v1 σ) (fun x3 s4 =>
    some (x3, s4))))
set_option maxHeartbeats 4000000 in
set_option maxRecDepth 100000 in
theorem mX7_whereOf {l : Launch} {D : va_G} {A : Nat → Nat} {cA : Nat → ClassId} {v1 : Int32} {v2 : Int32}  {σ : zS} {r : Int32 × zS} (h : fX7_whereOf v1 v2 σ = some r) : zMI l D (wM A cA) yX7_whereOf (zws yX7_whereOf cX7_whereOf 3 (some .int)) 4 93 [.ref (A 0), .int v1, .int v2] σ r := by
  refine zm_I (lv := [(0, .ref (A 0)), (1, .int v1), (2, .int v2)]) rfl sM_ok (Nat.le_of_ble_eq_true rfl) rfl (fun C _ _ hC hR => ?_) h
  unfold fX7_whereOf
  refine gg_iload_n (pc := 0) hC dX7_whereOf_0 (i := 2) rfl 2 rfl ?_
  refine gg_if_ne (pc := 1) hC dX7_whereOf_1 (tgt := 12) rfl (fun _ => ?_) (fun _ => ?_)
  · refine gg_aload_n (pc := 4) hC dX7_whereOf_4 (i := 0) rfl 0 rfl ?_
    refine gg_iload_n (pc := 5) hC dX7_whereOf_5 (i := 1) rfl 1 rfl ?_
    refine gg_callVIr (pc := 6) hC dX7_whereOf_6 vX7_197 (fun _ h => mX7_opens h) (Nat.le_of_ble_eq_true rfl) (Nat.le_of_ble_eq_true rfl) (As := [.int v1]) (rest := []) rfl rfl (Nat.le_of_ble_eq_true rfl) 0 7 pM_0 rfl (fun x1 => ?_)
    refine gg_goto (pc := 9) hC dX7_whereOf_9 (tgt := 30) rfl ?_
    exact gg_iret (pc := 30) hR dX7_whereOf_30
  · refine gg_iload_n (pc := 12) hC dX7_whereOf_12 (i := 2) rfl 2 rfl ?_
    refine gg_iconst (pc := 13) hC dX7_whereOf_13 (x := 1) rfl ?_
    refine gg_icmp_ne (pc := 14) hC dX7_whereOf_14 (tgt := 25) rfl (fun _ => ?_) (fun _ => ?_)
    · refine gg_aload_n (pc := 17) hC dX7_whereOf_17 (i := 0) rfl 0 rfl ?_
      refine gg_iload_n (pc := 18) hC dX7_whereOf_18 (i := 1) rfl 1 rfl ?_
      refine gg_callVIr (pc := 19) hC dX7_whereOf_19 vX7_200 (fun _ h => mX7_closes h) (Nat.le_of_ble_eq_true rfl) (Nat.le_of_ble_eq_true rfl) (As := [.int v1]) (rest := []) rfl rfl (Nat.le_of_ble_eq_true rfl) 0 7 pM_0 rfl (fun x2 => ?_)
      refine gg_goto (pc := 22) hC dX7_whereOf_22 (tgt := 30) rfl ?_
      exact gg_iret (pc := 30) hR dX7_whereOf_30
    · refine gg_aload_n (pc := 25) hC dX7_whereOf_25 (i := 0) rfl 0 rfl ?_
      refine gg_iload_n (pc := 26) hC dX7_whereOf_26 (i := 1) rfl 1 rfl ?_
      refine gg_callVI (pc := 27) hC dX7_whereOf_27 vX7_203 (fun _ h => mX7_periodsOf h) (Nat.le_of_ble_eq_true rfl) (Nat.le_of_ble_eq_true rfl) (As := [.int v1]) (rest := []) rfl rfl (Nat.le_of_ble_eq_true rfl) 0 7 pM_0 rfl (fun x3 s4 => ?_)
      exact gg_iret (pc := 30) hR dX7_whereOf_30
def fX7_gateDigest_6 (v3 : Int32) : Nat → Int64 → Int32 → zS → Option (Int64 × zS)
  | 0, _, _, _ => none
  | n + 1, v4, v6, σ =>
    if 3 ≤ v6 then (some (v4, σ)) else
    (zy2 (fX7_whereOf v3 v6 σ) (fun x1 s2 =>
    zv (((31 : Int64) * v4) + (x1.toInt64)) (fun (x3 : Int64) =>
    fX7_gateDigest_6 v3 n x3 (v6 + 1) s2)))
def fX7_gateDigest_38 (v3 : Int32) : Nat → Int64 → Int32 → zS → Option (Int64 × zS)
  | 0, _, _, _ => none
  | n + 1, v4, v6, σ =>
    if 4 ≤ v6 then (some (v4, σ)) else
    (zy2 (fX7_frequencyOf v3 v6 0 σ) (fun x1 s2 =>
    zv (((31 : Int64) * v4) + x1) (fun (x3 : Int64) =>
    zy2 (fX7_frequencyOf v3 v6 1 s2) (fun x4 s5 =>
    zv (((31 : Int64) * x3) + x4) (fun (x6 : Int64) =>
    fX7_gateDigest_38 v3 n x6 (v6 + 1) s5)))))
def fX7_gateDigest (v1 : Int64) (v3 : Int32) (σ : zS) : Option (Int64 × zS) :=
    zy2 (fX7_gateDigest_6 v3 500 v1 0 σ) (fun (x1 : Int64) (s2 : zS) =>
    zy2 (fX7_gateDigest_38 v3 500 x1 0 s2) (fun (x3 : Int64) (s4 : zS) =>
    zy1 (fX7_closingOf v3 s4) (fun x5 =>
    some ((((31 : Int64) * x3) + (x5.toInt64)), s4))))
set_option maxHeartbeats 4000000 in
set_option maxRecDepth 100000 in
theorem lX7_gateDigest_6 {C : zK} {A : Nat → Nat} {cA : Nat → ClassId} (hC : zOK C (wM A cA) cX7_gateDigest RX7 7 5 115) {v3 : Int32} : ∀ (n : Nat) (v4 : Int64) (v6 : Int32) (σ : zS), zG C (wM A cA) 7 (fun q => zW C (wM A cA) 7 35 [(0, .ref (A 0)), (3, .int v3), (4, .long q.1)] [] q.2) (fX7_gateDigest_6 v3 n v4 v6 σ) 6 [(0, .ref (A 0)), (3, .int v3), (4, .long v4), (6, .int v6)] [] σ := by
  intro n
  induction n with
  | zero => intro v4 v6 σ; exact gg_none (o := none)
  | succ n ih =>
    intro v4 v6 σ
    rw [fX7_gateDigest_6]
    refine gg_iload (pc := 6) hC dX7_gateDigest_6 3 rfl ?_
    refine gg_iconst (pc := 8) hC dX7_gateDigest_8 (x := 3) rfl ?_
    refine gg_icmp_ge (pc := 9) hC dX7_gateDigest_9 (tgt := 35) rfl (fun _ => ?_) (fun _ => ?_)
    · exact gg_y (fun h => zW_lv [0, 1, 2] rfl h)
    · refine gg_ldc2 (pc := 12) hC dX7_gateDigest_12 qX7_311 ?_
      refine gg_lload (pc := 15) hC dX7_gateDigest_15 2 rfl ?_
      refine gg_lmul (pc := 17) hC dX7_gateDigest_17 ?_
      refine gg_aload_n (pc := 18) hC dX7_gateDigest_18 (i := 0) rfl 0 rfl ?_
      refine gg_iload_n (pc := 19) hC dX7_gateDigest_19 (i := 3) rfl 1 rfl ?_
      refine gg_iload (pc := 20) hC dX7_gateDigest_20 3 rfl ?_
      refine gg_callVI (pc := 22) hC dX7_gateDigest_22 vX7_209 (fun _ h => mX7_whereOf h) (Nat.le_of_ble_eq_true rfl) (Nat.le_of_ble_eq_true rfl) (As := [.int v3, .int v6]) (rest := [.long ((31 : Int64) * v4)]) rfl rfl (Nat.le_of_ble_eq_true rfl) 0 7 pM_0 rfl (fun x1 s2 => ?_)
      refine gg_i2l (pc := 25) hC dX7_gateDigest_25 ?_
      refine gg_ladd (pc := 26) hC dX7_gateDigest_26 ?_
      refine gg_zvl (fun x3 => ?_)
      refine gg_lstore (pc := 27) hC dX7_gateDigest_27 (Nat.le_of_ble_eq_true rfl) (lv' := [(4, .long x3), (0, .ref (A 0)), (3, .int v3), (6, .int v6)]) rfl ?_
      refine gg_iinc (pc := 29) hC dX7_gateDigest_29 (y := 0) (j := 3) rfl (z := 1) rfl (Nat.le_of_ble_eq_true rfl) (lv' := [(6, .int (v6 + 1)), (4, .long x3), (0, .ref (A 0)), (3, .int v3)]) rfl ?_
      refine gg_goto (pc := 32) hC dX7_gateDigest_32 (tgt := 6) rfl ?_
      exact gg_lv [2, 3, 1, 0] rfl (ih _ _ _)
set_option maxHeartbeats 4000000 in
set_option maxRecDepth 100000 in
theorem lX7_gateDigest_38 {C : zK} {A : Nat → Nat} {cA : Nat → ClassId} (hC : zOK C (wM A cA) cX7_gateDigest RX7 7 5 115) {v3 : Int32} : ∀ (n : Nat) (v4 : Int64) (v6 : Int32) (σ : zS), zG C (wM A cA) 7 (fun q => zW C (wM A cA) 7 84 [(0, .ref (A 0)), (3, .int v3), (4, .long q.1)] [] q.2) (fX7_gateDigest_38 v3 n v4 v6 σ) 38 [(0, .ref (A 0)), (3, .int v3), (4, .long v4), (6, .int v6)] [] σ := by
  intro n
  induction n with
  | zero => intro v4 v6 σ; exact gg_none (o := none)
  | succ n ih =>
    intro v4 v6 σ
    rw [fX7_gateDigest_38]
    refine gg_iload (pc := 38) hC dX7_gateDigest_38 3 rfl ?_
    refine gg_iconst (pc := 40) hC dX7_gateDigest_40 (x := 4) rfl ?_
    refine gg_icmp_ge (pc := 41) hC dX7_gateDigest_41 (tgt := 84) rfl (fun _ => ?_) (fun _ => ?_)
    · exact gg_y (fun h => zW_lv [0, 1, 2] rfl h)
    · refine gg_ldc2 (pc := 44) hC dX7_gateDigest_44 qX7_311 ?_
      refine gg_lload (pc := 47) hC dX7_gateDigest_47 2 rfl ?_
      refine gg_lmul (pc := 49) hC dX7_gateDigest_49 ?_
      refine gg_aload_n (pc := 50) hC dX7_gateDigest_50 (i := 0) rfl 0 rfl ?_
      refine gg_iload_n (pc := 51) hC dX7_gateDigest_51 (i := 3) rfl 1 rfl ?_
      refine gg_iload (pc := 52) hC dX7_gateDigest_52 3 rfl ?_
      refine gg_iconst (pc := 54) hC dX7_gateDigest_54 (x := 0) rfl ?_
      refine gg_callVL (pc := 55) hC dX7_gateDigest_55 vX7_212 (fun _ h => mX7_frequencyOf h) (Nat.le_of_ble_eq_true rfl) (Nat.le_of_ble_eq_true rfl) (As := [.int v3, .int v6, .int 0]) (rest := [.long ((31 : Int64) * v4)]) rfl rfl (Nat.le_of_ble_eq_true rfl) 0 7 pM_0 rfl (fun x1 s2 => ?_)
      refine gg_ladd (pc := 58) hC dX7_gateDigest_58 ?_
      refine gg_zvl (fun x3 => ?_)
      refine gg_lstore (pc := 59) hC dX7_gateDigest_59 (Nat.le_of_ble_eq_true rfl) (lv' := [(4, .long x3), (0, .ref (A 0)), (3, .int v3), (6, .int v6)]) rfl ?_
      refine gg_ldc2 (pc := 61) hC dX7_gateDigest_61 qX7_311 ?_
      refine gg_lload (pc := 64) hC dX7_gateDigest_64 0 rfl ?_
      refine gg_lmul (pc := 66) hC dX7_gateDigest_66 ?_
      refine gg_aload_n (pc := 67) hC dX7_gateDigest_67 (i := 0) rfl 1 rfl ?_
      refine gg_iload_n (pc := 68) hC dX7_gateDigest_68 (i := 3) rfl 2 rfl ?_
      refine gg_iload (pc := 69) hC dX7_gateDigest_69 3 rfl ?_
      refine gg_iconst (pc := 71) hC dX7_gateDigest_71 (x := 1) rfl ?_
      refine gg_callVL (pc := 72) hC dX7_gateDigest_72 vX7_212 (fun _ h => mX7_frequencyOf h) (Nat.le_of_ble_eq_true rfl) (Nat.le_of_ble_eq_true rfl) (As := [.int v3, .int v6, .int 1]) (rest := [.long ((31 : Int64) * x3)]) rfl rfl (Nat.le_of_ble_eq_true rfl) 0 7 pM_0 rfl (fun x4 s5 => ?_)
      refine gg_ladd (pc := 75) hC dX7_gateDigest_75 ?_
      refine gg_zvl (fun x6 => ?_)
      refine gg_lstore (pc := 76) hC dX7_gateDigest_76 (Nat.le_of_ble_eq_true rfl) (lv' := [(4, .long x6), (0, .ref (A 0)), (3, .int v3), (6, .int v6)]) rfl ?_
      refine gg_iinc (pc := 78) hC dX7_gateDigest_78 (y := 0) (j := 3) rfl (z := 1) rfl (Nat.le_of_ble_eq_true rfl) (lv' := [(6, .int (v6 + 1)), (4, .long x6), (0, .ref (A 0)), (3, .int v3)]) rfl ?_
      refine gg_goto (pc := 81) hC dX7_gateDigest_81 (tgt := 38) rfl ?_
      exact gg_lv [2, 3, 1, 0] rfl (ih _ _ _)
set_option maxHeartbeats 4000000 in
set_option maxRecDepth 100000 in
theorem mX7_gateDigest {l : Launch} {D : va_G} {A : Nat → Nat} {cA : Nat → ClassId} {v1 : Int64} {v3 : Int32}  {σ : zS} {r : Int64 × zS} (h : fX7_gateDigest v1 v3 σ = some r) : zML l D (wM A cA) yX7_gateDigest (zws yX7_gateDigest cX7_gateDigest 7 (some .long)) 5 115 [.ref (A 0), .long v1, .int v3] σ r := by
  refine zm_L (lv := [(0, .ref (A 0)), (1, .long v1), (3, .int v3)]) rfl sM_ok (Nat.le_of_ble_eq_true rfl) rfl (fun C _ _ hC hR => ?_) h
  unfold fX7_gateDigest
  refine gg_lload_n (pc := 0) hC dX7_gateDigest_0 (i := 1) rfl 1 rfl ?_
  refine gg_lstore (pc := 1) hC dX7_gateDigest_1 (Nat.le_of_ble_eq_true rfl) (lv' := [(4, .long v1), (0, .ref (A 0)), (1, .long v1), (3, .int v3)]) rfl ?_
  refine gg_iconst (pc := 3) hC dX7_gateDigest_3 (x := 0) rfl ?_
  refine gg_istore (pc := 4) hC dX7_gateDigest_4 (Nat.le_of_ble_eq_true rfl) (lv' := [(6, .int 0), (4, .long v1), (0, .ref (A 0)), (1, .long v1), (3, .int v3)]) rfl ?_
  refine gg_join2 (E' := (fun q => zW C (wM A cA) 7 35 [(0, .ref (A 0)), (3, .int v3), (4, .long q.1)] [] q.2)) (gg_lv [2, 4, 1, 0] rfl (lX7_gateDigest_6 hC  500 _ _ _)) (fun x1 s2 => ?_)
  show zG C (wM A cA) 7 _ _ 35 [(0, .ref (A 0)), (3, .int v3), (4, .long x1)] [] s2
  refine gg_iconst (pc := 35) hC dX7_gateDigest_35 (x := 0) rfl ?_
  refine gg_istore (pc := 36) hC dX7_gateDigest_36 (Nat.le_of_ble_eq_true rfl) (lv' := [(6, .int 0), (0, .ref (A 0)), (3, .int v3), (4, .long x1)]) rfl ?_
  refine gg_join2 (E' := (fun q => zW C (wM A cA) 7 84 [(0, .ref (A 0)), (3, .int v3), (4, .long q.1)] [] q.2)) (gg_lv [1, 2, 3, 0] rfl (lX7_gateDigest_38 hC  500 _ _ _)) (fun x3 s4 => ?_)
  show zG C (wM A cA) 7 _ _ 84 [(0, .ref (A 0)), (3, .int v3), (4, .long x3)] [] s4
  refine gg_ldc2 (pc := 84) hC dX7_gateDigest_84 qX7_311 ?_
  refine gg_lload (pc := 87) hC dX7_gateDigest_87 2 rfl ?_
  refine gg_lmul (pc := 89) hC dX7_gateDigest_89 ?_
  refine gg_aload_n (pc := 90) hC dX7_gateDigest_90 (i := 0) rfl 0 rfl ?_
  refine gg_iload_n (pc := 91) hC dX7_gateDigest_91 (i := 3) rfl 1 rfl ?_
  refine gg_callVIr (pc := 92) hC dX7_gateDigest_92 vX7_220 (fun _ h => mX7_closingOf h) (Nat.le_of_ble_eq_true rfl) (Nat.le_of_ble_eq_true rfl) (As := [.int v3]) (rest := [.long ((31 : Int64) * x3)]) rfl rfl (Nat.le_of_ble_eq_true rfl) 0 7 pM_0 rfl (fun x5 => ?_)
  refine gg_i2l (pc := 95) hC dX7_gateDigest_95 ?_
  refine gg_ladd (pc := 96) hC dX7_gateDigest_96 ?_
  exact gg_lret (pc := 97) hR dX7_gateDigest_97
def fX7_squaresAt_5 (v1 : Int32) (σ : zS) : Nat → Int64 → Int32 → Option (Int64)
  | 0, _, _ => none
  | n + 1, v2, v4 =>
    if (zi σ 0) ≤ (v4 + (2 * v1)) then (some v2) else
    (zg (zq (v4 + (2 * v1)) 32) (zg (zq (v4 + v1) 32) (zg (zq v4 32) (zv (((zj σ 0 (v4 + (2 * v1)).toNatClampNeg) - ((2 : Int64) * (zj σ 0 (v4 + v1).toNatClampNeg))) + (zj σ 0 v4.toNatClampNeg)) (fun (x1 : Int64) =>
    zv (v2 + (x1 * x1)) (fun (x2 : Int64) =>
    fX7_squaresAt_5 v1 σ n x2 (v4 + 1)))))))
def fX7_squaresAt (v1 : Int32) (σ : zS) : Option (Int64) :=
    zy1 (fX7_squaresAt_5 v1 σ 500 (0 : Int64) 0) (fun (x1 : Int64) =>
    if (zi σ 0) ≤ (2 * v1) then (some (-1 : Int64)) else
    (some x1))
set_option maxHeartbeats 4000000 in
set_option maxRecDepth 100000 in
theorem lX7_squaresAt_5 {C : zK} {A : Nat → Nat} {cA : Nat → ClassId} (hC : zOK C (wM A cA) cX7_squaresAt RX7 7 0 0) {v1 : Int32} {σ : zS} : ∀ (n : Nat) (v2 : Int64) (v4 : Int32), zG C (wM A cA) 7 (fun q => zW C (wM A cA) 7 67 [(0, .ref (A 0)), (1, .int v1), (2, .long q)] [] σ) (fX7_squaresAt_5 v1 σ n v2 v4) 5 [(0, .ref (A 0)), (1, .int v1), (2, .long v2), (4, .int v4)] [] σ := by
  intro n
  induction n with
  | zero => intro v2 v4; exact gg_none (o := none)
  | succ n ih =>
    intro v2 v4
    rw [fX7_squaresAt_5]
    refine gg_iload (pc := 5) hC dX7_squaresAt_5 3 rfl ?_
    refine gg_iconst (pc := 7) hC dX7_squaresAt_7 (x := 2) rfl ?_
    refine gg_iload_n (pc := 8) hC dX7_squaresAt_8 (i := 1) rfl 1 rfl ?_
    refine gg_imul (pc := 9) hC dX7_squaresAt_9 ?_
    refine gg_iadd (pc := 10) hC dX7_squaresAt_10 ?_
    refine gg_aload_n (pc := 11) hC dX7_squaresAt_11 (i := 0) rfl 0 rfl ?_
    refine gg_get (pc := 12) hC dX7_squaresAt_12 fX7_81 0 pM_0 (v := .int (zi σ 0)) rfl ?_
    refine gg_icmp_ge (pc := 15) hC dX7_squaresAt_15 (tgt := 67) rfl (fun _ => ?_) (fun _ => ?_)
    · exact gg_y (fun h => zW_lv [0, 1, 2] rfl h)
    · refine gg_aload_n (pc := 18) hC dX7_squaresAt_18 (i := 0) rfl 0 rfl ?_
      refine gg_get (pc := 19) hC dX7_squaresAt_19 fX7_29 0 pM_0 (v := .ref (A 7)) rfl ?_
      refine gg_iload (pc := 22) hC dX7_squaresAt_22 3 rfl ?_
      refine gg_iconst (pc := 24) hC dX7_squaresAt_24 (x := 2) rfl ?_
      refine gg_iload_n (pc := 25) hC dX7_squaresAt_25 (i := 1) rfl 1 rfl ?_
      refine gg_imul (pc := 26) hC dX7_squaresAt_26 ?_
      refine gg_iadd (pc := 27) hC dX7_squaresAt_27 ?_
      refine gg_lald (pc := 28) hC dX7_squaresAt_28 7 1 pM_7 rfl ?_
      refine gg_ldc2 (pc := 29) hC dX7_squaresAt_29 qX7_168 ?_
      refine gg_aload_n (pc := 32) hC dX7_squaresAt_32 (i := 0) rfl 0 rfl ?_
      refine gg_get (pc := 33) hC dX7_squaresAt_33 fX7_29 0 pM_0 (v := .ref (A 7)) rfl ?_
      refine gg_iload (pc := 36) hC dX7_squaresAt_36 3 rfl ?_
      refine gg_iload_n (pc := 38) hC dX7_squaresAt_38 (i := 1) rfl 1 rfl ?_
      refine gg_iadd (pc := 39) hC dX7_squaresAt_39 ?_
      refine gg_lald (pc := 40) hC dX7_squaresAt_40 7 1 pM_7 rfl ?_
      refine gg_lmul (pc := 41) hC dX7_squaresAt_41 ?_
      refine gg_lsub (pc := 42) hC dX7_squaresAt_42 ?_
      refine gg_aload_n (pc := 43) hC dX7_squaresAt_43 (i := 0) rfl 0 rfl ?_
      refine gg_get (pc := 44) hC dX7_squaresAt_44 fX7_29 0 pM_0 (v := .ref (A 7)) rfl ?_
      refine gg_iload (pc := 47) hC dX7_squaresAt_47 3 rfl ?_
      refine gg_lald (pc := 49) hC dX7_squaresAt_49 7 1 pM_7 rfl ?_
      refine gg_ladd (pc := 50) hC dX7_squaresAt_50 ?_
      refine gg_zvl (fun x1 => ?_)
      refine gg_lstore (pc := 51) hC dX7_squaresAt_51 (Nat.le_of_ble_eq_true rfl) (lv' := [(5, .long x1), (0, .ref (A 0)), (1, .int v1), (2, .long v2), (4, .int v4)]) rfl ?_
      refine gg_lload_n (pc := 53) hC dX7_squaresAt_53 (i := 2) rfl 3 rfl ?_
      refine gg_lload (pc := 54) hC dX7_squaresAt_54 0 rfl ?_
      refine gg_lload (pc := 56) hC dX7_squaresAt_56 0 rfl ?_
      refine gg_lmul (pc := 58) hC dX7_squaresAt_58 ?_
      refine gg_ladd (pc := 59) hC dX7_squaresAt_59 ?_
      refine gg_zvl (fun x2 => ?_)
      refine gg_lstore_n (pc := 60) hC dX7_squaresAt_60 (i := 2) rfl (Nat.le_of_ble_eq_true rfl) (lv' := [(2, .long x2), (5, .long x1), (0, .ref (A 0)), (1, .int v1), (4, .int v4)]) rfl ?_
      refine gg_iinc (pc := 61) hC dX7_squaresAt_61 (y := 0) (j := 4) rfl (z := 1) rfl (Nat.le_of_ble_eq_true rfl) (lv' := [(4, .int (v4 + 1)), (2, .long x2), (5, .long x1), (0, .ref (A 0)), (1, .int v1)]) rfl ?_
      refine gg_goto (pc := 64) hC dX7_squaresAt_64 (tgt := 5) rfl ?_
      exact gg_lv [3, 4, 1, 0] rfl (ih _ _)
set_option maxHeartbeats 4000000 in
set_option maxRecDepth 100000 in
theorem mX7_squaresAt {l : Launch} {D : va_G} {A : Nat → Nat} {cA : Nat → ClassId} {v1 : Int32}  {σ : zS} {r : Int64} (h : fX7_squaresAt v1 σ = some r) : zML l D (wM A cA) yX7_squaresAt (zws yX7_squaresAt cX7_squaresAt 7 (some .long)) 0 0 [.ref (A 0), .int v1] σ (r, σ) := by
  refine zm_Lr (lv := [(0, .ref (A 0)), (1, .int v1)]) rfl sM_ok (Nat.le_of_ble_eq_true rfl) rfl (fun C _ _ hC hR => ?_) h
  unfold fX7_squaresAt
  refine gg_lconst (pc := 0) hC dX7_squaresAt_0 (x := 0) rfl ?_
  refine gg_lstore_n (pc := 1) hC dX7_squaresAt_1 (i := 2) rfl (Nat.le_of_ble_eq_true rfl) (lv' := [(2, .long (0 : Int64)), (0, .ref (A 0)), (1, .int v1)]) rfl ?_
  refine gg_iconst (pc := 2) hC dX7_squaresAt_2 (x := 0) rfl ?_
  refine gg_istore (pc := 3) hC dX7_squaresAt_3 (Nat.le_of_ble_eq_true rfl) (lv' := [(4, .int 0), (2, .long (0 : Int64)), (0, .ref (A 0)), (1, .int v1)]) rfl ?_
  refine gg_join1 (E' := (fun q => zW C (wM A cA) 7 67 [(0, .ref (A 0)), (1, .int v1), (2, .long q)] [] σ)) (gg_lv [2, 3, 1, 0] rfl (lX7_squaresAt_5 hC  500 _ _)) (fun x1 => ?_)
  show zG C (wM A cA) 7 _ _ 67 [(0, .ref (A 0)), (1, .int v1), (2, .long x1)] [] σ
  refine gg_aload_n (pc := 67) hC dX7_squaresAt_67 (i := 0) rfl 0 rfl ?_
  refine gg_get (pc := 68) hC dX7_squaresAt_68 fX7_81 0 pM_0 (v := .int (zi σ 0)) rfl ?_
  refine gg_iconst (pc := 71) hC dX7_squaresAt_71 (x := 2) rfl ?_
  refine gg_iload_n (pc := 72) hC dX7_squaresAt_72 (i := 1) rfl 1 rfl ?_
  refine gg_imul (pc := 73) hC dX7_squaresAt_73 ?_
  refine gg_icmp_le (pc := 74) hC dX7_squaresAt_74 (tgt := 81) rfl (fun _ => ?_) (fun _ => ?_)
  · refine gg_ldc2 (pc := 81) hC dX7_squaresAt_81 qX7_252 ?_
    exact gg_lretr (pc := 84) hR dX7_squaresAt_84
  · refine gg_lload_n (pc := 77) hC dX7_squaresAt_77 (i := 2) rfl 2 rfl ?_
    refine gg_goto (pc := 78) hC dX7_squaresAt_78 (tgt := 84) rfl ?_
    exact gg_lretr (pc := 84) hR dX7_squaresAt_84
def fX7_weightAt (v1 : Int32) (σ : zS) : Option (Int64) :=
    some ((((2 : Int64) * (v1.toInt64)) * (v1.toInt64)) * (((zi σ 0) - (2 * v1)).toInt64))
set_option maxHeartbeats 4000000 in
set_option maxRecDepth 100000 in
theorem mX7_weightAt {l : Launch} {D : va_G} {A : Nat → Nat} {cA : Nat → ClassId} {v1 : Int32}  {σ : zS} {r : Int64} (h : fX7_weightAt v1 σ = some r) : zML l D (wM A cA) yX7_weightAt (zws yX7_weightAt cX7_weightAt 2 (some .long)) 0 0 [.ref (A 0), .int v1] σ (r, σ) := by
  refine zm_Lr (lv := [(0, .ref (A 0)), (1, .int v1)]) rfl sM_ok (Nat.le_of_ble_eq_true rfl) rfl (fun C _ _ hC hR => ?_) h
  unfold fX7_weightAt
  refine gg_ldc2 (pc := 0) hC dX7_weightAt_0 qX7_168 ?_
  refine gg_iload_n (pc := 3) hC dX7_weightAt_3 (i := 1) rfl 1 rfl ?_
  refine gg_i2l (pc := 4) hC dX7_weightAt_4 ?_
  refine gg_lmul (pc := 5) hC dX7_weightAt_5 ?_
  refine gg_iload_n (pc := 6) hC dX7_weightAt_6 (i := 1) rfl 1 rfl ?_
  refine gg_i2l (pc := 7) hC dX7_weightAt_7 ?_
  refine gg_lmul (pc := 8) hC dX7_weightAt_8 ?_
  refine gg_aload_n (pc := 9) hC dX7_weightAt_9 (i := 0) rfl 0 rfl ?_
  refine gg_get (pc := 10) hC dX7_weightAt_10 fX7_81 0 pM_0 (v := .int (zi σ 0)) rfl ?_
  refine gg_iconst (pc := 13) hC dX7_weightAt_13 (x := 2) rfl ?_
  refine gg_iload_n (pc := 14) hC dX7_weightAt_14 (i := 1) rfl 1 rfl ?_
  refine gg_imul (pc := 15) hC dX7_weightAt_15 ?_
  refine gg_isub (pc := 16) hC dX7_weightAt_16 ?_
  refine gg_i2l (pc := 17) hC dX7_weightAt_17 ?_
  refine gg_lmul (pc := 18) hC dX7_weightAt_18 ?_
  exact gg_lretr (pc := 19) hR dX7_weightAt_19
def fX7_isLess (v1 : Int32) (v2 : Int32) (σ : zS) : Option (Int32) :=
    zy1 (fX7_squaresAt v1 σ) (fun x1 =>
    zy1 (fX7_weightAt v2 σ) (fun x2 =>
    zv (x1 * x2) (fun (x3 : Int64) =>
    zy1 (fX7_squaresAt v2 σ) (fun x4 =>
    zy1 (fX7_weightAt v1 σ) (fun x5 =>
    zv (x4 * x5) (fun (x6 : Int64) =>
    if x3 < x6 then (some 1) else
    (if x3 = x6 then (if v2 ≤ v1 then (some 0) else
    (some 1)) else
    (some 0))))))))
set_option maxHeartbeats 4000000 in
set_option maxRecDepth 100000 in
theorem mX7_isLess {l : Launch} {D : va_G} {A : Nat → Nat} {cA : Nat → ClassId} {v1 : Int32} {v2 : Int32}  {σ : zS} {r : Int32} (h : fX7_isLess v1 v2 σ = some r) : zMI l D (wM A cA) yX7_isLess (zws yX7_isLess cX7_isLess 7 (some .boolean)) 1 26 [.ref (A 0), .int v1, .int v2] σ (r, σ) := by
  refine zm_Zr (lv := [(0, .ref (A 0)), (1, .int v1), (2, .int v2)]) rfl sM_ok (Nat.le_of_ble_eq_true rfl) rfl (fun C _ _ hC hR => ?_) h
  unfold fX7_isLess
  refine gg_aload_n (pc := 0) hC dX7_isLess_0 (i := 0) rfl 0 rfl ?_
  refine gg_iload_n (pc := 1) hC dX7_isLess_1 (i := 1) rfl 1 rfl ?_
  refine gg_callVLr (pc := 2) hC dX7_isLess_2 vX7_260 (fun _ h => mX7_squaresAt h) (Nat.le_of_ble_eq_true rfl) (Nat.le_of_ble_eq_true rfl) (As := [.int v1]) (rest := []) rfl rfl (Nat.le_of_ble_eq_true rfl) 0 7 pM_0 rfl (fun x1 => ?_)
  refine gg_aload_n (pc := 5) hC dX7_isLess_5 (i := 0) rfl 0 rfl ?_
  refine gg_iload_n (pc := 6) hC dX7_isLess_6 (i := 2) rfl 2 rfl ?_
  refine gg_callVLr (pc := 7) hC dX7_isLess_7 vX7_263 (fun _ h => mX7_weightAt h) (Nat.le_of_ble_eq_true rfl) (Nat.le_of_ble_eq_true rfl) (As := [.int v2]) (rest := [.long x1]) rfl rfl (Nat.le_of_ble_eq_true rfl) 0 7 pM_0 rfl (fun x2 => ?_)
  refine gg_lmul (pc := 10) hC dX7_isLess_10 ?_
  refine gg_zvl (fun x3 => ?_)
  refine gg_lstore_n (pc := 11) hC dX7_isLess_11 (i := 3) rfl (Nat.le_of_ble_eq_true rfl) (lv' := [(3, .long x3), (0, .ref (A 0)), (1, .int v1), (2, .int v2)]) rfl ?_
  refine gg_aload_n (pc := 12) hC dX7_isLess_12 (i := 0) rfl 1 rfl ?_
  refine gg_iload_n (pc := 13) hC dX7_isLess_13 (i := 2) rfl 3 rfl ?_
  refine gg_callVLr (pc := 14) hC dX7_isLess_14 vX7_260 (fun _ h => mX7_squaresAt h) (Nat.le_of_ble_eq_true rfl) (Nat.le_of_ble_eq_true rfl) (As := [.int v2]) (rest := []) rfl rfl (Nat.le_of_ble_eq_true rfl) 0 7 pM_0 rfl (fun x4 => ?_)
  refine gg_aload_n (pc := 17) hC dX7_isLess_17 (i := 0) rfl 1 rfl ?_
  refine gg_iload_n (pc := 18) hC dX7_isLess_18 (i := 1) rfl 2 rfl ?_
  refine gg_callVLr (pc := 19) hC dX7_isLess_19 vX7_263 (fun _ h => mX7_weightAt h) (Nat.le_of_ble_eq_true rfl) (Nat.le_of_ble_eq_true rfl) (As := [.int v1]) (rest := [.long x4]) rfl rfl (Nat.le_of_ble_eq_true rfl) 0 7 pM_0 rfl (fun x5 => ?_)
  refine gg_lmul (pc := 22) hC dX7_isLess_22 ?_
  refine gg_zvl (fun x6 => ?_)
  refine gg_lstore (pc := 23) hC dX7_isLess_23 (Nat.le_of_ble_eq_true rfl) (lv' := [(5, .long x6), (3, .long x3), (0, .ref (A 0)), (1, .int v1), (2, .int v2)]) rfl ?_
  refine gg_lload_n (pc := 25) hC dX7_isLess_25 (i := 3) rfl 1 rfl ?_
  refine gg_lload (pc := 26) hC dX7_isLess_26 0 rfl ?_
  refine gg_lcmp_lt (pc := 28) hC dX7_isLess_28 dX7_isLess_29 (tgt := 44) rfl (fun _ => ?_) (fun _ => ?_)
  · refine gg_iconst (pc := 44) hC dX7_isLess_44 (x := 1) rfl ?_
    refine gg_goto (pc := 45) hC dX7_isLess_45 (tgt := 49) rfl ?_
    exact gg_zretr (pc := 49) hR dX7_isLess_49 rfl
  · refine gg_lload_n (pc := 32) hC dX7_isLess_32 (i := 3) rfl 1 rfl ?_
    refine gg_lload (pc := 33) hC dX7_isLess_33 0 rfl ?_
    refine gg_lcmp_ne (pc := 35) hC dX7_isLess_35 dX7_isLess_36 (tgt := 48) rfl (fun _ => ?_) (fun _ => ?_)
    · refine gg_iload_n (pc := 39) hC dX7_isLess_39 (i := 1) rfl 3 rfl ?_
      refine gg_iload_n (pc := 40) hC dX7_isLess_40 (i := 2) rfl 4 rfl ?_
      refine gg_icmp_ge (pc := 41) hC dX7_isLess_41 (tgt := 48) rfl (fun _ => ?_) (fun _ => ?_)
      · refine gg_iconst (pc := 48) hC dX7_isLess_48 (x := 0) rfl ?_
        exact gg_zretr (pc := 49) hR dX7_isLess_49 rfl
      · refine gg_iconst (pc := 44) hC dX7_isLess_44 (x := 1) rfl ?_
        refine gg_goto (pc := 45) hC dX7_isLess_45 (tgt := 49) rfl ?_
        exact gg_zretr (pc := 49) hR dX7_isLess_49 rfl
    · refine gg_iconst (pc := 48) hC dX7_isLess_48 (x := 0) rfl ?_
      exact gg_zretr (pc := 49) hR dX7_isLess_49 rfl
def fX7_rankOf_23 (v1 : Int32) (v2 : Int32) (v3 : Int32) (σ : zS) : Nat → Int32 → Int32 → Option (Int32)
  | 0, _, _ => none
  | n + 1, v4, v5 =>
    zy1 (fX7_ranked σ) (fun x1 =>
    if x1 < v5 then (some v4) else
    (zy1 (if v5 = v3 then (some 0) else
    (zy1 (fX7_isLess v5 v3 σ) (fun x2 =>
    if x2 = 0 then (some 0) else
    (some 1)))) (fun (x3 : Int32) =>
    zv (v4 + x3) (fun (x4 : Int32) =>
    fX7_rankOf_23 v1 v2 v3 σ n x4 (v5 + 1)))))
def fX7_rankOf_9 (v1 : Int32) (σ : zS) : Nat → Int32 → Int32 → Option (Int32)
  | 0, _, _ => none
  | n + 1, v2, v3 =>
    zy1 (fX7_ranked σ) (fun x1 =>
    if x1 < v3 then (some v2) else
    (zy1 (fX7_rankOf_23 v1 v2 v3 σ 500 0 1) (fun (x2 : Int32) =>
    zy1 (if x2 = v1 then (some v3) else
    (some v2)) (fun (x3 : Int32) =>
    fX7_rankOf_9 v1 σ n x3 (v3 + 1)))))
def fX7_rankOf (v1 : Int32) (σ : zS) : Option (Int32 × zS) :=
    zy1 (fX7_finds σ) (fun s1 =>
    zy1 (fX7_rankOf_9 v1 s1 500 (-2 : Int32) 1) (fun (x2 : Int32) =>
    some (x2, s1)))
set_option maxHeartbeats 4000000 in
set_option maxRecDepth 100000 in
theorem lX7_rankOf_23 {C : zK} {A : Nat → Nat} {cA : Nat → ClassId} (hC : zOK C (wM A cA) cX7_rankOf RX7 6 3 72) {v1 : Int32} {v2 : Int32} {v3 : Int32} {σ : zS} : ∀ (n : Nat) (v4 : Int32) (v5 : Int32), zG C (wM A cA) 6 (fun q => zW C (wM A cA) 6 64 [(0, .ref (A 0)), (1, .int v1), (2, .int v2), (3, .int v3), (4, .int q)] [] σ) (fX7_rankOf_23 v1 v2 v3 σ n v4 v5) 23 [(0, .ref (A 0)), (1, .int v1), (2, .int v2), (3, .int v3), (4, .int v4), (5, .int v5)] [] σ := by
  intro n
  induction n with
  | zero => intro v4 v5; exact gg_none (o := none)
  | succ n ih =>
    intro v4 v5
    rw [fX7_rankOf_23]
    refine gg_iload (pc := 23) hC dX7_rankOf_23 5 rfl ?_
    refine gg_aload_n (pc := 25) hC dX7_rankOf_25 (i := 0) rfl 0 rfl ?_
    refine gg_callVIr (pc := 26) hC dX7_rankOf_26 vX7_269 (fun _ h => mX7_ranked h) (Nat.le_of_ble_eq_true rfl) (Nat.le_of_ble_eq_true rfl) (As := []) (rest := [.int v5]) rfl rfl (Nat.le_of_ble_eq_true rfl) 0 7 pM_0 rfl (fun x1 => ?_)
    refine gg_icmp_gt (pc := 29) hC dX7_rankOf_29 (tgt := 64) rfl (fun _ => ?_) (fun _ => ?_)
    · exact gg_y (fun h => zW_lv [0, 1, 2, 3, 4] rfl h)
    · refine gg_iload (pc := 32) hC dX7_rankOf_32 4 rfl ?_
      refine gg_iload (pc := 34) hC dX7_rankOf_34 5 rfl ?_
      refine gg_iload_n (pc := 36) hC dX7_rankOf_36 (i := 3) rfl 3 rfl ?_
      refine gg_join1 (E' := (fun q => zW C (wM A cA) 6 55 [(0, .ref (A 0)), (1, .int v1), (2, .int v2), (3, .int v3), (5, .int v5)] [.int q, .int v4] σ)) ?_ (fun x3 => ?_)
      · refine gg_icmp_eq (pc := 37) hC dX7_rankOf_37 (tgt := 54) rfl (fun _ => ?_) (fun _ => ?_)
        · refine gg_iconst (pc := 54) hC dX7_rankOf_54 (x := 0) rfl ?_
          exact gg_y (fun h => zW_lv [0, 1, 2, 3, 5] rfl h)
        · refine gg_aload_n (pc := 40) hC dX7_rankOf_40 (i := 0) rfl 0 rfl ?_
          refine gg_iload (pc := 41) hC dX7_rankOf_41 5 rfl ?_
          refine gg_iload_n (pc := 43) hC dX7_rankOf_43 (i := 3) rfl 3 rfl ?_
          refine gg_callVIr (pc := 44) hC dX7_rankOf_44 vX7_272 (fun _ h => mX7_isLess h) (Nat.le_of_ble_eq_true rfl) (Nat.le_of_ble_eq_true rfl) (As := [.int v5, .int v3]) (rest := [.int v4]) rfl rfl (Nat.le_of_ble_eq_true rfl) 0 7 pM_0 rfl (fun x2 => ?_)
          refine gg_if_eq (pc := 47) hC dX7_rankOf_47 (tgt := 54) rfl (fun _ => ?_) (fun _ => ?_)
          · refine gg_iconst (pc := 54) hC dX7_rankOf_54 (x := 0) rfl ?_
            exact gg_y (fun h => zW_lv [0, 1, 2, 3, 5] rfl h)
          · refine gg_iconst (pc := 50) hC dX7_rankOf_50 (x := 1) rfl ?_
            refine gg_goto (pc := 51) hC dX7_rankOf_51 (tgt := 55) rfl ?_
            exact gg_y (fun h => zW_lv [0, 1, 2, 3, 5] rfl h)
      · show zG C (wM A cA) 6 _ _ 55 [(0, .ref (A 0)), (1, .int v1), (2, .int v2), (3, .int v3), (5, .int v5)] [.int x3, .int v4] σ
        refine gg_iadd (pc := 55) hC dX7_rankOf_55 ?_
        refine gg_zvi (fun x4 => ?_)
        refine gg_istore (pc := 56) hC dX7_rankOf_56 (Nat.le_of_ble_eq_true rfl) (lv' := [(4, .int x4), (0, .ref (A 0)), (1, .int v1), (2, .int v2), (3, .int v3), (5, .int v5)]) rfl ?_
        refine gg_iinc (pc := 58) hC dX7_rankOf_58 (y := 0) (j := 5) rfl (z := 1) rfl (Nat.le_of_ble_eq_true rfl) (lv' := [(5, .int (v5 + 1)), (4, .int x4), (0, .ref (A 0)), (1, .int v1), (2, .int v2), (3, .int v3)]) rfl ?_
        refine gg_goto (pc := 61) hC dX7_rankOf_61 (tgt := 23) rfl ?_
        exact gg_lv [2, 3, 4, 5, 1, 0] rfl (ih _ _)
set_option maxHeartbeats 4000000 in
set_option maxRecDepth 100000 in
theorem lX7_rankOf_9 {C : zK} {A : Nat → Nat} {cA : Nat → ClassId} (hC : zOK C (wM A cA) cX7_rankOf RX7 6 3 72) {v1 : Int32} {σ : zS} : ∀ (n : Nat) (v2 : Int32) (v3 : Int32), zG C (wM A cA) 6 (fun q => zW C (wM A cA) 6 82 [(2, .int q)] [] σ) (fX7_rankOf_9 v1 σ n v2 v3) 9 [(0, .ref (A 0)), (1, .int v1), (2, .int v2), (3, .int v3)] [] σ := by
  intro n
  induction n with
  | zero => intro v2 v3; exact gg_none (o := none)
  | succ n ih =>
    intro v2 v3
    rw [fX7_rankOf_9]
    refine gg_iload_n (pc := 9) hC dX7_rankOf_9 (i := 3) rfl 3 rfl ?_
    refine gg_aload_n (pc := 10) hC dX7_rankOf_10 (i := 0) rfl 0 rfl ?_
    refine gg_callVIr (pc := 11) hC dX7_rankOf_11 vX7_269 (fun _ h => mX7_ranked h) (Nat.le_of_ble_eq_true rfl) (Nat.le_of_ble_eq_true rfl) (As := []) (rest := [.int v3]) rfl rfl (Nat.le_of_ble_eq_true rfl) 0 7 pM_0 rfl (fun x1 => ?_)
    refine gg_icmp_gt (pc := 14) hC dX7_rankOf_14 (tgt := 82) rfl (fun _ => ?_) (fun _ => ?_)
    · exact gg_y (fun h => zW_lv [2] rfl h)
    · refine gg_iconst (pc := 17) hC dX7_rankOf_17 (x := 0) rfl ?_
      refine gg_istore (pc := 18) hC dX7_rankOf_18 (Nat.le_of_ble_eq_true rfl) (lv' := [(4, .int 0), (0, .ref (A 0)), (1, .int v1), (2, .int v2), (3, .int v3)]) rfl ?_
      refine gg_iconst (pc := 20) hC dX7_rankOf_20 (x := 1) rfl ?_
      refine gg_istore (pc := 21) hC dX7_rankOf_21 (Nat.le_of_ble_eq_true rfl) (lv' := [(5, .int 1), (4, .int 0), (0, .ref (A 0)), (1, .int v1), (2, .int v2), (3, .int v3)]) rfl ?_
      refine gg_join1 (E' := (fun q => zW C (wM A cA) 6 64 [(0, .ref (A 0)), (1, .int v1), (2, .int v2), (3, .int v3), (4, .int q)] [] σ)) (gg_lv [2, 3, 4, 5, 1, 0] rfl (lX7_rankOf_23 hC  500 _ _)) (fun x2 => ?_)
      show zG C (wM A cA) 6 _ _ 64 [(0, .ref (A 0)), (1, .int v1), (2, .int v2), (3, .int v3), (4, .int x2)] [] σ
      refine gg_iload (pc := 64) hC dX7_rankOf_64 4 rfl ?_
      refine gg_iload_n (pc := 66) hC dX7_rankOf_66 (i := 1) rfl 1 rfl ?_
      refine gg_join1 (E' := (fun q => zW C (wM A cA) 6 75 [(0, .ref (A 0)), (1, .int v1), (3, .int v3)] [.int q] σ)) ?_ (fun x3 => ?_)
      · refine gg_icmp_ne (pc := 67) hC dX7_rankOf_67 (tgt := 74) rfl (fun _ => ?_) (fun _ => ?_)
        · refine gg_iload_n (pc := 70) hC dX7_rankOf_70 (i := 3) rfl 3 rfl ?_
          refine gg_goto (pc := 71) hC dX7_rankOf_71 (tgt := 75) rfl ?_
          exact gg_y (fun h => zW_lv [0, 1, 3] rfl h)
        · refine gg_iload_n (pc := 74) hC dX7_rankOf_74 (i := 2) rfl 2 rfl ?_
          exact gg_y (fun h => zW_lv [0, 1, 3] rfl h)
      · show zG C (wM A cA) 6 _ _ 75 [(0, .ref (A 0)), (1, .int v1), (3, .int v3)] [.int x3] σ
        refine gg_istore_n (pc := 75) hC dX7_rankOf_75 (i := 2) rfl (Nat.le_of_ble_eq_true rfl) (lv' := [(2, .int x3), (0, .ref (A 0)), (1, .int v1), (3, .int v3)]) rfl ?_
        refine gg_iinc (pc := 76) hC dX7_rankOf_76 (y := 0) (j := 3) rfl (z := 1) rfl (Nat.le_of_ble_eq_true rfl) (lv' := [(3, .int (v3 + 1)), (2, .int x3), (0, .ref (A 0)), (1, .int v1)]) rfl ?_
        refine gg_goto (pc := 79) hC dX7_rankOf_79 (tgt := 9) rfl ?_
        exact gg_lv [2, 3, 1, 0] rfl (ih _ _)
set_option maxHeartbeats 4000000 in
set_option maxRecDepth 100000 in
theorem mX7_rankOf {l : Launch} {D : va_G} {A : Nat → Nat} {cA : Nat → ClassId} {v1 : Int32}  {σ : zS} {r : Int32 × zS} (h : fX7_rankOf v1 σ = some r) : zMI l D (wM A cA) yX7_rankOf (zws yX7_rankOf cX7_rankOf 6 (some .int)) 3 72 [.ref (A 0), .int v1] σ r := by
  refine zm_I (lv := [(0, .ref (A 0)), (1, .int v1)]) rfl sM_ok (Nat.le_of_ble_eq_true rfl) rfl (fun C _ _ hC hR => ?_) h
  unfold fX7_rankOf
  refine gg_aload_n (pc := 0) hC dX7_rankOf_0 (i := 0) rfl 0 rfl ?_
  refine gg_callVV (pc := 1) hC dX7_rankOf_1 vX7_178 (fun _ h => mX7_finds h) (Nat.le_of_ble_eq_true rfl) (Nat.le_of_ble_eq_true rfl) (As := []) (rest := []) rfl rfl (Nat.le_of_ble_eq_true rfl) 0 7 pM_0 rfl (fun s1 => ?_)
  refine gg_bipush (pc := 4) hC dX7_rankOf_4 (x := -2) rfl ?_
  refine gg_istore_n (pc := 6) hC dX7_rankOf_6 (i := 2) rfl (Nat.le_of_ble_eq_true rfl) (lv' := [(2, .int (-2 : Int32)), (0, .ref (A 0)), (1, .int v1)]) rfl ?_
  refine gg_iconst (pc := 7) hC dX7_rankOf_7 (x := 1) rfl ?_
  refine gg_istore_n (pc := 8) hC dX7_rankOf_8 (i := 3) rfl (Nat.le_of_ble_eq_true rfl) (lv' := [(3, .int 1), (2, .int (-2 : Int32)), (0, .ref (A 0)), (1, .int v1)]) rfl ?_
  refine gg_join1 (E' := (fun q => zW C (wM A cA) 6 82 [(2, .int q)] [] s1)) (gg_lv [2, 3, 1, 0] rfl (lX7_rankOf_9 hC  500 _ _)) (fun x2 => ?_)
  show zG C (wM A cA) 6 _ _ 82 [(2, .int x2)] [] s1
  refine gg_iload_n (pc := 82) hC dX7_rankOf_82 (i := 2) rfl 0 rfl ?_
  exact gg_iret (pc := 83) hR dX7_rankOf_83
def fX7_referenceOf (v1 : Int32) (σ : zS) : Option (Int64 × zS) :=
    zy1 (fX7_finds σ) (fun s1 =>
    if (zi s1 2) = 0 then (if 2 ≤ (zi s1 0) then (zy1 (fX7_partOf (zl s1 1) (zl s1 0) v1 s1) (fun x2 =>
    some (x2, s1))) else
    (zy1 (fX7_no (-3 : Int32) s1) (fun x3 =>
    some (x3, s1)))) else
    (zy1 (fX7_partOf (zl s1 1) (zl s1 0) v1 s1) (fun x4 =>
    some (x4, s1))))
set_option maxHeartbeats 4000000 in
set_option maxRecDepth 100000 in
theorem mX7_referenceOf {l : Launch} {D : va_G} {A : Nat → Nat} {cA : Nat → ClassId} {v1 : Int32}  {σ : zS} {r : Int64 × zS} (h : fX7_referenceOf v1 σ = some r) : zML l D (wM A cA) yX7_referenceOf (zws yX7_referenceOf cX7_referenceOf 2 (some .long)) 3 72 [.ref (A 0), .int v1] σ r := by
  refine zm_L (lv := [(0, .ref (A 0)), (1, .int v1)]) rfl sM_ok (Nat.le_of_ble_eq_true rfl) rfl (fun C _ _ hC hR => ?_) h
  unfold fX7_referenceOf
  refine gg_aload_n (pc := 0) hC dX7_referenceOf_0 (i := 0) rfl 0 rfl ?_
  refine gg_callVV (pc := 1) hC dX7_referenceOf_1 vX7_178 (fun _ h => mX7_finds h) (Nat.le_of_ble_eq_true rfl) (Nat.le_of_ble_eq_true rfl) (As := []) (rest := []) rfl rfl (Nat.le_of_ble_eq_true rfl) 0 7 pM_0 rfl (fun s1 => ?_)
  refine gg_aload_n (pc := 4) hC dX7_referenceOf_4 (i := 0) rfl 0 rfl ?_
  refine gg_get (pc := 5) hC dX7_referenceOf_5 fX7_153 0 pM_0 (v := .int (zi s1 2)) rfl ?_
  refine gg_if_ne (pc := 8) hC dX7_referenceOf_8 (tgt := 27) rfl (fun _ => ?_) (fun _ => ?_)
  · refine gg_aload_n (pc := 11) hC dX7_referenceOf_11 (i := 0) rfl 0 rfl ?_
    refine gg_get (pc := 12) hC dX7_referenceOf_12 fX7_81 0 pM_0 (v := .int (zi s1 0)) rfl ?_
    refine gg_iconst (pc := 15) hC dX7_referenceOf_15 (x := 2) rfl ?_
    refine gg_icmp_ge (pc := 16) hC dX7_referenceOf_16 (tgt := 27) rfl (fun _ => ?_) (fun _ => ?_)
    · refine gg_aload_n (pc := 27) hC dX7_referenceOf_27 (i := 0) rfl 0 rfl ?_
      refine gg_get (pc := 28) hC dX7_referenceOf_28 fX7_165 0 pM_0 (v := .long (zl s1 1)) rfl ?_
      refine gg_aload_n (pc := 31) hC dX7_referenceOf_31 (i := 0) rfl 0 rfl ?_
      refine gg_get (pc := 32) hC dX7_referenceOf_32 fX7_161 0 pM_0 (v := .long (zl s1 0)) rfl ?_
      refine gg_iload_n (pc := 35) hC dX7_referenceOf_35 (i := 1) rfl 1 rfl ?_
      refine gg_callSLr (pc := 36) hC dX7_referenceOf_36 cX7_132 (fun _ h => mX7_partOf h) (Nat.le_of_ble_eq_true rfl) (Nat.le_of_ble_eq_true rfl) (As := [.long (zl s1 1), .long (zl s1 0), .int v1]) (rest := []) rfl rfl (Nat.le_of_ble_eq_true rfl) (fun x2 => ?_)
      exact gg_lret (pc := 39) hR dX7_referenceOf_39
    · refine gg_bipush (pc := 19) hC dX7_referenceOf_19 (x := -3) rfl ?_
      refine gg_callSLr (pc := 21) hC dX7_referenceOf_21 cX7_126 (fun _ h => mX7_no h) (Nat.le_of_ble_eq_true rfl) (Nat.le_of_ble_eq_true rfl) (As := [.int (-3 : Int32)]) (rest := []) rfl rfl (Nat.le_of_ble_eq_true rfl) (fun x3 => ?_)
      refine gg_goto (pc := 24) hC dX7_referenceOf_24 (tgt := 39) rfl ?_
      exact gg_lret (pc := 39) hR dX7_referenceOf_39
  · refine gg_aload_n (pc := 27) hC dX7_referenceOf_27 (i := 0) rfl 0 rfl ?_
    refine gg_get (pc := 28) hC dX7_referenceOf_28 fX7_165 0 pM_0 (v := .long (zl s1 1)) rfl ?_
    refine gg_aload_n (pc := 31) hC dX7_referenceOf_31 (i := 0) rfl 0 rfl ?_
    refine gg_get (pc := 32) hC dX7_referenceOf_32 fX7_161 0 pM_0 (v := .long (zl s1 0)) rfl ?_
    refine gg_iload_n (pc := 35) hC dX7_referenceOf_35 (i := 1) rfl 1 rfl ?_
    refine gg_callSLr (pc := 36) hC dX7_referenceOf_36 cX7_132 (fun _ h => mX7_partOf h) (Nat.le_of_ble_eq_true rfl) (Nat.le_of_ble_eq_true rfl) (As := [.long (zl s1 1), .long (zl s1 0), .int v1]) (rest := []) rfl rfl (Nat.le_of_ble_eq_true rfl) (fun x4 => ?_)
    exact gg_lret (pc := 39) hR dX7_referenceOf_39
def fX7_varianceOf (v1 : Int32) (v2 : Int32) (σ : zS) : Option (Int64 × zS) :=
    zy1 (fX7_finds σ) (fun s1 =>
    if (zi s1 0) ≤ (2 * v1) then (zy1 (fX7_no (-3 : Int32) s1) (fun x2 =>
    some (x2, s1))) else
    (zy1 (fX7_squaresAt v1 s1) (fun x3 =>
    zy1 (fX7_weightAt v1 s1) (fun x4 =>
    zy1 (fX7_partOf x3 ((x4 * (zl s1 0)) * (zl s1 0)) v2 s1) (fun x5 =>
    some (x5, s1))))))
set_option maxHeartbeats 4000000 in
set_option maxRecDepth 100000 in
theorem mX7_varianceOf {l : Launch} {D : va_G} {A : Nat → Nat} {cA : Nat → ClassId} {v1 : Int32} {v2 : Int32}  {σ : zS} {r : Int64 × zS} (h : fX7_varianceOf v1 v2 σ = some r) : zML l D (wM A cA) yX7_varianceOf (zws yX7_varianceOf cX7_varianceOf 3 (some .long)) 3 72 [.ref (A 0), .int v1, .int v2] σ r := by
  refine zm_L (lv := [(0, .ref (A 0)), (1, .int v1), (2, .int v2)]) rfl sM_ok (Nat.le_of_ble_eq_true rfl) rfl (fun C _ _ hC hR => ?_) h
  unfold fX7_varianceOf
  refine gg_aload_n (pc := 0) hC dX7_varianceOf_0 (i := 0) rfl 0 rfl ?_
  refine gg_callVV (pc := 1) hC dX7_varianceOf_1 vX7_178 (fun _ h => mX7_finds h) (Nat.le_of_ble_eq_true rfl) (Nat.le_of_ble_eq_true rfl) (As := []) (rest := []) rfl rfl (Nat.le_of_ble_eq_true rfl) 0 7 pM_0 rfl (fun s1 => ?_)
  refine gg_aload_n (pc := 4) hC dX7_varianceOf_4 (i := 0) rfl 0 rfl ?_
  refine gg_get (pc := 5) hC dX7_varianceOf_5 fX7_81 0 pM_0 (v := .int (zi s1 0)) rfl ?_
  refine gg_iconst (pc := 8) hC dX7_varianceOf_8 (x := 2) rfl ?_
  refine gg_iload_n (pc := 9) hC dX7_varianceOf_9 (i := 1) rfl 1 rfl ?_
  refine gg_imul (pc := 10) hC dX7_varianceOf_10 ?_
  refine gg_icmp_le (pc := 11) hC dX7_varianceOf_11 (tgt := 41) rfl (fun _ => ?_) (fun _ => ?_)
  · refine gg_bipush (pc := 41) hC dX7_varianceOf_41 (x := -3) rfl ?_
    refine gg_callSLr (pc := 43) hC dX7_varianceOf_43 cX7_126 (fun _ h => mX7_no h) (Nat.le_of_ble_eq_true rfl) (Nat.le_of_ble_eq_true rfl) (As := [.int (-3 : Int32)]) (rest := []) rfl rfl (Nat.le_of_ble_eq_true rfl) (fun x2 => ?_)
    exact gg_lret (pc := 46) hR dX7_varianceOf_46
  · refine gg_aload_n (pc := 14) hC dX7_varianceOf_14 (i := 0) rfl 0 rfl ?_
    refine gg_iload_n (pc := 15) hC dX7_varianceOf_15 (i := 1) rfl 1 rfl ?_
    refine gg_callVLr (pc := 16) hC dX7_varianceOf_16 vX7_260 (fun _ h => mX7_squaresAt h) (Nat.le_of_ble_eq_true rfl) (Nat.le_of_ble_eq_true rfl) (As := [.int v1]) (rest := []) rfl rfl (Nat.le_of_ble_eq_true rfl) 0 7 pM_0 rfl (fun x3 => ?_)
    refine gg_aload_n (pc := 19) hC dX7_varianceOf_19 (i := 0) rfl 0 rfl ?_
    refine gg_iload_n (pc := 20) hC dX7_varianceOf_20 (i := 1) rfl 1 rfl ?_
    refine gg_callVLr (pc := 21) hC dX7_varianceOf_21 vX7_263 (fun _ h => mX7_weightAt h) (Nat.le_of_ble_eq_true rfl) (Nat.le_of_ble_eq_true rfl) (As := [.int v1]) (rest := [.long x3]) rfl rfl (Nat.le_of_ble_eq_true rfl) 0 7 pM_0 rfl (fun x4 => ?_)
    refine gg_aload_n (pc := 24) hC dX7_varianceOf_24 (i := 0) rfl 0 rfl ?_
    refine gg_get (pc := 25) hC dX7_varianceOf_25 fX7_161 0 pM_0 (v := .long (zl s1 0)) rfl ?_
    refine gg_lmul (pc := 28) hC dX7_varianceOf_28 ?_
    refine gg_aload_n (pc := 29) hC dX7_varianceOf_29 (i := 0) rfl 0 rfl ?_
    refine gg_get (pc := 30) hC dX7_varianceOf_30 fX7_161 0 pM_0 (v := .long (zl s1 0)) rfl ?_
    refine gg_lmul (pc := 33) hC dX7_varianceOf_33 ?_
    refine gg_iload_n (pc := 34) hC dX7_varianceOf_34 (i := 2) rfl 2 rfl ?_
    refine gg_callSLr (pc := 35) hC dX7_varianceOf_35 cX7_132 (fun _ h => mX7_partOf h) (Nat.le_of_ble_eq_true rfl) (Nat.le_of_ble_eq_true rfl) (As := [.long x3, .long ((x4 * (zl s1 0)) * (zl s1 0)), .int v2]) (rest := []) rfl rfl (Nat.le_of_ble_eq_true rfl) (fun x5 => ?_)
    refine gg_goto (pc := 38) hC dX7_varianceOf_38 (tgt := 46) rfl ?_
    exact gg_lret (pc := 46) hR dX7_varianceOf_46
def fX7_worstNow_13 (v1 : Int32) (σ : zS) : Nat → Int32 → Int32 → Int32 → Option (Int32)
  | 0, _, _, _ => none
  | n + 1, v2, v3, v4 =>
    zy1 (fX7_bins σ) (fun x1 =>
    if x1 ≤ v4 then (some v2) else
    (if v1 ≤ 0 then (some v2) else
    (zg (zq v4 12) (zy1 (fX7_widthOf v4 σ) (fun x2 =>
    zv ((60 * (za σ 2 v4.toNatClampNeg)) - (x2 * v1)) (fun (x3 : Int32) =>
    zy1 (if 0 ≤ x3 then (some x3) else
    (some (-x3))) (fun (x4 : Int32) =>
    zy1 (if x4 ≤ v3 then (some v2) else
    (some v4)) (fun (x5 : Int32) =>
    zy1 (if x4 ≤ v3 then (some v3) else
    (some x4)) (fun (x6 : Int32) =>
    fX7_worstNow_13 v1 σ n x5 x6 (v4 + 1))))))))))
def fX7_worstNow  (σ : zS) : Option (Int32) :=
    zy1 (fX7_allHits σ) (fun x1 =>
    zy1 (fX7_worstNow_13 x1 σ 500 (-3 : Int32) (-1 : Int32) 0) (fun (x2 : Int32) =>
    some x2))
set_option maxHeartbeats 4000000 in
set_option maxRecDepth 100000 in
theorem lX7_worstNow_13 {C : zK} {A : Nat → Nat} {cA : Nat → ClassId} (hC : zOK C (wM A cA) cX7_worstNow RX7 6 2 42) {v1 : Int32} {σ : zS} : ∀ (n : Nat) (v2 : Int32) (v3 : Int32) (v4 : Int32), zG C (wM A cA) 6 (fun q => zW C (wM A cA) 6 94 [(2, .int q)] [] σ) (fX7_worstNow_13 v1 σ n v2 v3 v4) 13 [(0, .ref (A 0)), (1, .int v1), (2, .int v2), (3, .int v3), (4, .int v4)] [] σ := by
  intro n
  induction n with
  | zero => intro v2 v3 v4; exact gg_none (o := none)
  | succ n ih =>
    intro v2 v3 v4
    rw [fX7_worstNow_13]
    refine gg_iload (pc := 13) hC dX7_worstNow_13 4 rfl ?_
    refine gg_aload_n (pc := 15) hC dX7_worstNow_15 (i := 0) rfl 0 rfl ?_
    refine gg_callVIr (pc := 16) hC dX7_worstNow_16 vX7_107 (fun _ h => mX7_bins h) (Nat.le_of_ble_eq_true rfl) (Nat.le_of_ble_eq_true rfl) (As := []) (rest := [.int v4]) rfl rfl (Nat.le_of_ble_eq_true rfl) 0 7 pM_0 rfl (fun x1 => ?_)
    refine gg_icmp_ge (pc := 19) hC dX7_worstNow_19 (tgt := 94) rfl (fun _ => ?_) (fun _ => ?_)
    · exact gg_y (fun h => zW_lv [2] rfl h)
    · refine gg_iload_n (pc := 22) hC dX7_worstNow_22 (i := 1) rfl 1 rfl ?_
      refine gg_if_le (pc := 23) hC dX7_worstNow_23 (tgt := 94) rfl (fun _ => ?_) (fun _ => ?_)
      · exact gg_y (fun h => zW_lv [2] rfl h)
      · refine gg_bipush (pc := 26) hC dX7_worstNow_26 (x := 60) rfl ?_
        refine gg_aload_n (pc := 28) hC dX7_worstNow_28 (i := 0) rfl 0 rfl ?_
        refine gg_get (pc := 29) hC dX7_worstNow_29 fX7_17 0 pM_0 (v := .ref (A 3)) rfl ?_
        refine gg_iload (pc := 32) hC dX7_worstNow_32 4 rfl ?_
        refine gg_iald (pc := 34) hC dX7_worstNow_34 3 0 pM_3 rfl ?_
        refine gg_imul (pc := 35) hC dX7_worstNow_35 ?_
        refine gg_aload_n (pc := 36) hC dX7_worstNow_36 (i := 0) rfl 0 rfl ?_
        refine gg_iload (pc := 37) hC dX7_worstNow_37 4 rfl ?_
        refine gg_callVIr (pc := 39) hC dX7_worstNow_39 vX7_116 (fun _ h => mX7_widthOf h) (Nat.le_of_ble_eq_true rfl) (Nat.le_of_ble_eq_true rfl) (As := [.int v4]) (rest := [.int (60 * (za σ 2 v4.toNatClampNeg))]) rfl rfl (Nat.le_of_ble_eq_true rfl) 0 7 pM_0 rfl (fun x2 => ?_)
        refine gg_iload_n (pc := 42) hC dX7_worstNow_42 (i := 1) rfl 1 rfl ?_
        refine gg_imul (pc := 43) hC dX7_worstNow_43 ?_
        refine gg_isub (pc := 44) hC dX7_worstNow_44 ?_
        refine gg_zvi (fun x3 => ?_)
        refine gg_istore (pc := 45) hC dX7_worstNow_45 (Nat.le_of_ble_eq_true rfl) (lv' := [(5, .int x3), (0, .ref (A 0)), (1, .int v1), (2, .int v2), (3, .int v3), (4, .int v4)]) rfl ?_
        refine gg_iload (pc := 47) hC dX7_worstNow_47 0 rfl ?_
        refine gg_join1 (E' := (fun q => zW C (wM A cA) 6 60 [(0, .ref (A 0)), (1, .int v1), (2, .int v2), (3, .int v3), (4, .int v4)] [.int q] σ)) ?_ (fun x4 => ?_)
        · refine gg_if_ge (pc := 49) hC dX7_worstNow_49 (tgt := 58) rfl (fun _ => ?_) (fun _ => ?_)
          · refine gg_iload (pc := 58) hC dX7_worstNow_58 0 rfl ?_
            exact gg_y (fun h => zW_lv [1, 2, 3, 4, 5] rfl h)
          · refine gg_iload (pc := 52) hC dX7_worstNow_52 0 rfl ?_
            refine gg_ineg (pc := 54) hC dX7_worstNow_54 ?_
            refine gg_goto (pc := 55) hC dX7_worstNow_55 (tgt := 60) rfl ?_
            exact gg_y (fun h => zW_lv [1, 2, 3, 4, 5] rfl h)
        · show zG C (wM A cA) 6 _ _ 60 [(0, .ref (A 0)), (1, .int v1), (2, .int v2), (3, .int v3), (4, .int v4)] [.int x4] σ
          refine gg_istore (pc := 60) hC dX7_worstNow_60 (Nat.le_of_ble_eq_true rfl) (lv' := [(5, .int x4), (0, .ref (A 0)), (1, .int v1), (2, .int v2), (3, .int v3), (4, .int v4)]) rfl ?_
          refine gg_iload (pc := 62) hC dX7_worstNow_62 0 rfl ?_
          refine gg_iload_n (pc := 64) hC dX7_worstNow_64 (i := 3) rfl 4 rfl ?_
          refine gg_join1 (E' := (fun q => zW C (wM A cA) 6 74 [(0, .ref (A 0)), (1, .int v1), (3, .int v3), (4, .int v4), (5, .int x4)] [.int q] σ)) ?_ (fun x5 => ?_)
          · refine gg_icmp_le (pc := 65) hC dX7_worstNow_65 (tgt := 73) rfl (fun _ => ?_) (fun _ => ?_)
            · refine gg_iload_n (pc := 73) hC dX7_worstNow_73 (i := 2) rfl 3 rfl ?_
              exact gg_y (fun h => zW_lv [1, 2, 4, 5, 0] rfl h)
            · refine gg_iload (pc := 68) hC dX7_worstNow_68 5 rfl ?_
              refine gg_goto (pc := 70) hC dX7_worstNow_70 (tgt := 74) rfl ?_
              exact gg_y (fun h => zW_lv [1, 2, 4, 5, 0] rfl h)
          · show zG C (wM A cA) 6 _ _ 74 [(0, .ref (A 0)), (1, .int v1), (3, .int v3), (4, .int v4), (5, .int x4)] [.int x5] σ
            refine gg_istore_n (pc := 74) hC dX7_worstNow_74 (i := 2) rfl (Nat.le_of_ble_eq_true rfl) (lv' := [(2, .int x5), (0, .ref (A 0)), (1, .int v1), (3, .int v3), (4, .int v4), (5, .int x4)]) rfl ?_
            refine gg_iload (pc := 75) hC dX7_worstNow_75 5 rfl ?_
            refine gg_iload_n (pc := 77) hC dX7_worstNow_77 (i := 3) rfl 3 rfl ?_
            refine gg_join1 (E' := (fun q => zW C (wM A cA) 6 87 [(0, .ref (A 0)), (1, .int v1), (2, .int x5), (4, .int v4)] [.int q] σ)) ?_ (fun x6 => ?_)
            · refine gg_icmp_le (pc := 78) hC dX7_worstNow_78 (tgt := 86) rfl (fun _ => ?_) (fun _ => ?_)
              · refine gg_iload_n (pc := 86) hC dX7_worstNow_86 (i := 3) rfl 3 rfl ?_
                exact gg_y (fun h => zW_lv [1, 2, 0, 4] rfl h)
              · refine gg_iload (pc := 81) hC dX7_worstNow_81 5 rfl ?_
                refine gg_goto (pc := 83) hC dX7_worstNow_83 (tgt := 87) rfl ?_
                exact gg_y (fun h => zW_lv [1, 2, 0, 4] rfl h)
            · show zG C (wM A cA) 6 _ _ 87 [(0, .ref (A 0)), (1, .int v1), (2, .int x5), (4, .int v4)] [.int x6] σ
              refine gg_istore_n (pc := 87) hC dX7_worstNow_87 (i := 3) rfl (Nat.le_of_ble_eq_true rfl) (lv' := [(3, .int x6), (0, .ref (A 0)), (1, .int v1), (2, .int x5), (4, .int v4)]) rfl ?_
              refine gg_iinc (pc := 88) hC dX7_worstNow_88 (y := 0) (j := 4) rfl (z := 1) rfl (Nat.le_of_ble_eq_true rfl) (lv' := [(4, .int (v4 + 1)), (3, .int x6), (0, .ref (A 0)), (1, .int v1), (2, .int x5)]) rfl ?_
              refine gg_goto (pc := 91) hC dX7_worstNow_91 (tgt := 13) rfl ?_
              exact gg_lv [2, 3, 4, 1, 0] rfl (ih _ _ _)
set_option maxHeartbeats 4000000 in
set_option maxRecDepth 100000 in
theorem mX7_worstNow {l : Launch} {D : va_G} {A : Nat → Nat} {cA : Nat → ClassId}   {σ : zS} {r : Int32} (h : fX7_worstNow  σ = some r) : zMI l D (wM A cA) yX7_worstNow (zws yX7_worstNow cX7_worstNow 6 (some .int)) 2 42 [.ref (A 0)] σ (r, σ) := by
  refine zm_Ir (lv := [(0, .ref (A 0))]) rfl sM_ok (Nat.le_of_ble_eq_true rfl) rfl (fun C _ _ hC hR => ?_) h
  unfold fX7_worstNow
  refine gg_aload_n (pc := 0) hC dX7_worstNow_0 (i := 0) rfl 0 rfl ?_
  refine gg_callVIr (pc := 1) hC dX7_worstNow_1 vX7_103 (fun _ h => mX7_allHits h) (Nat.le_of_ble_eq_true rfl) (Nat.le_of_ble_eq_true rfl) (As := []) (rest := []) rfl rfl (Nat.le_of_ble_eq_true rfl) 0 7 pM_0 rfl (fun x1 => ?_)
  refine gg_istore_n (pc := 4) hC dX7_worstNow_4 (i := 1) rfl (Nat.le_of_ble_eq_true rfl) (lv' := [(1, .int x1), (0, .ref (A 0))]) rfl ?_
  refine gg_bipush (pc := 5) hC dX7_worstNow_5 (x := -3) rfl ?_
  refine gg_istore_n (pc := 7) hC dX7_worstNow_7 (i := 2) rfl (Nat.le_of_ble_eq_true rfl) (lv' := [(2, .int (-3 : Int32)), (1, .int x1), (0, .ref (A 0))]) rfl ?_
  refine gg_iconst (pc := 8) hC dX7_worstNow_8 (x := -1) rfl ?_
  refine gg_istore_n (pc := 9) hC dX7_worstNow_9 (i := 3) rfl (Nat.le_of_ble_eq_true rfl) (lv' := [(3, .int (-1 : Int32)), (2, .int (-3 : Int32)), (1, .int x1), (0, .ref (A 0))]) rfl ?_
  refine gg_iconst (pc := 10) hC dX7_worstNow_10 (x := 0) rfl ?_
  refine gg_istore (pc := 11) hC dX7_worstNow_11 (Nat.le_of_ble_eq_true rfl) (lv' := [(4, .int 0), (3, .int (-1 : Int32)), (2, .int (-3 : Int32)), (1, .int x1), (0, .ref (A 0))]) rfl ?_
  refine gg_join1 (E' := (fun q => zW C (wM A cA) 6 94 [(2, .int q)] [] σ)) (gg_lv [4, 3, 2, 1, 0] rfl (lX7_worstNow_13 hC  500 _ _ _)) (fun x2 => ?_)
  show zG C (wM A cA) 6 _ _ 94 [(2, .int x2)] [] σ
  refine gg_iload_n (pc := 94) hC dX7_worstNow_94 (i := 2) rfl 0 rfl ?_
  exact gg_iretr (pc := 95) hR dX7_worstNow_95
def fX7_digest_6 : Nat → Int64 → Int32 → zS → Option (Int64 × zS)
  | 0, _, _, _ => none
  | n + 1, v1, v3, σ =>
    if 8 ≤ v3 then (some (v1, σ)) else
    (zy2 (fX7_count v3 σ) (fun x1 s2 =>
    zv (((31 : Int64) * v1) + (x1.toInt64)) (fun (x3 : Int64) =>
    fX7_digest_6  n x3 (v3 + 1) s2)))
def fX7_digest_45 (σ : zS) : Nat → Int64 → Int32 → Option (Int64)
  | 0, _, _ => none
  | n + 1, v1, v3 =>
    zy1 (fX7_bins σ) (fun x1 =>
    if x1 ≤ v3 then (some v1) else
    (zy1 (fX7_binDigest v1 v3 σ) (fun x2 =>
    fX7_digest_45 σ n x2 (v3 + 1))))
def fX7_digest_80 : Nat → Int64 → Int32 → zS → Option (Int64 × zS)
  | 0, _, _, _ => none
  | n + 1, v1, v3, σ =>
    if (zi σ 0) ≤ v3 then (some (v1, σ)) else
    (zy2 (fX7_edgeDigest v1 v3 σ) (fun x1 s2 =>
    fX7_digest_80  n x1 (v3 + 1) s2))
def fX7_digest_127 : Nat → Int64 → Int32 → zS → Option (Int64 × zS)
  | 0, _, _, _ => none
  | n + 1, v1, v3, σ =>
    if (zi σ 4) ≤ v3 then (some (v1, σ)) else
    (zy2 (fX7_gateDigest v1 v3 σ) (fun x1 s2 =>
    fX7_digest_127  n x1 (v3 + 1) s2))
def fX7_digest_156 : Nat → Int64 → Int32 → zS → Option (Int64 × zS)
  | 0, _, _, _ => none
  | n + 1, v1, v3, σ =>
    if 15 < v3 then (some (v1, σ)) else
    (zy2 (fX7_varianceOf v3 0 σ) (fun x1 s2 =>
    zv (((31 : Int64) * v1) + x1) (fun (x3 : Int64) =>
    zy2 (fX7_varianceOf v3 1 s2) (fun x4 s5 =>
    zv (((31 : Int64) * x3) + x4) (fun (x6 : Int64) =>
    fX7_digest_156  n x6 (v3 + 1) s5)))))
def fX7_digest_196 : Nat → Int64 → Int32 → zS → Option (Int64 × zS)
  | 0, _, _, _ => none
  | n + 1, v1, v3, σ =>
    zy1 (fX7_ranked σ) (fun x1 =>
    if x1 ≤ v3 then (some (v1, σ)) else
    (zy2 (fX7_rankOf v3 σ) (fun x2 s3 =>
    zv (((31 : Int64) * v1) + (x2.toInt64)) (fun (x4 : Int64) =>
    fX7_digest_196  n x4 (v3 + 1) s3))))
def fX7_digest  (σ : zS) : Option (Int64 × zS) :=
    zy2 (fX7_digest_6  500 (17 : Int64) 0 σ) (fun (x1 : Int64) (s2 : zS) =>
    zy1 (fX7_modeNow s2) (fun x3 =>
    zv (((31 : Int64) * x1) + (x3.toInt64)) (fun (x4 : Int64) =>
    zy1 (fX7_digest_45 s2 500 x4 0) (fun (x5 : Int64) =>
    zy1 (fX7_worstNow s2) (fun x6 =>
    zv (((31 : Int64) * x5) + (x6.toInt64)) (fun (x7 : Int64) =>
    zy2 (fX7_digest_80  500 x7 0 s2) (fun (x8 : Int64) (s9 : zS) =>
    zy2 (fX7_referenceOf 0 s9) (fun x10 s11 =>
    zv (((31 : Int64) * x8) + x10) (fun (x12 : Int64) =>
    zy2 (fX7_referenceOf 1 s11) (fun x13 s14 =>
    zv (((31 : Int64) * x12) + x13) (fun (x15 : Int64) =>
    zy2 (fX7_digest_127  500 x15 0 s14) (fun (x16 : Int64) (s17 : zS) =>
    zy2 (fX7_chainDigest x16 s17) (fun x18 s19 =>
    zy2 (fX7_digest_156  500 x18 1 s19) (fun (x20 : Int64) (s21 : zS) =>
    zy2 (fX7_digest_196  500 x20 0 s21) (fun (x22 : Int64) (s23 : zS) =>
    some (x22, s23))))))))))))))))
set_option maxHeartbeats 4000000 in
set_option maxRecDepth 100000 in
theorem lX7_digest_6 {C : zK} {A : Nat → Nat} {cA : Nat → ClassId} (hC : zOK C (wM A cA) cX7_digest RX7 4 6 154) : ∀ (n : Nat) (v1 : Int64) (v3 : Int32) (σ : zS), zG C (wM A cA) 4 (fun q => zW C (wM A cA) 4 31 [(0, .ref (A 0)), (1, .long q.1)] [] q.2) (fX7_digest_6  n v1 v3 σ) 6 [(0, .ref (A 0)), (1, .long v1), (3, .int v3)] [] σ := by
  intro n
  induction n with
  | zero => intro v1 v3 σ; exact gg_none (o := none)
  | succ n ih =>
    intro v1 v3 σ
    rw [fX7_digest_6]
    refine gg_iload_n (pc := 6) hC dX7_digest_6 (i := 3) rfl 2 rfl ?_
    refine gg_bipush (pc := 7) hC dX7_digest_7 (x := 8) rfl ?_
    refine gg_icmp_ge (pc := 9) hC dX7_digest_9 (tgt := 31) rfl (fun _ => ?_) (fun _ => ?_)
    · exact gg_y (fun h => zW_lv [0, 1] rfl h)
    · refine gg_ldc2 (pc := 12) hC dX7_digest_12 qX7_311 ?_
      refine gg_lload_n (pc := 15) hC dX7_digest_15 (i := 1) rfl 1 rfl ?_
      refine gg_lmul (pc := 16) hC dX7_digest_16 ?_
      refine gg_aload_n (pc := 17) hC dX7_digest_17 (i := 0) rfl 0 rfl ?_
      refine gg_iload_n (pc := 18) hC dX7_digest_18 (i := 3) rfl 2 rfl ?_
      refine gg_callVI (pc := 19) hC dX7_digest_19 vX7_315 (fun _ h => mX7_count h) (Nat.le_of_ble_eq_true rfl) (Nat.le_of_ble_eq_true rfl) (As := [.int v3]) (rest := [.long ((31 : Int64) * v1)]) rfl rfl (Nat.le_of_ble_eq_true rfl) 0 7 pM_0 rfl (fun x1 s2 => ?_)
      refine gg_i2l (pc := 22) hC dX7_digest_22 ?_
      refine gg_ladd (pc := 23) hC dX7_digest_23 ?_
      refine gg_zvl (fun x3 => ?_)
      refine gg_lstore_n (pc := 24) hC dX7_digest_24 (i := 1) rfl (Nat.le_of_ble_eq_true rfl) (lv' := [(1, .long x3), (0, .ref (A 0)), (3, .int v3)]) rfl ?_
      refine gg_iinc (pc := 25) hC dX7_digest_25 (y := 0) (j := 2) rfl (z := 1) rfl (Nat.le_of_ble_eq_true rfl) (lv' := [(3, .int (v3 + 1)), (1, .long x3), (0, .ref (A 0))]) rfl ?_
      refine gg_goto (pc := 28) hC dX7_digest_28 (tgt := 6) rfl ?_
      exact gg_lv [2, 1, 0] rfl (ih _ _ _)
set_option maxHeartbeats 4000000 in
set_option maxRecDepth 100000 in
theorem lX7_digest_45 {C : zK} {A : Nat → Nat} {cA : Nat → ClassId} (hC : zOK C (wM A cA) cX7_digest RX7 4 6 154) {σ : zS} : ∀ (n : Nat) (v1 : Int64) (v3 : Int32), zG C (wM A cA) 4 (fun q => zW C (wM A cA) 4 66 [(0, .ref (A 0)), (1, .long q)] [] σ) (fX7_digest_45 σ n v1 v3) 45 [(0, .ref (A 0)), (1, .long v1), (3, .int v3)] [] σ := by
  intro n
  induction n with
  | zero => intro v1 v3; exact gg_none (o := none)
  | succ n ih =>
    intro v1 v3
    rw [fX7_digest_45]
    refine gg_iload_n (pc := 45) hC dX7_digest_45 (i := 3) rfl 2 rfl ?_
    refine gg_aload_n (pc := 46) hC dX7_digest_46 (i := 0) rfl 0 rfl ?_
    refine gg_callVIr (pc := 47) hC dX7_digest_47 vX7_107 (fun _ h => mX7_bins h) (Nat.le_of_ble_eq_true rfl) (Nat.le_of_ble_eq_true rfl) (As := []) (rest := [.int v3]) rfl rfl (Nat.le_of_ble_eq_true rfl) 0 7 pM_0 rfl (fun x1 => ?_)
    refine gg_icmp_ge (pc := 50) hC dX7_digest_50 (tgt := 66) rfl (fun _ => ?_) (fun _ => ?_)
    · exact gg_y (fun h => zW_lv [0, 1] rfl h)
    · refine gg_aload_n (pc := 53) hC dX7_digest_53 (i := 0) rfl 0 rfl ?_
      refine gg_lload_n (pc := 54) hC dX7_digest_54 (i := 1) rfl 1 rfl ?_
      refine gg_iload_n (pc := 55) hC dX7_digest_55 (i := 3) rfl 2 rfl ?_
      refine gg_callVLr (pc := 56) hC dX7_digest_56 vX7_318 (fun _ h => mX7_binDigest h) (Nat.le_of_ble_eq_true rfl) (Nat.le_of_ble_eq_true rfl) (As := [.long v1, .int v3]) (rest := []) rfl rfl (Nat.le_of_ble_eq_true rfl) 0 7 pM_0 rfl (fun x2 => ?_)
      refine gg_lstore_n (pc := 59) hC dX7_digest_59 (i := 1) rfl (Nat.le_of_ble_eq_true rfl) (lv' := [(1, .long x2), (0, .ref (A 0)), (3, .int v3)]) rfl ?_
      refine gg_iinc (pc := 60) hC dX7_digest_60 (y := 0) (j := 2) rfl (z := 1) rfl (Nat.le_of_ble_eq_true rfl) (lv' := [(3, .int (v3 + 1)), (1, .long x2), (0, .ref (A 0))]) rfl ?_
      refine gg_goto (pc := 63) hC dX7_digest_63 (tgt := 45) rfl ?_
      exact gg_lv [2, 1, 0] rfl (ih _ _)
set_option maxHeartbeats 4000000 in
set_option maxRecDepth 100000 in
theorem lX7_digest_80 {C : zK} {A : Nat → Nat} {cA : Nat → ClassId} (hC : zOK C (wM A cA) cX7_digest RX7 4 6 154) : ∀ (n : Nat) (v1 : Int64) (v3 : Int32) (σ : zS), zG C (wM A cA) 4 (fun q => zW C (wM A cA) 4 101 [(0, .ref (A 0)), (1, .long q.1)] [] q.2) (fX7_digest_80  n v1 v3 σ) 80 [(0, .ref (A 0)), (1, .long v1), (3, .int v3)] [] σ := by
  intro n
  induction n with
  | zero => intro v1 v3 σ; exact gg_none (o := none)
  | succ n ih =>
    intro v1 v3 σ
    rw [fX7_digest_80]
    refine gg_iload_n (pc := 80) hC dX7_digest_80 (i := 3) rfl 2 rfl ?_
    refine gg_aload_n (pc := 81) hC dX7_digest_81 (i := 0) rfl 0 rfl ?_
    refine gg_get (pc := 82) hC dX7_digest_82 fX7_81 0 pM_0 (v := .int (zi σ 0)) rfl ?_
    refine gg_icmp_ge (pc := 85) hC dX7_digest_85 (tgt := 101) rfl (fun _ => ?_) (fun _ => ?_)
    · exact gg_y (fun h => zW_lv [0, 1] rfl h)
    · refine gg_aload_n (pc := 88) hC dX7_digest_88 (i := 0) rfl 0 rfl ?_
      refine gg_lload_n (pc := 89) hC dX7_digest_89 (i := 1) rfl 1 rfl ?_
      refine gg_iload_n (pc := 90) hC dX7_digest_90 (i := 3) rfl 2 rfl ?_
      refine gg_callVL (pc := 91) hC dX7_digest_91 vX7_322 (fun _ h => mX7_edgeDigest h) (Nat.le_of_ble_eq_true rfl) (Nat.le_of_ble_eq_true rfl) (As := [.long v1, .int v3]) (rest := []) rfl rfl (Nat.le_of_ble_eq_true rfl) 0 7 pM_0 rfl (fun x1 s2 => ?_)
      refine gg_lstore_n (pc := 94) hC dX7_digest_94 (i := 1) rfl (Nat.le_of_ble_eq_true rfl) (lv' := [(1, .long x1), (0, .ref (A 0)), (3, .int v3)]) rfl ?_
      refine gg_iinc (pc := 95) hC dX7_digest_95 (y := 0) (j := 2) rfl (z := 1) rfl (Nat.le_of_ble_eq_true rfl) (lv' := [(3, .int (v3 + 1)), (1, .long x1), (0, .ref (A 0))]) rfl ?_
      refine gg_goto (pc := 98) hC dX7_digest_98 (tgt := 80) rfl ?_
      exact gg_lv [2, 1, 0] rfl (ih _ _ _)
set_option maxHeartbeats 4000000 in
set_option maxRecDepth 100000 in
theorem lX7_digest_127 {C : zK} {A : Nat → Nat} {cA : Nat → ClassId} (hC : zOK C (wM A cA) cX7_digest RX7 4 6 154) : ∀ (n : Nat) (v1 : Int64) (v3 : Int32) (σ : zS), zG C (wM A cA) 4 (fun q => zW C (wM A cA) 4 148 [(0, .ref (A 0)), (1, .long q.1)] [] q.2) (fX7_digest_127  n v1 v3 σ) 127 [(0, .ref (A 0)), (1, .long v1), (3, .int v3)] [] σ := by
  intro n
  induction n with
  | zero => intro v1 v3 σ; exact gg_none (o := none)
  | succ n ih =>
    intro v1 v3 σ
    rw [fX7_digest_127]
    refine gg_iload_n (pc := 127) hC dX7_digest_127 (i := 3) rfl 2 rfl ?_
    refine gg_aload_n (pc := 128) hC dX7_digest_128 (i := 0) rfl 0 rfl ?_
    refine gg_get (pc := 129) hC dX7_digest_129 fX7_194 0 pM_0 (v := .int (zi σ 4)) rfl ?_
    refine gg_icmp_ge (pc := 132) hC dX7_digest_132 (tgt := 148) rfl (fun _ => ?_) (fun _ => ?_)
    · exact gg_y (fun h => zW_lv [0, 1] rfl h)
    · refine gg_aload_n (pc := 135) hC dX7_digest_135 (i := 0) rfl 0 rfl ?_
      refine gg_lload_n (pc := 136) hC dX7_digest_136 (i := 1) rfl 1 rfl ?_
      refine gg_iload_n (pc := 137) hC dX7_digest_137 (i := 3) rfl 2 rfl ?_
      refine gg_callVL (pc := 138) hC dX7_digest_138 vX7_325 (fun _ h => mX7_gateDigest h) (Nat.le_of_ble_eq_true rfl) (Nat.le_of_ble_eq_true rfl) (As := [.long v1, .int v3]) (rest := []) rfl rfl (Nat.le_of_ble_eq_true rfl) 0 7 pM_0 rfl (fun x1 s2 => ?_)
      refine gg_lstore_n (pc := 141) hC dX7_digest_141 (i := 1) rfl (Nat.le_of_ble_eq_true rfl) (lv' := [(1, .long x1), (0, .ref (A 0)), (3, .int v3)]) rfl ?_
      refine gg_iinc (pc := 142) hC dX7_digest_142 (y := 0) (j := 2) rfl (z := 1) rfl (Nat.le_of_ble_eq_true rfl) (lv' := [(3, .int (v3 + 1)), (1, .long x1), (0, .ref (A 0))]) rfl ?_
      refine gg_goto (pc := 145) hC dX7_digest_145 (tgt := 127) rfl ?_
      exact gg_lv [2, 1, 0] rfl (ih _ _ _)
set_option maxHeartbeats 4000000 in
set_option maxRecDepth 100000 in
theorem lX7_digest_156 {C : zK} {A : Nat → Nat} {cA : Nat → ClassId} (hC : zOK C (wM A cA) cX7_digest RX7 4 6 154) : ∀ (n : Nat) (v1 : Int64) (v3 : Int32) (σ : zS), zG C (wM A cA) 4 (fun q => zW C (wM A cA) 4 194 [(0, .ref (A 0)), (1, .long q.1)] [] q.2) (fX7_digest_156  n v1 v3 σ) 156 [(0, .ref (A 0)), (1, .long v1), (3, .int v3)] [] σ := by
  intro n
  induction n with
  | zero => intro v1 v3 σ; exact gg_none (o := none)
  | succ n ih =>
    intro v1 v3 σ
    rw [fX7_digest_156]
    refine gg_iload_n (pc := 156) hC dX7_digest_156 (i := 3) rfl 2 rfl ?_
    refine gg_bipush (pc := 157) hC dX7_digest_157 (x := 15) rfl ?_
    refine gg_icmp_gt (pc := 159) hC dX7_digest_159 (tgt := 194) rfl (fun _ => ?_) (fun _ => ?_)
    · exact gg_y (fun h => zW_lv [0, 1] rfl h)
    · refine gg_ldc2 (pc := 162) hC dX7_digest_162 qX7_311 ?_
      refine gg_lload_n (pc := 165) hC dX7_digest_165 (i := 1) rfl 1 rfl ?_
      refine gg_lmul (pc := 166) hC dX7_digest_166 ?_
      refine gg_aload_n (pc := 167) hC dX7_digest_167 (i := 0) rfl 0 rfl ?_
      refine gg_iload_n (pc := 168) hC dX7_digest_168 (i := 3) rfl 2 rfl ?_
      refine gg_iconst (pc := 169) hC dX7_digest_169 (x := 0) rfl ?_
      refine gg_callVL (pc := 170) hC dX7_digest_170 vX7_266 (fun _ h => mX7_varianceOf h) (Nat.le_of_ble_eq_true rfl) (Nat.le_of_ble_eq_true rfl) (As := [.int v3, .int 0]) (rest := [.long ((31 : Int64) * v1)]) rfl rfl (Nat.le_of_ble_eq_true rfl) 0 7 pM_0 rfl (fun x1 s2 => ?_)
      refine gg_ladd (pc := 173) hC dX7_digest_173 ?_
      refine gg_zvl (fun x3 => ?_)
      refine gg_lstore_n (pc := 174) hC dX7_digest_174 (i := 1) rfl (Nat.le_of_ble_eq_true rfl) (lv' := [(1, .long x3), (0, .ref (A 0)), (3, .int v3)]) rfl ?_
      refine gg_ldc2 (pc := 175) hC dX7_digest_175 qX7_311 ?_
      refine gg_lload_n (pc := 178) hC dX7_digest_178 (i := 1) rfl 0 rfl ?_
      refine gg_lmul (pc := 179) hC dX7_digest_179 ?_
      refine gg_aload_n (pc := 180) hC dX7_digest_180 (i := 0) rfl 1 rfl ?_
      refine gg_iload_n (pc := 181) hC dX7_digest_181 (i := 3) rfl 2 rfl ?_
      refine gg_iconst (pc := 182) hC dX7_digest_182 (x := 1) rfl ?_
      refine gg_callVL (pc := 183) hC dX7_digest_183 vX7_266 (fun _ h => mX7_varianceOf h) (Nat.le_of_ble_eq_true rfl) (Nat.le_of_ble_eq_true rfl) (As := [.int v3, .int 1]) (rest := [.long ((31 : Int64) * x3)]) rfl rfl (Nat.le_of_ble_eq_true rfl) 0 7 pM_0 rfl (fun x4 s5 => ?_)
      refine gg_ladd (pc := 186) hC dX7_digest_186 ?_
      refine gg_zvl (fun x6 => ?_)
      refine gg_lstore_n (pc := 187) hC dX7_digest_187 (i := 1) rfl (Nat.le_of_ble_eq_true rfl) (lv' := [(1, .long x6), (0, .ref (A 0)), (3, .int v3)]) rfl ?_
      refine gg_iinc (pc := 188) hC dX7_digest_188 (y := 0) (j := 2) rfl (z := 1) rfl (Nat.le_of_ble_eq_true rfl) (lv' := [(3, .int (v3 + 1)), (1, .long x6), (0, .ref (A 0))]) rfl ?_
      refine gg_goto (pc := 191) hC dX7_digest_191 (tgt := 156) rfl ?_
      exact gg_lv [2, 1, 0] rfl (ih _ _ _)
set_option maxHeartbeats 4000000 in
set_option maxRecDepth 100000 in
theorem lX7_digest_196 {C : zK} {A : Nat → Nat} {cA : Nat → ClassId} (hC : zOK C (wM A cA) cX7_digest RX7 4 6 154) : ∀ (n : Nat) (v1 : Int64) (v3 : Int32) (σ : zS), zG C (wM A cA) 4 (fun q => zW C (wM A cA) 4 223 [(1, .long q.1)] [] q.2) (fX7_digest_196  n v1 v3 σ) 196 [(0, .ref (A 0)), (1, .long v1), (3, .int v3)] [] σ := by
  intro n
  induction n with
  | zero => intro v1 v3 σ; exact gg_none (o := none)
  | succ n ih =>
    intro v1 v3 σ
    rw [fX7_digest_196]
    refine gg_iload_n (pc := 196) hC dX7_digest_196 (i := 3) rfl 2 rfl ?_
    refine gg_aload_n (pc := 197) hC dX7_digest_197 (i := 0) rfl 0 rfl ?_
    refine gg_callVIr (pc := 198) hC dX7_digest_198 vX7_269 (fun _ h => mX7_ranked h) (Nat.le_of_ble_eq_true rfl) (Nat.le_of_ble_eq_true rfl) (As := []) (rest := [.int v3]) rfl rfl (Nat.le_of_ble_eq_true rfl) 0 7 pM_0 rfl (fun x1 => ?_)
    refine gg_icmp_ge (pc := 201) hC dX7_digest_201 (tgt := 223) rfl (fun _ => ?_) (fun _ => ?_)
    · exact gg_y (fun h => zW_lv [1] rfl h)
    · refine gg_ldc2 (pc := 204) hC dX7_digest_204 qX7_311 ?_
      refine gg_lload_n (pc := 207) hC dX7_digest_207 (i := 1) rfl 1 rfl ?_
      refine gg_lmul (pc := 208) hC dX7_digest_208 ?_
      refine gg_aload_n (pc := 209) hC dX7_digest_209 (i := 0) rfl 0 rfl ?_
      refine gg_iload_n (pc := 210) hC dX7_digest_210 (i := 3) rfl 2 rfl ?_
      refine gg_callVI (pc := 211) hC dX7_digest_211 vX7_275 (fun _ h => mX7_rankOf h) (Nat.le_of_ble_eq_true rfl) (Nat.le_of_ble_eq_true rfl) (As := [.int v3]) (rest := [.long ((31 : Int64) * v1)]) rfl rfl (Nat.le_of_ble_eq_true rfl) 0 7 pM_0 rfl (fun x2 s3 => ?_)
      refine gg_i2l (pc := 214) hC dX7_digest_214 ?_
      refine gg_ladd (pc := 215) hC dX7_digest_215 ?_
      refine gg_zvl (fun x4 => ?_)
      refine gg_lstore_n (pc := 216) hC dX7_digest_216 (i := 1) rfl (Nat.le_of_ble_eq_true rfl) (lv' := [(1, .long x4), (0, .ref (A 0)), (3, .int v3)]) rfl ?_
      refine gg_iinc (pc := 217) hC dX7_digest_217 (y := 0) (j := 2) rfl (z := 1) rfl (Nat.le_of_ble_eq_true rfl) (lv' := [(3, .int (v3 + 1)), (1, .long x4), (0, .ref (A 0))]) rfl ?_
      refine gg_goto (pc := 220) hC dX7_digest_220 (tgt := 196) rfl ?_
      exact gg_lv [2, 1, 0] rfl (ih _ _ _)
set_option maxHeartbeats 4000000 in
set_option maxRecDepth 100000 in
theorem mX7_digest {l : Launch} {D : va_G} {A : Nat → Nat} {cA : Nat → ClassId}   {σ : zS} {r : Int64 × zS} (h : fX7_digest  σ = some r) : zML l D (wM A cA) yX7_digest (zws yX7_digest cX7_digest 4 (some .long)) 6 154 [.ref (A 0)] σ r := by
  refine zm_L (lv := [(0, .ref (A 0))]) rfl sM_ok (Nat.le_of_ble_eq_true rfl) rfl (fun C _ _ hC hR => ?_) h
  unfold fX7_digest
  refine gg_ldc2 (pc := 0) hC dX7_digest_0 qX7_313 ?_
  refine gg_lstore_n (pc := 3) hC dX7_digest_3 (i := 1) rfl (Nat.le_of_ble_eq_true rfl) (lv' := [(1, .long (17 : Int64)), (0, .ref (A 0))]) rfl ?_
  refine gg_iconst (pc := 4) hC dX7_digest_4 (x := 0) rfl ?_
  refine gg_istore_n (pc := 5) hC dX7_digest_5 (i := 3) rfl (Nat.le_of_ble_eq_true rfl) (lv' := [(3, .int 0), (1, .long (17 : Int64)), (0, .ref (A 0))]) rfl ?_
  refine gg_join2 (E' := (fun q => zW C (wM A cA) 4 31 [(0, .ref (A 0)), (1, .long q.1)] [] q.2)) (gg_lv [2, 1, 0] rfl (lX7_digest_6 hC  500 _ _ _)) (fun x1 s2 => ?_)
  show zG C (wM A cA) 4 _ _ 31 [(0, .ref (A 0)), (1, .long x1)] [] s2
  refine gg_ldc2 (pc := 31) hC dX7_digest_31 qX7_311 ?_
  refine gg_lload_n (pc := 34) hC dX7_digest_34 (i := 1) rfl 1 rfl ?_
  refine gg_lmul (pc := 35) hC dX7_digest_35 ?_
  refine gg_aload_n (pc := 36) hC dX7_digest_36 (i := 0) rfl 0 rfl ?_
  refine gg_callVIr (pc := 37) hC dX7_digest_37 vX7_150 (fun _ h => mX7_modeNow h) (Nat.le_of_ble_eq_true rfl) (Nat.le_of_ble_eq_true rfl) (As := []) (rest := [.long ((31 : Int64) * x1)]) rfl rfl (Nat.le_of_ble_eq_true rfl) 0 7 pM_0 rfl (fun x3 => ?_)
  refine gg_i2l (pc := 40) hC dX7_digest_40 ?_
  refine gg_ladd (pc := 41) hC dX7_digest_41 ?_
  refine gg_zvl (fun x4 => ?_)
  refine gg_lstore_n (pc := 42) hC dX7_digest_42 (i := 1) rfl (Nat.le_of_ble_eq_true rfl) (lv' := [(1, .long x4), (0, .ref (A 0))]) rfl ?_
  refine gg_iconst (pc := 43) hC dX7_digest_43 (x := 0) rfl ?_
  refine gg_istore_n (pc := 44) hC dX7_digest_44 (i := 3) rfl (Nat.le_of_ble_eq_true rfl) (lv' := [(3, .int 0), (1, .long x4), (0, .ref (A 0))]) rfl ?_
  refine gg_join1 (E' := (fun q => zW C (wM A cA) 4 66 [(0, .ref (A 0)), (1, .long q)] [] s2)) (gg_lv [2, 1, 0] rfl (lX7_digest_45 hC  500 _ _)) (fun x5 => ?_)
  show zG C (wM A cA) 4 _ _ 66 [(0, .ref (A 0)), (1, .long x5)] [] s2
  refine gg_ldc2 (pc := 66) hC dX7_digest_66 qX7_311 ?_
  refine gg_lload_n (pc := 69) hC dX7_digest_69 (i := 1) rfl 1 rfl ?_
  refine gg_lmul (pc := 70) hC dX7_digest_70 ?_
  refine gg_aload_n (pc := 71) hC dX7_digest_71 (i := 0) rfl 0 rfl ?_
  refine gg_callVIr (pc := 72) hC dX7_digest_72 vX7_140 (fun _ h => mX7_worstNow h) (Nat.le_of_ble_eq_true rfl) (Nat.le_of_ble_eq_true rfl) (As := []) (rest := [.long ((31 : Int64) * x5)]) rfl rfl (Nat.le_of_ble_eq_true rfl) 0 7 pM_0 rfl (fun x6 => ?_)
  refine gg_i2l (pc := 75) hC dX7_digest_75 ?_
  refine gg_ladd (pc := 76) hC dX7_digest_76 ?_
  refine gg_zvl (fun x7 => ?_)
  refine gg_lstore_n (pc := 77) hC dX7_digest_77 (i := 1) rfl (Nat.le_of_ble_eq_true rfl) (lv' := [(1, .long x7), (0, .ref (A 0))]) rfl ?_
  refine gg_iconst (pc := 78) hC dX7_digest_78 (x := 0) rfl ?_
  refine gg_istore_n (pc := 79) hC dX7_digest_79 (i := 3) rfl (Nat.le_of_ble_eq_true rfl) (lv' := [(3, .int 0), (1, .long x7), (0, .ref (A 0))]) rfl ?_
  refine gg_join2 (E' := (fun q => zW C (wM A cA) 4 101 [(0, .ref (A 0)), (1, .long q.1)] [] q.2)) (gg_lv [2, 1, 0] rfl (lX7_digest_80 hC  500 _ _ _)) (fun x8 s9 => ?_)
  show zG C (wM A cA) 4 _ _ 101 [(0, .ref (A 0)), (1, .long x8)] [] s9
  refine gg_ldc2 (pc := 101) hC dX7_digest_101 qX7_311 ?_
  refine gg_lload_n (pc := 104) hC dX7_digest_104 (i := 1) rfl 1 rfl ?_
  refine gg_lmul (pc := 105) hC dX7_digest_105 ?_
  refine gg_aload_n (pc := 106) hC dX7_digest_106 (i := 0) rfl 0 rfl ?_
  refine gg_iconst (pc := 107) hC dX7_digest_107 (x := 0) rfl ?_
  refine gg_callVL (pc := 108) hC dX7_digest_108 vX7_191 (fun _ h => mX7_referenceOf h) (Nat.le_of_ble_eq_true rfl) (Nat.le_of_ble_eq_true rfl) (As := [.int 0]) (rest := [.long ((31 : Int64) * x8)]) rfl rfl (Nat.le_of_ble_eq_true rfl) 0 7 pM_0 rfl (fun x10 s11 => ?_)
  refine gg_ladd (pc := 111) hC dX7_digest_111 ?_
  refine gg_zvl (fun x12 => ?_)
  refine gg_lstore_n (pc := 112) hC dX7_digest_112 (i := 1) rfl (Nat.le_of_ble_eq_true rfl) (lv' := [(1, .long x12), (0, .ref (A 0))]) rfl ?_
  refine gg_ldc2 (pc := 113) hC dX7_digest_113 qX7_311 ?_
  refine gg_lload_n (pc := 116) hC dX7_digest_116 (i := 1) rfl 0 rfl ?_
  refine gg_lmul (pc := 117) hC dX7_digest_117 ?_
  refine gg_aload_n (pc := 118) hC dX7_digest_118 (i := 0) rfl 1 rfl ?_
  refine gg_iconst (pc := 119) hC dX7_digest_119 (x := 1) rfl ?_
  refine gg_callVL (pc := 120) hC dX7_digest_120 vX7_191 (fun _ h => mX7_referenceOf h) (Nat.le_of_ble_eq_true rfl) (Nat.le_of_ble_eq_true rfl) (As := [.int 1]) (rest := [.long ((31 : Int64) * x12)]) rfl rfl (Nat.le_of_ble_eq_true rfl) 0 7 pM_0 rfl (fun x13 s14 => ?_)
  refine gg_ladd (pc := 123) hC dX7_digest_123 ?_
  refine gg_zvl (fun x15 => ?_)
  refine gg_lstore_n (pc := 124) hC dX7_digest_124 (i := 1) rfl (Nat.le_of_ble_eq_true rfl) (lv' := [(1, .long x15), (0, .ref (A 0))]) rfl ?_
  refine gg_iconst (pc := 125) hC dX7_digest_125 (x := 0) rfl ?_
  refine gg_istore_n (pc := 126) hC dX7_digest_126 (i := 3) rfl (Nat.le_of_ble_eq_true rfl) (lv' := [(3, .int 0), (1, .long x15), (0, .ref (A 0))]) rfl ?_
  refine gg_join2 (E' := (fun q => zW C (wM A cA) 4 148 [(0, .ref (A 0)), (1, .long q.1)] [] q.2)) (gg_lv [2, 1, 0] rfl (lX7_digest_127 hC  500 _ _ _)) (fun x16 s17 => ?_)
  show zG C (wM A cA) 4 _ _ 148 [(0, .ref (A 0)), (1, .long x16)] [] s17
  refine gg_aload_n (pc := 148) hC dX7_digest_148 (i := 0) rfl 0 rfl ?_
  refine gg_lload_n (pc := 149) hC dX7_digest_149 (i := 1) rfl 1 rfl ?_
  refine gg_callVL (pc := 150) hC dX7_digest_150 vX7_328 (fun _ h => mX7_chainDigest h) (Nat.le_of_ble_eq_true rfl) (Nat.le_of_ble_eq_true rfl) (As := [.long x16]) (rest := []) rfl rfl (Nat.le_of_ble_eq_true rfl) 0 7 pM_0 rfl (fun x18 s19 => ?_)
  refine gg_lstore_n (pc := 153) hC dX7_digest_153 (i := 1) rfl (Nat.le_of_ble_eq_true rfl) (lv' := [(1, .long x18), (0, .ref (A 0))]) rfl ?_
  refine gg_iconst (pc := 154) hC dX7_digest_154 (x := 1) rfl ?_
  refine gg_istore_n (pc := 155) hC dX7_digest_155 (i := 3) rfl (Nat.le_of_ble_eq_true rfl) (lv' := [(3, .int 1), (1, .long x18), (0, .ref (A 0))]) rfl ?_
  refine gg_join2 (E' := (fun q => zW C (wM A cA) 4 194 [(0, .ref (A 0)), (1, .long q.1)] [] q.2)) (gg_lv [2, 1, 0] rfl (lX7_digest_156 hC  500 _ _ _)) (fun x20 s21 => ?_)
  show zG C (wM A cA) 4 _ _ 194 [(0, .ref (A 0)), (1, .long x20)] [] s21
  refine gg_iconst (pc := 194) hC dX7_digest_194 (x := 0) rfl ?_
  refine gg_istore_n (pc := 195) hC dX7_digest_195 (i := 3) rfl (Nat.le_of_ble_eq_true rfl) (lv' := [(3, .int 0), (0, .ref (A 0)), (1, .long x20)]) rfl ?_
  refine gg_join2 (E' := (fun q => zW C (wM A cA) 4 223 [(1, .long q.1)] [] q.2)) (gg_lv [1, 2, 0] rfl (lX7_digest_196 hC  500 _ _ _)) (fun x22 s23 => ?_)
  show zG C (wM A cA) 4 _ _ 223 [(1, .long x22)] [] s23
  refine gg_lload_n (pc := 223) hC dX7_digest_223 (i := 1) rfl 0 rfl ?_
  exact gg_lret (pc := 224) hR dX7_digest_224
def fX7_edge (v1 : Int32) (σ : zS) : Option (Int32 × zS) :=
    zy2 (fX7_adds v1 σ) (fun x1 s2 =>
    some (x1, s2))
set_option maxHeartbeats 4000000 in
set_option maxRecDepth 100000 in
theorem mX7_edge {l : Launch} {D : va_G} {A : Nat → Nat} {cA : Nat → ClassId} {v1 : Int32}  {σ : zS} {r : Int32 × zS} (h : fX7_edge v1 σ = some r) : zMI l D (wM A cA) yX7_edge (zws yX7_edge cX7_edge 2 (some .int)) 2 45 [.ref (A 0), .int v1] σ r := by
  refine zm_I (lv := [(0, .ref (A 0)), (1, .int v1)]) rfl sM_ok (Nat.le_of_ble_eq_true rfl) rfl (fun C _ _ hC hR => ?_) h
  unfold fX7_edge
  refine gg_aload_n (pc := 0) hC dX7_edge_0 (i := 0) rfl 0 rfl ?_
  refine gg_iload_n (pc := 1) hC dX7_edge_1 (i := 1) rfl 1 rfl ?_
  refine gg_callVI (pc := 2) hC dX7_edge_2 vX7_93 (fun _ h => mX7_adds h) (Nat.le_of_ble_eq_true rfl) (Nat.le_of_ble_eq_true rfl) (As := [.int v1]) (rest := []) rfl rfl (Nat.le_of_ble_eq_true rfl) 0 7 pM_0 rfl (fun x1 s2 => ?_)
  exact gg_iret (pc := 5) hR dX7_edge_5
def fX7_edges_38 (v1 : Int32) (v2 : Int32) (v3 : Int32) : Nat → Int32 → zS → Option (Int32 × zS)
  | 0, _, _ => none
  | n + 1, v4, σ =>
    if v3 ≤ v4 then (some (v4, σ)) else
    (zy2 (fX7_adds (v1 + (v2 * v4)) σ) (fun x1 s2 =>
    if x1 < 0 then (some (v4, s2)) else
    (fX7_edges_38 v1 v2 v3 n (v4 + 1) s2)))
def fX7_edges (v1 : Int32) (v2 : Int32) (v3 : Int32) (σ : zS) : Option (Int32 × zS) :=
    zy1 (fX7_in v1 0 5999 σ) (fun x1 =>
    if x1 = 0 then (some ((-2 : Int32), σ)) else
    (zy1 (fX7_in v2 1 600 σ) (fun x2 =>
    if x2 = 0 then (some ((-2 : Int32), σ)) else
    (zy1 (fX7_in v3 1 32 σ) (fun x3 =>
    if x3 = 0 then (some ((-2 : Int32), σ)) else
    (zy2 (fX7_edges_38 v1 v2 v3 500 0 σ) (fun (x4 : Int32) (s5 : zS) =>
    some (x4, s5))))))))
set_option maxHeartbeats 4000000 in
set_option maxRecDepth 100000 in
theorem lX7_edges_38 {C : zK} {A : Nat → Nat} {cA : Nat → ClassId} (hC : zOK C (wM A cA) cX7_edges RX7 5 2 45) {v1 : Int32} {v2 : Int32} {v3 : Int32} : ∀ (n : Nat) (v4 : Int32) (σ : zS), zG C (wM A cA) 5 (fun q => zW C (wM A cA) 5 63 [(4, .int q.1)] [] q.2) (fX7_edges_38 v1 v2 v3 n v4 σ) 38 [(0, .ref (A 0)), (1, .int v1), (2, .int v2), (3, .int v3), (4, .int v4)] [] σ := by
  intro n
  induction n with
  | zero => intro v4 σ; exact gg_none (o := none)
  | succ n ih =>
    intro v4 σ
    rw [fX7_edges_38]
    refine gg_iload (pc := 38) hC dX7_edges_38 4 rfl ?_
    refine gg_iload_n (pc := 40) hC dX7_edges_40 (i := 3) rfl 3 rfl ?_
    refine gg_icmp_ge (pc := 41) hC dX7_edges_41 (tgt := 63) rfl (fun _ => ?_) (fun _ => ?_)
    · exact gg_y (fun h => zW_lv [4] rfl h)
    · refine gg_aload_n (pc := 44) hC dX7_edges_44 (i := 0) rfl 0 rfl ?_
      refine gg_iload_n (pc := 45) hC dX7_edges_45 (i := 1) rfl 1 rfl ?_
      refine gg_iload_n (pc := 46) hC dX7_edges_46 (i := 2) rfl 2 rfl ?_
      refine gg_iload (pc := 47) hC dX7_edges_47 4 rfl ?_
      refine gg_imul (pc := 49) hC dX7_edges_49 ?_
      refine gg_iadd (pc := 50) hC dX7_edges_50 ?_
      refine gg_callVI (pc := 51) hC dX7_edges_51 vX7_93 (fun _ h => mX7_adds h) (Nat.le_of_ble_eq_true rfl) (Nat.le_of_ble_eq_true rfl) (As := [.int (v1 + (v2 * v4))]) (rest := []) rfl rfl (Nat.le_of_ble_eq_true rfl) 0 7 pM_0 rfl (fun x1 s2 => ?_)
      refine gg_if_lt (pc := 54) hC dX7_edges_54 (tgt := 63) rfl (fun _ => ?_) (fun _ => ?_)
      · exact gg_y (fun h => zW_lv [4] rfl h)
      · refine gg_iinc (pc := 57) hC dX7_edges_57 (y := 0) (j := 4) rfl (z := 1) rfl (Nat.le_of_ble_eq_true rfl) (lv' := [(4, .int (v4 + 1)), (0, .ref (A 0)), (1, .int v1), (2, .int v2), (3, .int v3)]) rfl ?_
        refine gg_goto (pc := 60) hC dX7_edges_60 (tgt := 38) rfl ?_
        exact gg_lv [1, 2, 3, 4, 0] rfl (ih _ _)
set_option maxHeartbeats 4000000 in
set_option maxRecDepth 100000 in
theorem mX7_edges {l : Launch} {D : va_G} {A : Nat → Nat} {cA : Nat → ClassId} {v1 : Int32} {v2 : Int32} {v3 : Int32}  {σ : zS} {r : Int32 × zS} (h : fX7_edges v1 v2 v3 σ = some r) : zMI l D (wM A cA) yX7_edges (zws yX7_edges cX7_edges 5 (some .int)) 2 45 [.ref (A 0), .int v1, .int v2, .int v3] σ r := by
  refine zm_I (lv := [(0, .ref (A 0)), (1, .int v1), (2, .int v2), (3, .int v3)]) rfl sM_ok (Nat.le_of_ble_eq_true rfl) rfl (fun C _ _ hC hR => ?_) h
  unfold fX7_edges
  refine gg_iload_n (pc := 0) hC dX7_edges_0 (i := 1) rfl 1 rfl ?_
  refine gg_iconst (pc := 1) hC dX7_edges_1 (x := 0) rfl ?_
  refine gg_sipush (pc := 2) hC dX7_edges_2 (x := 5999) rfl ?_
  refine gg_callSIr (pc := 5) hC dX7_edges_5 cX7_85 (fun _ h => mX7_in h) (Nat.le_of_ble_eq_true rfl) (Nat.le_of_ble_eq_true rfl) (As := [.int v1, .int 0, .int 5999]) (rest := []) rfl rfl (Nat.le_of_ble_eq_true rfl) (fun x1 => ?_)
  refine gg_if_eq (pc := 8) hC dX7_edges_8 (tgt := 32) rfl (fun _ => ?_) (fun _ => ?_)
  · refine gg_bipush (pc := 32) hC dX7_edges_32 (x := -2) rfl ?_
    exact gg_iret (pc := 34) hR dX7_edges_34
  · refine gg_iload_n (pc := 11) hC dX7_edges_11 (i := 2) rfl 2 rfl ?_
    refine gg_iconst (pc := 12) hC dX7_edges_12 (x := 1) rfl ?_
    refine gg_sipush (pc := 13) hC dX7_edges_13 (x := 600) rfl ?_
    refine gg_callSIr (pc := 16) hC dX7_edges_16 cX7_85 (fun _ h => mX7_in h) (Nat.le_of_ble_eq_true rfl) (Nat.le_of_ble_eq_true rfl) (As := [.int v2, .int 1, .int 600]) (rest := []) rfl rfl (Nat.le_of_ble_eq_true rfl) (fun x2 => ?_)
    refine gg_if_eq (pc := 19) hC dX7_edges_19 (tgt := 32) rfl (fun _ => ?_) (fun _ => ?_)
    · refine gg_bipush (pc := 32) hC dX7_edges_32 (x := -2) rfl ?_
      exact gg_iret (pc := 34) hR dX7_edges_34
    · refine gg_iload_n (pc := 22) hC dX7_edges_22 (i := 3) rfl 3 rfl ?_
      refine gg_iconst (pc := 23) hC dX7_edges_23 (x := 1) rfl ?_
      refine gg_bipush (pc := 24) hC dX7_edges_24 (x := 32) rfl ?_
      refine gg_callSIr (pc := 26) hC dX7_edges_26 cX7_85 (fun _ h => mX7_in h) (Nat.le_of_ble_eq_true rfl) (Nat.le_of_ble_eq_true rfl) (As := [.int v3, .int 1, .int 32]) (rest := []) rfl rfl (Nat.le_of_ble_eq_true rfl) (fun x3 => ?_)
      refine gg_if_ne (pc := 29) hC dX7_edges_29 (tgt := 35) rfl (fun _ => ?_) (fun _ => ?_)
      · refine gg_bipush (pc := 32) hC dX7_edges_32 (x := -2) rfl ?_
        exact gg_iret (pc := 34) hR dX7_edges_34
      · refine gg_iconst (pc := 35) hC dX7_edges_35 (x := 0) rfl ?_
        refine gg_istore (pc := 36) hC dX7_edges_36 (Nat.le_of_ble_eq_true rfl) (lv' := [(4, .int 0), (0, .ref (A 0)), (1, .int v1), (2, .int v2), (3, .int v3)]) rfl ?_
        refine gg_join2 (E' := (fun q => zW C (wM A cA) 5 63 [(4, .int q.1)] [] q.2)) (gg_lv [1, 2, 3, 4, 0] rfl (lX7_edges_38 hC  500 _ _)) (fun x4 s5 => ?_)
        show zG C (wM A cA) 5 _ _ 63 [(4, .int x4)] [] s5
        refine gg_iload (pc := 63) hC dX7_edges_63 0 rfl ?_
        exact gg_iret (pc := 65) hR dX7_edges_65
def fX7_isFit (v1 : Int32) (v2 : Int32) (σ : zS) : Option (Int32) :=
    if v1 < 0 then (some 0) else
    (if v2 ≤ v1 then (some 0) else
    (if (zi σ 0) ≤ v2 then (some 0) else
    (some 1)))
set_option maxHeartbeats 4000000 in
set_option maxRecDepth 100000 in
theorem mX7_isFit {l : Launch} {D : va_G} {A : Nat → Nat} {cA : Nat → ClassId} {v1 : Int32} {v2 : Int32}  {σ : zS} {r : Int32} (h : fX7_isFit v1 v2 σ = some r) : zMI l D (wM A cA) yX7_isFit (zws yX7_isFit cX7_isFit 3 (some .boolean)) 0 0 [.ref (A 0), .int v1, .int v2] σ (r, σ) := by
  refine zm_Zr (lv := [(0, .ref (A 0)), (1, .int v1), (2, .int v2)]) rfl sM_ok (Nat.le_of_ble_eq_true rfl) rfl (fun C _ _ hC hR => ?_) h
  unfold fX7_isFit
  refine gg_iload_n (pc := 0) hC dX7_isFit_0 (i := 1) rfl 1 rfl ?_
  refine gg_if_lt (pc := 1) hC dX7_isFit_1 (tgt := 21) rfl (fun _ => ?_) (fun _ => ?_)
  · refine gg_iconst (pc := 21) hC dX7_isFit_21 (x := 0) rfl ?_
    exact gg_zretr (pc := 22) hR dX7_isFit_22 rfl
  · refine gg_iload_n (pc := 4) hC dX7_isFit_4 (i := 1) rfl 1 rfl ?_
    refine gg_iload_n (pc := 5) hC dX7_isFit_5 (i := 2) rfl 2 rfl ?_
    refine gg_icmp_ge (pc := 6) hC dX7_isFit_6 (tgt := 21) rfl (fun _ => ?_) (fun _ => ?_)
    · refine gg_iconst (pc := 21) hC dX7_isFit_21 (x := 0) rfl ?_
      exact gg_zretr (pc := 22) hR dX7_isFit_22 rfl
    · refine gg_iload_n (pc := 9) hC dX7_isFit_9 (i := 2) rfl 2 rfl ?_
      refine gg_aload_n (pc := 10) hC dX7_isFit_10 (i := 0) rfl 0 rfl ?_
      refine gg_get (pc := 11) hC dX7_isFit_11 fX7_81 0 pM_0 (v := .int (zi σ 0)) rfl ?_
      refine gg_icmp_ge (pc := 14) hC dX7_isFit_14 (tgt := 21) rfl (fun _ => ?_) (fun _ => ?_)
      · refine gg_iconst (pc := 21) hC dX7_isFit_21 (x := 0) rfl ?_
        exact gg_zretr (pc := 22) hR dX7_isFit_22 rfl
      · refine gg_iconst (pc := 17) hC dX7_isFit_17 (x := 1) rfl ?_
        refine gg_goto (pc := 18) hC dX7_isFit_18 (tgt := 22) rfl ?_
        exact gg_zretr (pc := 22) hR dX7_isFit_22 rfl
def fX7_fit (v1 : Int32) (v2 : Int32) (v3 : Int32) (σ : zS) : Option (Int64 × zS) :=
    zy1 (fX7_isFit v1 v2 σ) (fun x1 =>
    if x1 = 0 then (zy1 (fX7_no (-2 : Int32) σ) (fun x2 =>
    some (x2, σ))) else
    (zy1 (fX7_in v3 0 1 σ) (fun x3 =>
    if x3 = 0 then (zy1 (fX7_no (-2 : Int32) σ) (fun x4 =>
    some (x4, σ))) else
    (zy2 (fX7_fitOf v1 v2 v3 σ) (fun x5 s6 =>
    some (x5, s6))))))
set_option maxHeartbeats 4000000 in
set_option maxRecDepth 100000 in
theorem mX7_fit {l : Launch} {D : va_G} {A : Nat → Nat} {cA : Nat → ClassId} {v1 : Int32} {v2 : Int32} {v3 : Int32}  {σ : zS} {r : Int64 × zS} (h : fX7_fit v1 v2 v3 σ = some r) : zML l D (wM A cA) yX7_fit (zws yX7_fit cX7_fit 4 (some .long)) 5 120 [.ref (A 0), .int v1, .int v2, .int v3] σ r := by
  refine zm_L (lv := [(0, .ref (A 0)), (1, .int v1), (2, .int v2), (3, .int v3)]) rfl sM_ok (Nat.le_of_ble_eq_true rfl) rfl (fun C _ _ hC hR => ?_) h
  unfold fX7_fit
  refine gg_aload_n (pc := 0) hC dX7_fit_0 (i := 0) rfl 0 rfl ?_
  refine gg_iload_n (pc := 1) hC dX7_fit_1 (i := 1) rfl 1 rfl ?_
  refine gg_iload_n (pc := 2) hC dX7_fit_2 (i := 2) rfl 2 rfl ?_
  refine gg_callVIr (pc := 3) hC dX7_fit_3 vX7_246 (fun _ h => mX7_isFit h) (Nat.le_of_ble_eq_true rfl) (Nat.le_of_ble_eq_true rfl) (As := [.int v1, .int v2]) (rest := []) rfl rfl (Nat.le_of_ble_eq_true rfl) 0 7 pM_0 rfl (fun x1 => ?_)
  refine gg_if_eq (pc := 6) hC dX7_fit_6 (tgt := 28) rfl (fun _ => ?_) (fun _ => ?_)
  · refine gg_bipush (pc := 28) hC dX7_fit_28 (x := -2) rfl ?_
    refine gg_callSLr (pc := 30) hC dX7_fit_30 cX7_126 (fun _ h => mX7_no h) (Nat.le_of_ble_eq_true rfl) (Nat.le_of_ble_eq_true rfl) (As := [.int (-2 : Int32)]) (rest := []) rfl rfl (Nat.le_of_ble_eq_true rfl) (fun x2 => ?_)
    exact gg_lret (pc := 33) hR dX7_fit_33
  · refine gg_iload_n (pc := 9) hC dX7_fit_9 (i := 3) rfl 3 rfl ?_
    refine gg_iconst (pc := 10) hC dX7_fit_10 (x := 0) rfl ?_
    refine gg_iconst (pc := 11) hC dX7_fit_11 (x := 1) rfl ?_
    refine gg_callSIr (pc := 12) hC dX7_fit_12 cX7_85 (fun _ h => mX7_in h) (Nat.le_of_ble_eq_true rfl) (Nat.le_of_ble_eq_true rfl) (As := [.int v3, .int 0, .int 1]) (rest := []) rfl rfl (Nat.le_of_ble_eq_true rfl) (fun x3 => ?_)
    refine gg_if_eq (pc := 15) hC dX7_fit_15 (tgt := 28) rfl (fun _ => ?_) (fun _ => ?_)
    · refine gg_bipush (pc := 28) hC dX7_fit_28 (x := -2) rfl ?_
      refine gg_callSLr (pc := 30) hC dX7_fit_30 cX7_126 (fun _ h => mX7_no h) (Nat.le_of_ble_eq_true rfl) (Nat.le_of_ble_eq_true rfl) (As := [.int (-2 : Int32)]) (rest := []) rfl rfl (Nat.le_of_ble_eq_true rfl) (fun x4 => ?_)
      exact gg_lret (pc := 33) hR dX7_fit_33
    · refine gg_aload_n (pc := 18) hC dX7_fit_18 (i := 0) rfl 0 rfl ?_
      refine gg_iload_n (pc := 19) hC dX7_fit_19 (i := 1) rfl 1 rfl ?_
      refine gg_iload_n (pc := 20) hC dX7_fit_20 (i := 2) rfl 2 rfl ?_
      refine gg_iload_n (pc := 21) hC dX7_fit_21 (i := 3) rfl 3 rfl ?_
      refine gg_callVL (pc := 22) hC dX7_fit_22 vX7_249 (fun _ h => mX7_fitOf h) (Nat.le_of_ble_eq_true rfl) (Nat.le_of_ble_eq_true rfl) (As := [.int v1, .int v2, .int v3]) (rest := []) rfl rfl (Nat.le_of_ble_eq_true rfl) 0 7 pM_0 rfl (fun x5 s6 => ?_)
      refine gg_goto (pc := 25) hC dX7_fit_25 (tgt := 33) rfl ?_
      exact gg_lret (pc := 33) hR dX7_fit_33
def fX7_foundOf_8 (v1 : Int32) (v2 : Int32) (σ : zS) : Nat → Int32 → Int32 → Int32 → Option (Int32 × Int32)
  | 0, _, _, _ => none
  | n + 1, v3, v4, v5 =>
    zg (zq v1 4) (if (za σ 12 v1.toNatClampNeg) ≤ v5 then (some (v3, v4)) else
    (zv ((40 * v1) + v5) (fun (x1 : Int32) =>
    zg (zq x1 160) (zy1 (if (za σ 13 x1.toNatClampNeg) = 0 then (some 0) else
    (some 1)) (fun (x2 : Int32) =>
    zv (v4 + x2) (fun (x3 : Int32) =>
    zg (zq x1 160) (zy1 (if (za σ 13 x1.toNatClampNeg) = 0 then (if v3 = (-1 : Int32) then (some 1) else
    (if v2 = 0 then (zg (zq x1 160) (zg (zq ((40 * v1) + v3) 160) (if 0 ≤ Op.cmpValue (FP.dcmp (zd σ 0 x1.toNatClampNeg) (zd σ 0 ((40 * v1) + v3).toNatClampNeg)) .g then (some 0) else
    (some 1)))) else
    (zg (zq x1 160) (zg (zq ((40 * v1) + v3) 160) (if Op.cmpValue (FP.dcmp (zd σ 0 x1.toNatClampNeg) (zd σ 0 ((40 * v1) + v3).toNatClampNeg)) .l ≤ 0 then (some 0) else
    (some 1)))))) else
    (some 0)) (fun (x4 : Int32) =>
    zy1 (if x4 = 0 then (some v3) else
    (some v5)) (fun (x5 : Int32) =>
    fX7_foundOf_8 v1 v2 σ n x5 x3 (v5 + 1))))))))))
def fX7_foundOf (v1 : Int32) (v2 : Int32) (σ : zS) : Option (Int32) :=
    zy2 (fX7_foundOf_8 v1 v2 σ 500 (-1 : Int32) 0 0) (fun (x1 : Int32) (x2 : Int32) =>
    if v2 = 2 then (some x2) else
    (some x1))
set_option maxHeartbeats 4000000 in
set_option maxRecDepth 100000 in
theorem lX7_foundOf_8 {C : zK} {A : Nat → Nat} {cA : Nat → ClassId} (hC : zOK C (wM A cA) cX7_foundOf RX7 8 0 0) {v1 : Int32} {v2 : Int32} {σ : zS} : ∀ (n : Nat) (v3 : Int32) (v4 : Int32) (v5 : Int32), zG C (wM A cA) 8 (fun q => zW C (wM A cA) 8 139 [(2, .int v2), (3, .int q.1), (4, .int q.2)] [] σ) (fX7_foundOf_8 v1 v2 σ n v3 v4 v5) 8 [(0, .ref (A 0)), (1, .int v1), (2, .int v2), (3, .int v3), (4, .int v4), (5, .int v5)] [] σ := by
  intro n
  induction n with
  | zero => intro v3 v4 v5; exact gg_none (o := none)
  | succ n ih =>
    intro v3 v4 v5
    rw [fX7_foundOf_8]
    refine gg_iload (pc := 8) hC dX7_foundOf_8 5 rfl ?_
    refine gg_aload_n (pc := 10) hC dX7_foundOf_10 (i := 0) rfl 0 rfl ?_
    refine gg_get (pc := 11) hC dX7_foundOf_11 fX7_54 0 pM_0 (v := .ref (A 15)) rfl ?_
    refine gg_iload_n (pc := 14) hC dX7_foundOf_14 (i := 1) rfl 1 rfl ?_
    refine gg_iald (pc := 15) hC dX7_foundOf_15 15 0 pM_15 rfl ?_
    refine gg_icmp_ge (pc := 16) hC dX7_foundOf_16 (tgt := 139) rfl (fun _ => ?_) (fun _ => ?_)
    · exact gg_y (fun h => zW_lv [2, 3, 4] rfl h)
    · refine gg_bipush (pc := 19) hC dX7_foundOf_19 (x := 40) rfl ?_
      refine gg_iload_n (pc := 21) hC dX7_foundOf_21 (i := 1) rfl 1 rfl ?_
      refine gg_imul (pc := 22) hC dX7_foundOf_22 ?_
      refine gg_iload (pc := 23) hC dX7_foundOf_23 5 rfl ?_
      refine gg_iadd (pc := 25) hC dX7_foundOf_25 ?_
      refine gg_zvi (fun x1 => ?_)
      refine gg_istore (pc := 26) hC dX7_foundOf_26 (Nat.le_of_ble_eq_true rfl) (lv' := [(6, .int x1), (0, .ref (A 0)), (1, .int v1), (2, .int v2), (3, .int v3), (4, .int v4), (5, .int v5)]) rfl ?_
      refine gg_iload (pc := 28) hC dX7_foundOf_28 5 rfl ?_
      refine gg_aload_n (pc := 30) hC dX7_foundOf_30 (i := 0) rfl 1 rfl ?_
      refine gg_get (pc := 31) hC dX7_foundOf_31 fX7_64 0 pM_0 (v := .ref (A 18)) rfl ?_
      refine gg_iload (pc := 34) hC dX7_foundOf_34 0 rfl ?_
      refine gg_zald (pc := 36) hC dX7_foundOf_36 18 2 pM_18 rfl ?_
      refine gg_join1 (E' := (fun q => zW C (wM A cA) 8 45 [(0, .ref (A 0)), (1, .int v1), (2, .int v2), (3, .int v3), (5, .int v5), (6, .int x1)] [.int q, .int v4] σ)) ?_ (fun x2 => ?_)
      · refine gg_if_eq (pc := 37) hC dX7_foundOf_37 (tgt := 44) rfl (fun _ => ?_) (fun _ => ?_)
        · refine gg_iconst (pc := 44) hC dX7_foundOf_44 (x := 0) rfl ?_
          exact gg_y (fun h => zW_lv [1, 2, 3, 4, 6, 0] rfl h)
        · refine gg_iconst (pc := 40) hC dX7_foundOf_40 (x := 1) rfl ?_
          refine gg_goto (pc := 41) hC dX7_foundOf_41 (tgt := 45) rfl ?_
          exact gg_y (fun h => zW_lv [1, 2, 3, 4, 6, 0] rfl h)
      · show zG C (wM A cA) 8 _ _ 45 [(0, .ref (A 0)), (1, .int v1), (2, .int v2), (3, .int v3), (5, .int v5), (6, .int x1)] [.int x2, .int v4] σ
        refine gg_iadd (pc := 45) hC dX7_foundOf_45 ?_
        refine gg_zvi (fun x3 => ?_)
        refine gg_istore (pc := 46) hC dX7_foundOf_46 (Nat.le_of_ble_eq_true rfl) (lv' := [(4, .int x3), (0, .ref (A 0)), (1, .int v1), (2, .int v2), (3, .int v3), (5, .int v5), (6, .int x1)]) rfl ?_
        refine gg_aload_n (pc := 48) hC dX7_foundOf_48 (i := 0) rfl 1 rfl ?_
        refine gg_get (pc := 49) hC dX7_foundOf_49 fX7_64 0 pM_0 (v := .ref (A 18)) rfl ?_
        refine gg_iload (pc := 52) hC dX7_foundOf_52 6 rfl ?_
        refine gg_zald (pc := 54) hC dX7_foundOf_54 18 2 pM_18 rfl ?_
        refine gg_join1 (E' := (fun q => zW C (wM A cA) 8 119 [(0, .ref (A 0)), (1, .int v1), (2, .int v2), (3, .int v3), (4, .int x3), (5, .int v5)] [.int q] σ)) ?_ (fun x4 => ?_)
        · refine gg_if_ne (pc := 55) hC dX7_foundOf_55 (tgt := 118) rfl (fun _ => ?_) (fun _ => ?_)
          · refine gg_iload_n (pc := 58) hC dX7_foundOf_58 (i := 3) rfl 4 rfl ?_
            refine gg_iconst (pc := 59) hC dX7_foundOf_59 (x := -1) rfl ?_
            refine gg_icmp_eq (pc := 60) hC dX7_foundOf_60 (tgt := 114) rfl (fun _ => ?_) (fun _ => ?_)
            · refine gg_iconst (pc := 114) hC dX7_foundOf_114 (x := 1) rfl ?_
              refine gg_goto (pc := 115) hC dX7_foundOf_115 (tgt := 119) rfl ?_
              exact gg_y (fun h => zW_lv [1, 2, 3, 4, 0, 5] rfl h)
            · refine gg_iload_n (pc := 63) hC dX7_foundOf_63 (i := 2) rfl 3 rfl ?_
              refine gg_if_ne (pc := 64) hC dX7_foundOf_64 (tgt := 92) rfl (fun _ => ?_) (fun _ => ?_)
              · refine gg_aload_n (pc := 67) hC dX7_foundOf_67 (i := 0) rfl 1 rfl ?_
                refine gg_get (pc := 68) hC dX7_foundOf_68 fX7_60 0 pM_0 (v := .ref (A 17)) rfl ?_
                refine gg_iload (pc := 71) hC dX7_foundOf_71 6 rfl ?_
                refine gg_dald (pc := 73) hC dX7_foundOf_73 17 3 pM_17 rfl ?_
                refine gg_aload_n (pc := 74) hC dX7_foundOf_74 (i := 0) rfl 1 rfl ?_
                refine gg_get (pc := 75) hC dX7_foundOf_75 fX7_60 0 pM_0 (v := .ref (A 17)) rfl ?_
                refine gg_bipush (pc := 78) hC dX7_foundOf_78 (x := 40) rfl ?_
                refine gg_iload_n (pc := 80) hC dX7_foundOf_80 (i := 1) rfl 2 rfl ?_
                refine gg_imul (pc := 81) hC dX7_foundOf_81 ?_
                refine gg_iload_n (pc := 82) hC dX7_foundOf_82 (i := 3) rfl 4 rfl ?_
                refine gg_iadd (pc := 83) hC dX7_foundOf_83 ?_
                refine gg_dald (pc := 84) hC dX7_foundOf_84 17 3 pM_17 rfl ?_
                refine gg_dcmp_ge (pc := 85) hC dX7_foundOf_85 dX7_foundOf_86 (tgt := 118) rfl (fun _ => ?_) (fun _ => ?_)
                · refine gg_iconst (pc := 118) hC dX7_foundOf_118 (x := 0) rfl ?_
                  exact gg_y (fun h => zW_lv [1, 2, 3, 4, 0, 5] rfl h)
                · refine gg_goto (pc := 89) hC dX7_foundOf_89 (tgt := 114) rfl ?_
                  refine gg_iconst (pc := 114) hC dX7_foundOf_114 (x := 1) rfl ?_
                  refine gg_goto (pc := 115) hC dX7_foundOf_115 (tgt := 119) rfl ?_
                  exact gg_y (fun h => zW_lv [1, 2, 3, 4, 0, 5] rfl h)
              · refine gg_aload_n (pc := 92) hC dX7_foundOf_92 (i := 0) rfl 1 rfl ?_
                refine gg_get (pc := 93) hC dX7_foundOf_93 fX7_60 0 pM_0 (v := .ref (A 17)) rfl ?_
                refine gg_iload (pc := 96) hC dX7_foundOf_96 6 rfl ?_
                refine gg_dald (pc := 98) hC dX7_foundOf_98 17 3 pM_17 rfl ?_
                refine gg_aload_n (pc := 99) hC dX7_foundOf_99 (i := 0) rfl 1 rfl ?_
                refine gg_get (pc := 100) hC dX7_foundOf_100 fX7_60 0 pM_0 (v := .ref (A 17)) rfl ?_
                refine gg_bipush (pc := 103) hC dX7_foundOf_103 (x := 40) rfl ?_
                refine gg_iload_n (pc := 105) hC dX7_foundOf_105 (i := 1) rfl 2 rfl ?_
                refine gg_imul (pc := 106) hC dX7_foundOf_106 ?_
                refine gg_iload_n (pc := 107) hC dX7_foundOf_107 (i := 3) rfl 4 rfl ?_
                refine gg_iadd (pc := 108) hC dX7_foundOf_108 ?_
                refine gg_dald (pc := 109) hC dX7_foundOf_109 17 3 pM_17 rfl ?_
                refine gg_dcmp_le (pc := 110) hC dX7_foundOf_110 dX7_foundOf_111 (tgt := 118) rfl (fun _ => ?_) (fun _ => ?_)
                · refine gg_iconst (pc := 118) hC dX7_foundOf_118 (x := 0) rfl ?_
                  exact gg_y (fun h => zW_lv [1, 2, 3, 4, 0, 5] rfl h)
                · refine gg_iconst (pc := 114) hC dX7_foundOf_114 (x := 1) rfl ?_
                  refine gg_goto (pc := 115) hC dX7_foundOf_115 (tgt := 119) rfl ?_
                  exact gg_y (fun h => zW_lv [1, 2, 3, 4, 0, 5] rfl h)
          · refine gg_iconst (pc := 118) hC dX7_foundOf_118 (x := 0) rfl ?_
            exact gg_y (fun h => zW_lv [1, 2, 3, 4, 0, 5] rfl h)
        · show zG C (wM A cA) 8 _ _ 119 [(0, .ref (A 0)), (1, .int v1), (2, .int v2), (3, .int v3), (4, .int x3), (5, .int v5)] [.int x4] σ
          refine gg_istore (pc := 119) hC dX7_foundOf_119 (Nat.le_of_ble_eq_true rfl) (lv' := [(7, .int x4), (0, .ref (A 0)), (1, .int v1), (2, .int v2), (3, .int v3), (4, .int x3), (5, .int v5)]) rfl ?_
          refine gg_iload (pc := 121) hC dX7_foundOf_121 0 rfl ?_
          refine gg_join1 (E' := (fun q => zW C (wM A cA) 8 132 [(0, .ref (A 0)), (1, .int v1), (2, .int v2), (4, .int x3), (5, .int v5)] [.int q] σ)) ?_ (fun x5 => ?_)
          · refine gg_if_eq (pc := 123) hC dX7_foundOf_123 (tgt := 131) rfl (fun _ => ?_) (fun _ => ?_)
            · refine gg_iload_n (pc := 131) hC dX7_foundOf_131 (i := 3) rfl 4 rfl ?_
              exact gg_y (fun h => zW_lv [1, 2, 3, 5, 6] rfl h)
            · refine gg_iload (pc := 126) hC dX7_foundOf_126 6 rfl ?_
              refine gg_goto (pc := 128) hC dX7_foundOf_128 (tgt := 132) rfl ?_
              exact gg_y (fun h => zW_lv [1, 2, 3, 5, 6] rfl h)
          · show zG C (wM A cA) 8 _ _ 132 [(0, .ref (A 0)), (1, .int v1), (2, .int v2), (4, .int x3), (5, .int v5)] [.int x5] σ
            refine gg_istore_n (pc := 132) hC dX7_foundOf_132 (i := 3) rfl (Nat.le_of_ble_eq_true rfl) (lv' := [(3, .int x5), (0, .ref (A 0)), (1, .int v1), (2, .int v2), (4, .int x3), (5, .int v5)]) rfl ?_
            refine gg_iinc (pc := 133) hC dX7_foundOf_133 (y := 0) (j := 5) rfl (z := 1) rfl (Nat.le_of_ble_eq_true rfl) (lv' := [(5, .int (v5 + 1)), (3, .int x5), (0, .ref (A 0)), (1, .int v1), (2, .int v2), (4, .int x3)]) rfl ?_
            refine gg_goto (pc := 136) hC dX7_foundOf_136 (tgt := 8) rfl ?_
            exact gg_lv [2, 3, 4, 1, 5, 0] rfl (ih _ _ _)
set_option maxHeartbeats 4000000 in
set_option maxRecDepth 100000 in
theorem mX7_foundOf {l : Launch} {D : va_G} {A : Nat → Nat} {cA : Nat → ClassId} {v1 : Int32} {v2 : Int32}  {σ : zS} {r : Int32} (h : fX7_foundOf v1 v2 σ = some r) : zMI l D (wM A cA) yX7_foundOf (zws yX7_foundOf cX7_foundOf 8 (some .int)) 0 0 [.ref (A 0), .int v1, .int v2] σ (r, σ) := by
  refine zm_Ir (lv := [(0, .ref (A 0)), (1, .int v1), (2, .int v2)]) rfl sM_ok (Nat.le_of_ble_eq_true rfl) rfl (fun C _ _ hC hR => ?_) h
  unfold fX7_foundOf
  refine gg_iconst (pc := 0) hC dX7_foundOf_0 (x := -1) rfl ?_
  refine gg_istore_n (pc := 1) hC dX7_foundOf_1 (i := 3) rfl (Nat.le_of_ble_eq_true rfl) (lv' := [(3, .int (-1 : Int32)), (0, .ref (A 0)), (1, .int v1), (2, .int v2)]) rfl ?_
  refine gg_iconst (pc := 2) hC dX7_foundOf_2 (x := 0) rfl ?_
  refine gg_istore (pc := 3) hC dX7_foundOf_3 (Nat.le_of_ble_eq_true rfl) (lv' := [(4, .int 0), (3, .int (-1 : Int32)), (0, .ref (A 0)), (1, .int v1), (2, .int v2)]) rfl ?_
  refine gg_iconst (pc := 5) hC dX7_foundOf_5 (x := 0) rfl ?_
  refine gg_istore (pc := 6) hC dX7_foundOf_6 (Nat.le_of_ble_eq_true rfl) (lv' := [(5, .int 0), (4, .int 0), (3, .int (-1 : Int32)), (0, .ref (A 0)), (1, .int v1), (2, .int v2)]) rfl ?_
  refine gg_join2 (E' := (fun q => zW C (wM A cA) 8 139 [(2, .int v2), (3, .int q.1), (4, .int q.2)] [] σ)) (gg_lv [3, 4, 5, 2, 1, 0] rfl (lX7_foundOf_8 hC  500 _ _ _)) (fun x1 x2 => ?_)
  show zG C (wM A cA) 8 _ _ 139 [(2, .int v2), (3, .int x1), (4, .int x2)] [] σ
  refine gg_iload_n (pc := 139) hC dX7_foundOf_139 (i := 2) rfl 0 rfl ?_
  refine gg_iconst (pc := 140) hC dX7_foundOf_140 (x := 2) rfl ?_
  refine gg_icmp_ne (pc := 141) hC dX7_foundOf_141 (tgt := 149) rfl (fun _ => ?_) (fun _ => ?_)
  · refine gg_iload (pc := 144) hC dX7_foundOf_144 2 rfl ?_
    refine gg_goto (pc := 146) hC dX7_foundOf_146 (tgt := 150) rfl ?_
    exact gg_iretr (pc := 150) hR dX7_foundOf_150
  · refine gg_iload_n (pc := 149) hC dX7_foundOf_149 (i := 3) rfl 1 rfl ?_
    exact gg_iretr (pc := 150) hR dX7_foundOf_150
def fX7_found (v1 : Int32) (v2 : Int32) (σ : zS) : Option (Int32 × zS) :=
    zy1 (fX7_isSheet v1 σ) (fun x1 =>
    if x1 = 0 then (some ((-2 : Int32), σ)) else
    (zy1 (fX7_in v2 0 2 σ) (fun x2 =>
    if x2 = 0 then (some ((-2 : Int32), σ)) else
    (zg (zq v1 4) (if (za σ 11 v1.toNatClampNeg) = (-1 : Int32) then (zg (zq v1 4) (zy1 (if (za σ 11 v1.toNatClampNeg) = (-1 : Int32) then (some 1) else
    (some 3)) (fun (x3 : Int32) =>
    zy2 (fX7_meets x3 σ) (fun x4 s5 =>
    some (x4, s5))))) else
    (zg (zq v1 4) (if 2 ≤ (za σ 11 v1.toNatClampNeg) then (zy1 (fX7_foundOf v1 v2 σ) (fun x6 =>
    some (x6, σ))) else
    (zg (zq v1 4) (zy1 (if (za σ 11 v1.toNatClampNeg) = (-1 : Int32) then (some 1) else
    (some 3)) (fun (x7 : Int32) =>
    zy2 (fX7_meets x7 σ) (fun x8 s9 =>
    some (x8, s9))))))))))))
set_option maxHeartbeats 4000000 in
set_option maxRecDepth 100000 in
theorem mX7_found {l : Launch} {D : va_G} {A : Nat → Nat} {cA : Nat → ClassId} {v1 : Int32} {v2 : Int32}  {σ : zS} {r : Int32 × zS} (h : fX7_found v1 v2 σ = some r) : zMI l D (wM A cA) yX7_found (zws yX7_found cX7_found 3 (some .int)) 2 42 [.ref (A 0), .int v1, .int v2] σ r := by
  refine zm_I (lv := [(0, .ref (A 0)), (1, .int v1), (2, .int v2)]) rfl sM_ok (Nat.le_of_ble_eq_true rfl) rfl (fun C _ _ hC hR => ?_) h
  unfold fX7_found
  refine gg_iload_n (pc := 0) hC dX7_found_0 (i := 1) rfl 1 rfl ?_
  refine gg_callSIr (pc := 1) hC dX7_found_1 cX7_281 (fun _ h => mX7_isSheet h) (Nat.le_of_ble_eq_true rfl) (Nat.le_of_ble_eq_true rfl) (As := [.int v1]) (rest := []) rfl rfl (Nat.le_of_ble_eq_true rfl) (fun x1 => ?_)
  refine gg_if_eq (pc := 4) hC dX7_found_4 (tgt := 16) rfl (fun _ => ?_) (fun _ => ?_)
  · refine gg_bipush (pc := 16) hC dX7_found_16 (x := -2) rfl ?_
    exact gg_iret (pc := 18) hR dX7_found_18
  · refine gg_iload_n (pc := 7) hC dX7_found_7 (i := 2) rfl 2 rfl ?_
    refine gg_iconst (pc := 8) hC dX7_found_8 (x := 0) rfl ?_
    refine gg_iconst (pc := 9) hC dX7_found_9 (x := 2) rfl ?_
    refine gg_callSIr (pc := 10) hC dX7_found_10 cX7_85 (fun _ h => mX7_in h) (Nat.le_of_ble_eq_true rfl) (Nat.le_of_ble_eq_true rfl) (As := [.int v2, .int 0, .int 2]) (rest := []) rfl rfl (Nat.le_of_ble_eq_true rfl) (fun x2 => ?_)
    refine gg_if_ne (pc := 13) hC dX7_found_13 (tgt := 19) rfl (fun _ => ?_) (fun _ => ?_)
    · refine gg_bipush (pc := 16) hC dX7_found_16 (x := -2) rfl ?_
      exact gg_iret (pc := 18) hR dX7_found_18
    · refine gg_aload_n (pc := 19) hC dX7_found_19 (i := 0) rfl 0 rfl ?_
      refine gg_get (pc := 20) hC dX7_found_20 fX7_51 0 pM_0 (v := .ref (A 14)) rfl ?_
      refine gg_iload_n (pc := 23) hC dX7_found_23 (i := 1) rfl 1 rfl ?_
      refine gg_iald (pc := 24) hC dX7_found_24 14 0 pM_14 rfl ?_
      refine gg_iconst (pc := 25) hC dX7_found_25 (x := -1) rfl ?_
      refine gg_icmp_eq (pc := 26) hC dX7_found_26 (tgt := 39) rfl (fun _ => ?_) (fun _ => ?_)
      · refine gg_aload_n (pc := 39) hC dX7_found_39 (i := 0) rfl 0 rfl ?_
        refine gg_aload_n (pc := 40) hC dX7_found_40 (i := 0) rfl 0 rfl ?_
        refine gg_get (pc := 41) hC dX7_found_41 fX7_51 0 pM_0 (v := .ref (A 14)) rfl ?_
        refine gg_iload_n (pc := 44) hC dX7_found_44 (i := 1) rfl 1 rfl ?_
        refine gg_iald (pc := 45) hC dX7_found_45 14 0 pM_14 rfl ?_
        refine gg_iconst (pc := 46) hC dX7_found_46 (x := -1) rfl ?_
        refine gg_join1 (E' := (fun q => zW C (wM A cA) 3 55 [] [.int q, .ref (A 0)] σ)) ?_ (fun x3 => ?_)
        · refine gg_icmp_ne (pc := 47) hC dX7_found_47 (tgt := 54) rfl (fun _ => ?_) (fun _ => ?_)
          · refine gg_iconst (pc := 50) hC dX7_found_50 (x := 1) rfl ?_
            refine gg_goto (pc := 51) hC dX7_found_51 (tgt := 55) rfl ?_
            exact gg_y (fun h => zW_lv [] rfl h)
          · refine gg_iconst (pc := 54) hC dX7_found_54 (x := 3) rfl ?_
            exact gg_y (fun h => zW_lv [] rfl h)
        · show zG C (wM A cA) 3 _ _ 55 [] [.int x3, .ref (A 0)] σ
          refine gg_callVI (pc := 55) hC dX7_found_55 vX7_284 (fun _ h => mX7_meets h) (Nat.le_of_ble_eq_true rfl) (Nat.le_of_ble_eq_true rfl) (As := [.int x3]) (rest := []) rfl rfl (Nat.le_of_ble_eq_true rfl) 0 7 pM_0 rfl (fun x4 s5 => ?_)
          exact gg_iret (pc := 58) hR dX7_found_58
      · refine gg_aload_n (pc := 29) hC dX7_found_29 (i := 0) rfl 0 rfl ?_
        refine gg_get (pc := 30) hC dX7_found_30 fX7_51 0 pM_0 (v := .ref (A 14)) rfl ?_
        refine gg_iload_n (pc := 33) hC dX7_found_33 (i := 1) rfl 1 rfl ?_
        refine gg_iald (pc := 34) hC dX7_found_34 14 0 pM_14 rfl ?_
        refine gg_iconst (pc := 35) hC dX7_found_35 (x := 2) rfl ?_
        refine gg_icmp_ge (pc := 36) hC dX7_found_36 (tgt := 59) rfl (fun _ => ?_) (fun _ => ?_)
        · refine gg_aload_n (pc := 59) hC dX7_found_59 (i := 0) rfl 0 rfl ?_
          refine gg_iload_n (pc := 60) hC dX7_found_60 (i := 1) rfl 1 rfl ?_
          refine gg_iload_n (pc := 61) hC dX7_found_61 (i := 2) rfl 2 rfl ?_
          refine gg_callVIr (pc := 62) hC dX7_found_62 vX7_302 (fun _ h => mX7_foundOf h) (Nat.le_of_ble_eq_true rfl) (Nat.le_of_ble_eq_true rfl) (As := [.int v1, .int v2]) (rest := []) rfl rfl (Nat.le_of_ble_eq_true rfl) 0 7 pM_0 rfl (fun x6 => ?_)
          exact gg_iret (pc := 65) hR dX7_found_65
        · refine gg_aload_n (pc := 39) hC dX7_found_39 (i := 0) rfl 0 rfl ?_
          refine gg_aload_n (pc := 40) hC dX7_found_40 (i := 0) rfl 0 rfl ?_
          refine gg_get (pc := 41) hC dX7_found_41 fX7_51 0 pM_0 (v := .ref (A 14)) rfl ?_
          refine gg_iload_n (pc := 44) hC dX7_found_44 (i := 1) rfl 1 rfl ?_
          refine gg_iald (pc := 45) hC dX7_found_45 14 0 pM_14 rfl ?_
          refine gg_iconst (pc := 46) hC dX7_found_46 (x := -1) rfl ?_
          refine gg_join1 (E' := (fun q => zW C (wM A cA) 3 55 [] [.int q, .ref (A 0)] σ)) ?_ (fun x7 => ?_)
          · refine gg_icmp_ne (pc := 47) hC dX7_found_47 (tgt := 54) rfl (fun _ => ?_) (fun _ => ?_)
            · refine gg_iconst (pc := 50) hC dX7_found_50 (x := 1) rfl ?_
              refine gg_goto (pc := 51) hC dX7_found_51 (tgt := 55) rfl ?_
              exact gg_y (fun h => zW_lv [] rfl h)
            · refine gg_iconst (pc := 54) hC dX7_found_54 (x := 3) rfl ?_
              exact gg_y (fun h => zW_lv [] rfl h)
          · show zG C (wM A cA) 3 _ _ 55 [] [.int x7, .ref (A 0)] σ
            refine gg_callVI (pc := 55) hC dX7_found_55 vX7_284 (fun _ h => mX7_meets h) (Nat.le_of_ble_eq_true rfl) (Nat.le_of_ble_eq_true rfl) (As := [.int x7]) (rest := []) rfl rfl (Nat.le_of_ble_eq_true rfl) 0 7 pM_0 rfl (fun x8 s9 => ?_)
            exact gg_iret (pc := 58) hR dX7_found_58
def fX7_frequency (v1 : Int32) (v2 : Int32) (v3 : Int32) (σ : zS) : Option (Int64 × zS) :=
    zy1 (fX7_isGate v1 σ) (fun x1 =>
    if x1 = 0 then (zy1 (fX7_no (-2 : Int32) σ) (fun x2 =>
    some (x2, σ))) else
    (zy1 (fX7_in v2 0 3 σ) (fun x3 =>
    if x3 = 0 then (zy1 (fX7_no (-2 : Int32) σ) (fun x4 =>
    some (x4, σ))) else
    (zy1 (fX7_in v3 0 1 σ) (fun x5 =>
    if x5 = 0 then (zy1 (fX7_no (-2 : Int32) σ) (fun x6 =>
    some (x6, σ))) else
    (zy2 (fX7_frequencyOf v1 v2 v3 σ) (fun x7 s8 =>
    some (x7, s8))))))))
set_option maxHeartbeats 4000000 in
set_option maxRecDepth 100000 in
theorem mX7_frequency {l : Launch} {D : va_G} {A : Nat → Nat} {cA : Nat → ClassId} {v1 : Int32} {v2 : Int32} {v3 : Int32}  {σ : zS} {r : Int64 × zS} (h : fX7_frequency v1 v2 v3 σ = some r) : zML l D (wM A cA) yX7_frequency (zws yX7_frequency cX7_frequency 4 (some .long)) 4 101 [.ref (A 0), .int v1, .int v2, .int v3] σ r := by
  refine zm_L (lv := [(0, .ref (A 0)), (1, .int v1), (2, .int v2), (3, .int v3)]) rfl sM_ok (Nat.le_of_ble_eq_true rfl) rfl (fun C _ _ hC hR => ?_) h
  unfold fX7_frequency
  refine gg_aload_n (pc := 0) hC dX7_frequency_0 (i := 0) rfl 0 rfl ?_
  refine gg_iload_n (pc := 1) hC dX7_frequency_1 (i := 1) rfl 1 rfl ?_
  refine gg_callVIr (pc := 2) hC dX7_frequency_2 vX7_206 (fun _ h => mX7_isGate h) (Nat.le_of_ble_eq_true rfl) (Nat.le_of_ble_eq_true rfl) (As := [.int v1]) (rest := []) rfl rfl (Nat.le_of_ble_eq_true rfl) 0 7 pM_0 rfl (fun x1 => ?_)
  refine gg_if_eq (pc := 5) hC dX7_frequency_5 (tgt := 36) rfl (fun _ => ?_) (fun _ => ?_)
  · refine gg_bipush (pc := 36) hC dX7_frequency_36 (x := -2) rfl ?_
    refine gg_callSLr (pc := 38) hC dX7_frequency_38 cX7_126 (fun _ h => mX7_no h) (Nat.le_of_ble_eq_true rfl) (Nat.le_of_ble_eq_true rfl) (As := [.int (-2 : Int32)]) (rest := []) rfl rfl (Nat.le_of_ble_eq_true rfl) (fun x2 => ?_)
    exact gg_lret (pc := 41) hR dX7_frequency_41
  · refine gg_iload_n (pc := 8) hC dX7_frequency_8 (i := 2) rfl 2 rfl ?_
    refine gg_iconst (pc := 9) hC dX7_frequency_9 (x := 0) rfl ?_
    refine gg_iconst (pc := 10) hC dX7_frequency_10 (x := 3) rfl ?_
    refine gg_callSIr (pc := 11) hC dX7_frequency_11 cX7_85 (fun _ h => mX7_in h) (Nat.le_of_ble_eq_true rfl) (Nat.le_of_ble_eq_true rfl) (As := [.int v2, .int 0, .int 3]) (rest := []) rfl rfl (Nat.le_of_ble_eq_true rfl) (fun x3 => ?_)
    refine gg_if_eq (pc := 14) hC dX7_frequency_14 (tgt := 36) rfl (fun _ => ?_) (fun _ => ?_)
    · refine gg_bipush (pc := 36) hC dX7_frequency_36 (x := -2) rfl ?_
      refine gg_callSLr (pc := 38) hC dX7_frequency_38 cX7_126 (fun _ h => mX7_no h) (Nat.le_of_ble_eq_true rfl) (Nat.le_of_ble_eq_true rfl) (As := [.int (-2 : Int32)]) (rest := []) rfl rfl (Nat.le_of_ble_eq_true rfl) (fun x4 => ?_)
      exact gg_lret (pc := 41) hR dX7_frequency_41
    · refine gg_iload_n (pc := 17) hC dX7_frequency_17 (i := 3) rfl 3 rfl ?_
      refine gg_iconst (pc := 18) hC dX7_frequency_18 (x := 0) rfl ?_
      refine gg_iconst (pc := 19) hC dX7_frequency_19 (x := 1) rfl ?_
      refine gg_callSIr (pc := 20) hC dX7_frequency_20 cX7_85 (fun _ h => mX7_in h) (Nat.le_of_ble_eq_true rfl) (Nat.le_of_ble_eq_true rfl) (As := [.int v3, .int 0, .int 1]) (rest := []) rfl rfl (Nat.le_of_ble_eq_true rfl) (fun x5 => ?_)
      refine gg_if_eq (pc := 23) hC dX7_frequency_23 (tgt := 36) rfl (fun _ => ?_) (fun _ => ?_)
      · refine gg_bipush (pc := 36) hC dX7_frequency_36 (x := -2) rfl ?_
        refine gg_callSLr (pc := 38) hC dX7_frequency_38 cX7_126 (fun _ h => mX7_no h) (Nat.le_of_ble_eq_true rfl) (Nat.le_of_ble_eq_true rfl) (As := [.int (-2 : Int32)]) (rest := []) rfl rfl (Nat.le_of_ble_eq_true rfl) (fun x6 => ?_)
        exact gg_lret (pc := 41) hR dX7_frequency_41
      · refine gg_aload_n (pc := 26) hC dX7_frequency_26 (i := 0) rfl 0 rfl ?_
        refine gg_iload_n (pc := 27) hC dX7_frequency_27 (i := 1) rfl 1 rfl ?_
        refine gg_iload_n (pc := 28) hC dX7_frequency_28 (i := 2) rfl 2 rfl ?_
        refine gg_iload_n (pc := 29) hC dX7_frequency_29 (i := 3) rfl 3 rfl ?_
        refine gg_callVL (pc := 30) hC dX7_frequency_30 vX7_212 (fun _ h => mX7_frequencyOf h) (Nat.le_of_ble_eq_true rfl) (Nat.le_of_ble_eq_true rfl) (As := [.int v1, .int v2, .int v3]) (rest := []) rfl rfl (Nat.le_of_ble_eq_true rfl) 0 7 pM_0 rfl (fun x7 s8 => ?_)
        refine gg_goto (pc := 33) hC dX7_frequency_33 (tgt := 41) rfl ?_
        exact gg_lret (pc := 41) hR dX7_frequency_41
def fX7_fresh  (σ : zS) : Option (Int32 × zS) :=
    zy2 (fX7_forgets σ) (fun x1 s2 =>
    some (x1, s2))
set_option maxHeartbeats 4000000 in
set_option maxRecDepth 100000 in
theorem mX7_fresh {l : Launch} {D : va_G} {A : Nat → Nat} {cA : Nat → ClassId}   {σ : zS} {r : Int32 × zS} (h : fX7_fresh  σ = some r) : zMI l D (wM A cA) yX7_fresh (zws yX7_fresh cX7_fresh 1 (some .int)) 2 44 [.ref (A 0)] σ r := by
  refine zm_I (lv := [(0, .ref (A 0))]) rfl sM_ok (Nat.le_of_ble_eq_true rfl) rfl (fun C _ _ hC hR => ?_) h
  unfold fX7_fresh
  refine gg_aload_n (pc := 0) hC dX7_fresh_0 (i := 0) rfl 0 rfl ?_
  refine gg_callVI (pc := 1) hC dX7_fresh_1 vX7_110 (fun _ h => mX7_forgets h) (Nat.le_of_ble_eq_true rfl) (Nat.le_of_ble_eq_true rfl) (As := []) (rest := []) rfl rfl (Nat.le_of_ble_eq_true rfl) 0 7 pM_0 rfl (fun x1 s2 => ?_)
  exact gg_iret (pc := 4) hR dX7_fresh_4
def fX7_gain (v1 : Int32) (v2 : Int32) (σ : zS) : Option (Int64) :=
    zy1 (fX7_in v1 3 32 σ) (fun x1 =>
    if x1 = 0 then (zy1 (fX7_no (-2 : Int32) σ) (fun x2 =>
    some x2)) else
    (zy1 (fX7_in v2 0 1 σ) (fun x3 =>
    if x3 = 0 then (zy1 (fX7_no (-2 : Int32) σ) (fun x4 =>
    some x4)) else
    (zy1 (fX7_gainOf v1 v2 σ) (fun x5 =>
    some x5)))))
set_option maxHeartbeats 4000000 in
set_option maxRecDepth 100000 in
theorem mX7_gain {l : Launch} {D : va_G} {A : Nat → Nat} {cA : Nat → ClassId} {v1 : Int32} {v2 : Int32}  {σ : zS} {r : Int64} (h : fX7_gain v1 v2 σ = some r) : zML l D (wM A cA) yX7_gain (zws yX7_gain cX7_gain 3 (some .long)) 2 60 [.ref (A 0), .int v1, .int v2] σ (r, σ) := by
  refine zm_Lr (lv := [(0, .ref (A 0)), (1, .int v1), (2, .int v2)]) rfl sM_ok (Nat.le_of_ble_eq_true rfl) rfl (fun C _ _ hC hR => ?_) h
  unfold fX7_gain
  refine gg_iload_n (pc := 0) hC dX7_gain_0 (i := 1) rfl 1 rfl ?_
  refine gg_iconst (pc := 1) hC dX7_gain_1 (x := 3) rfl ?_
  refine gg_bipush (pc := 2) hC dX7_gain_2 (x := 32) rfl ?_
  refine gg_callSIr (pc := 4) hC dX7_gain_4 cX7_85 (fun _ h => mX7_in h) (Nat.le_of_ble_eq_true rfl) (Nat.le_of_ble_eq_true rfl) (As := [.int v1, .int 3, .int 32]) (rest := []) rfl rfl (Nat.le_of_ble_eq_true rfl) (fun x1 => ?_)
  refine gg_if_eq (pc := 7) hC dX7_gain_7 (tgt := 27) rfl (fun _ => ?_) (fun _ => ?_)
  · refine gg_bipush (pc := 27) hC dX7_gain_27 (x := -2) rfl ?_
    refine gg_callSLr (pc := 29) hC dX7_gain_29 cX7_126 (fun _ h => mX7_no h) (Nat.le_of_ble_eq_true rfl) (Nat.le_of_ble_eq_true rfl) (As := [.int (-2 : Int32)]) (rest := []) rfl rfl (Nat.le_of_ble_eq_true rfl) (fun x2 => ?_)
    exact gg_lretr (pc := 32) hR dX7_gain_32
  · refine gg_iload_n (pc := 10) hC dX7_gain_10 (i := 2) rfl 2 rfl ?_
    refine gg_iconst (pc := 11) hC dX7_gain_11 (x := 0) rfl ?_
    refine gg_iconst (pc := 12) hC dX7_gain_12 (x := 1) rfl ?_
    refine gg_callSIr (pc := 13) hC dX7_gain_13 cX7_85 (fun _ h => mX7_in h) (Nat.le_of_ble_eq_true rfl) (Nat.le_of_ble_eq_true rfl) (As := [.int v2, .int 0, .int 1]) (rest := []) rfl rfl (Nat.le_of_ble_eq_true rfl) (fun x3 => ?_)
    refine gg_if_eq (pc := 16) hC dX7_gain_16 (tgt := 27) rfl (fun _ => ?_) (fun _ => ?_)
    · refine gg_bipush (pc := 27) hC dX7_gain_27 (x := -2) rfl ?_
      refine gg_callSLr (pc := 29) hC dX7_gain_29 cX7_126 (fun _ h => mX7_no h) (Nat.le_of_ble_eq_true rfl) (Nat.le_of_ble_eq_true rfl) (As := [.int (-2 : Int32)]) (rest := []) rfl rfl (Nat.le_of_ble_eq_true rfl) (fun x4 => ?_)
      exact gg_lretr (pc := 32) hR dX7_gain_32
    · refine gg_iload_n (pc := 19) hC dX7_gain_19 (i := 1) rfl 1 rfl ?_
      refine gg_iload_n (pc := 20) hC dX7_gain_20 (i := 2) rfl 2 rfl ?_
      refine gg_callSLr (pc := 21) hC dX7_gain_21 cX7_257 (fun _ h => mX7_gainOf h) (Nat.le_of_ble_eq_true rfl) (Nat.le_of_ble_eq_true rfl) (As := [.int v1, .int v2]) (rest := []) rfl rfl (Nat.le_of_ble_eq_true rfl) (fun x5 => ?_)
      refine gg_goto (pc := 24) hC dX7_gain_24 (tgt := 32) rfl ?_
      exact gg_lretr (pc := 32) hR dX7_gain_32
def fX7_gate (v1 : Int32) (v2 : Int32) (σ : zS) : Option (Int32 × zS) :=
    zy1 (fX7_in v1 0 5999 σ) (fun x1 =>
    if x1 = 0 then (some ((-2 : Int32), σ)) else
    (zy1 (fX7_in v2 0 5999 σ) (fun x2 =>
    if x2 = 0 then (some ((-2 : Int32), σ)) else
    (if v1 < v2 then (if (zi σ 4) = 8 then (some ((-4 : Int32), σ)) else
    (zg (zq (zi σ 4) 8) (zv (wa σ 9 (zi σ 4).toNatClampNeg v1) (fun (s3 : zS) =>
    zg (zq (zi s3 4) 8) (zv (wa s3 10 (zi s3 4).toNatClampNeg v2) (fun (s4 : zS) =>
    zv (wi s4 4 ((zi s4 4) + 1)) (fun (s5 : zS) =>
    some (((zi s5 4) - 1), s5)))))))) else
    (some ((-2 : Int32), σ))))))
set_option maxHeartbeats 4000000 in
set_option maxRecDepth 100000 in
theorem mX7_gate {l : Launch} {D : va_G} {A : Nat → Nat} {cA : Nat → ClassId} {v1 : Int32} {v2 : Int32}  {σ : zS} {r : Int32 × zS} (h : fX7_gate v1 v2 σ = some r) : zMI l D (wM A cA) yX7_gate (zws yX7_gate cX7_gate 3 (some .int)) 1 22 [.ref (A 0), .int v1, .int v2] σ r := by
  refine zm_I (lv := [(0, .ref (A 0)), (1, .int v1), (2, .int v2)]) rfl sM_ok (Nat.le_of_ble_eq_true rfl) rfl (fun C _ _ hC hR => ?_) h
  unfold fX7_gate
  refine gg_iload_n (pc := 0) hC dX7_gate_0 (i := 1) rfl 1 rfl ?_
  refine gg_iconst (pc := 1) hC dX7_gate_1 (x := 0) rfl ?_
  refine gg_sipush (pc := 2) hC dX7_gate_2 (x := 5999) rfl ?_
  refine gg_callSIr (pc := 5) hC dX7_gate_5 cX7_85 (fun _ h => mX7_in h) (Nat.le_of_ble_eq_true rfl) (Nat.le_of_ble_eq_true rfl) (As := [.int v1, .int 0, .int 5999]) (rest := []) rfl rfl (Nat.le_of_ble_eq_true rfl) (fun x1 => ?_)
  refine gg_if_eq (pc := 8) hC dX7_gate_8 (tgt := 27) rfl (fun _ => ?_) (fun _ => ?_)
  · refine gg_bipush (pc := 27) hC dX7_gate_27 (x := -2) rfl ?_
    exact gg_iret (pc := 29) hR dX7_gate_29
  · refine gg_iload_n (pc := 11) hC dX7_gate_11 (i := 2) rfl 2 rfl ?_
    refine gg_iconst (pc := 12) hC dX7_gate_12 (x := 0) rfl ?_
    refine gg_sipush (pc := 13) hC dX7_gate_13 (x := 5999) rfl ?_
    refine gg_callSIr (pc := 16) hC dX7_gate_16 cX7_85 (fun _ h => mX7_in h) (Nat.le_of_ble_eq_true rfl) (Nat.le_of_ble_eq_true rfl) (As := [.int v2, .int 0, .int 5999]) (rest := []) rfl rfl (Nat.le_of_ble_eq_true rfl) (fun x2 => ?_)
    refine gg_if_eq (pc := 19) hC dX7_gate_19 (tgt := 27) rfl (fun _ => ?_) (fun _ => ?_)
    · refine gg_bipush (pc := 27) hC dX7_gate_27 (x := -2) rfl ?_
      exact gg_iret (pc := 29) hR dX7_gate_29
    · refine gg_iload_n (pc := 22) hC dX7_gate_22 (i := 2) rfl 2 rfl ?_
      refine gg_iload_n (pc := 23) hC dX7_gate_23 (i := 1) rfl 1 rfl ?_
      refine gg_icmp_gt (pc := 24) hC dX7_gate_24 (tgt := 30) rfl (fun _ => ?_) (fun _ => ?_)
      · refine gg_aload_n (pc := 30) hC dX7_gate_30 (i := 0) rfl 0 rfl ?_
        refine gg_get (pc := 31) hC dX7_gate_31 fX7_194 0 pM_0 (v := .int (zi σ 4)) rfl ?_
        refine gg_bipush (pc := 34) hC dX7_gate_34 (x := 8) rfl ?_
        refine gg_icmp_ne (pc := 36) hC dX7_gate_36 (tgt := 42) rfl (fun _ => ?_) (fun _ => ?_)
        · refine gg_bipush (pc := 39) hC dX7_gate_39 (x := -4) rfl ?_
          exact gg_iret (pc := 41) hR dX7_gate_41
        · refine gg_aload_n (pc := 42) hC dX7_gate_42 (i := 0) rfl 0 rfl ?_
          refine gg_get (pc := 43) hC dX7_gate_43 fX7_45 0 pM_0 (v := .ref (A 12)) rfl ?_
          refine gg_aload_n (pc := 46) hC dX7_gate_46 (i := 0) rfl 0 rfl ?_
          refine gg_get (pc := 47) hC dX7_gate_47 fX7_194 0 pM_0 (v := .int (zi σ 4)) rfl ?_
          refine gg_iload_n (pc := 50) hC dX7_gate_50 (i := 1) rfl 1 rfl ?_
          refine gg_iast (pc := 51) hC dX7_gate_51 12 0 pM_12 rfl sM_12 ?_
          refine gg_zvs (fun s3 => ?_)
          refine gg_aload_n (pc := 52) hC dX7_gate_52 (i := 0) rfl 0 rfl ?_
          refine gg_get (pc := 53) hC dX7_gate_53 fX7_48 0 pM_0 (v := .ref (A 13)) rfl ?_
          refine gg_aload_n (pc := 56) hC dX7_gate_56 (i := 0) rfl 0 rfl ?_
          refine gg_get (pc := 57) hC dX7_gate_57 fX7_194 0 pM_0 (v := .int (zi s3 4)) rfl ?_
          refine gg_iload_n (pc := 60) hC dX7_gate_60 (i := 2) rfl 2 rfl ?_
          refine gg_iast (pc := 61) hC dX7_gate_61 13 0 pM_13 rfl sM_13 ?_
          refine gg_zvs (fun s4 => ?_)
          refine gg_aload_n (pc := 62) hC dX7_gate_62 (i := 0) rfl 0 rfl ?_
          refine gg_dup (pc := 63) hC dX7_gate_63 rfl ?_
          refine gg_get (pc := 64) hC dX7_gate_64 fX7_194 0 pM_0 (v := .int (zi s4 4)) rfl ?_
          refine gg_iconst (pc := 67) hC dX7_gate_67 (x := 1) rfl ?_
          refine gg_iadd (pc := 68) hC dX7_gate_68 ?_
          refine gg_put (pc := 69) hC dX7_gate_69 fX7_194 tX7_2 0 pM_0 rfl rfl rfl (Nat.le_of_ble_eq_true rfl) sM_0_19 ?_
          refine gg_zvs (fun s5 => ?_)
          refine gg_aload_n (pc := 72) hC dX7_gate_72 (i := 0) rfl 0 rfl ?_
          refine gg_get (pc := 73) hC dX7_gate_73 fX7_194 0 pM_0 (v := .int (zi s5 4)) rfl ?_
          refine gg_iconst (pc := 76) hC dX7_gate_76 (x := 1) rfl ?_
          refine gg_isub (pc := 77) hC dX7_gate_77 ?_
          exact gg_iret (pc := 78) hR dX7_gate_78
      · refine gg_bipush (pc := 27) hC dX7_gate_27 (x := -2) rfl ?_
        exact gg_iret (pc := 29) hR dX7_gate_29

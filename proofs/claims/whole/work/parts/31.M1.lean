def fX7_finds_59 (v1 : Int32) : Nat → Int32 → zS → Option (zS)
  | 0, _, _ => none
  | n + 1, v2, σ =>
    if (zi σ 0) ≤ v2 then (some σ) else
    (zg (zq v2 32) (zg (zq v2 32) (zy1 (fX7_codeOf ((za σ 0 v2.toNatClampNeg) - (za σ 0 v2.toNatClampNeg) / 60 * 60) σ) (fun x1 =>
    zy1 (fX7_partBy v1 x1 σ) (fun x2 =>
    zg (zq v2 32) (zv (wj σ 0 v2.toNatClampNeg ((((((za σ 0 v2.toNatClampNeg) / 60).toInt64) * (60 : Int64)) * (zl σ 0)) + x2)) (fun (s3 : zS) =>
    fX7_finds_59 v1 n (v2 + 1) s3)))))))
def fX7_finds_125 : Nat → Int32 → Int32 → zS → Option (zS)
  | 0, _, _, _ => none
  | n + 1, v2, v3, σ =>
    if (zi σ 0) ≤ v3 then (some σ) else
    (zy1 (if (zi σ 3) = 1 then (some v2) else
    (some 0)) (fun (x1 : Int32) =>
    zg (zq v3 32) (zv (wa σ 6 v3.toNatClampNeg (v3 + x1)) (fun (s2 : zS) =>
    zy1 (if (zi s2 0) ≤ (v3 + 1) then (some (0 : Int64)) else
    (zg (zq (v3 + 1) 32) (zg (zq v3 32) (some ((zj s2 0 (v3 + 1).toNatClampNeg) - (zj s2 0 v3.toNatClampNeg)))))) (fun (x3 : Int64) =>
    zy1 (if (zl s2 1) ≤ (0 : Int64) then (some (0 : Int64)) else
    (if (zi s2 0) ≤ (v3 + 1) then (some (0 : Int64)) else
    (zg (decide (¬ ((2 : Int64) * (zl s2 1)) = 0)) (some (((((2 : Int64) * x3) + (zl s2 1)) / ((2 : Int64) * (zl s2 1))) - (1 : Int64)))))) (fun (x4 : Int64) =>
    zy1 (if x4 ≤ (9 : Int64) then (some 0) else
    (some 1)) (fun (x5 : Int32) =>
    zg (zq v3 32) (zv (wa s2 8 v3.toNatClampNeg (vp_nar .boolean x5)) (fun (s6 : zS) =>
    zy1 (if (0 : Int64) ≤ x4 then (if x4 ≤ (9 : Int64) then (some (x4.toInt32)) else
    (some 9)) else
    (some 0)) (fun (x7 : Int32) =>
    zg (zq v3 32) (zv (wa s6 7 v3.toNatClampNeg x7) (fun (s8 : zS) =>
    zg (zq v3 32) (zv (v2 + (za s8 7 v3.toNatClampNeg)) (fun (x9 : Int32) =>
    fX7_finds_125  n x9 (v3 + 1) s8))))))))))))))
def fX7_finds  (σ : zS) : Option (zS) :=
    zy1 (fX7_modeNow σ) (fun x1 =>
    zy1 (if x1 = 1 then (zy1 (fX7_allHits σ) (fun x2 =>
    if x2 = 0 then (some 0) else
    (zy1 (fX7_modeNow σ) (fun x3 =>
    some x3)))) else
    (zy1 (fX7_modeNow σ) (fun x4 =>
    some x4))) (fun (x5 : Int32) =>
    zy1 (if x5 = 2 then (some (2 : Int64)) else
    (if x5 = 1 then (zy1 (fX7_allHits σ) (fun x6 =>
    some (x6.toInt64))) else
    (zy1 (fX7_bins σ) (fun x7 =>
    some (x7.toInt64))))) (fun (x8 : Int64) =>
    zv (wl σ 0 x8) (fun (s9 : zS) =>
    zy1 (fX7_finds_59 x5 500 0 s9) (fun (s10 : zS) =>
    zy1 (fX7_findsGaps s10) (fun s11 =>
    zy1 (fX7_finds_125  500 0 0 s11) (fun (s12 : zS) =>
    some s12)))))))
set_option maxHeartbeats 4000000 in
set_option maxRecDepth 100000 in
theorem lX7_finds_59 {C : zK} {A : Nat → Nat} {cA : Nat → ClassId} (hC : zOK C (wM A cA) cX7_finds RX7 8 2 45) {v1 : Int32} : ∀ (n : Nat) (v2 : Int32) (σ : zS), zG C (wM A cA) 8 (fun q => zW C (wM A cA) 8 117 [(0, .ref (A 0))] [] q) (fX7_finds_59 v1 n v2 σ) 59 [(0, .ref (A 0)), (1, .int v1), (2, .int v2)] [] σ := by
  intro n
  induction n with
  | zero => intro v2 σ; exact gg_none (o := none)
  | succ n ih =>
    intro v2 σ
    rw [fX7_finds_59]
    refine gg_iload_n (pc := 59) hC dX7_finds_59 (i := 2) rfl 2 rfl ?_
    refine gg_aload_n (pc := 60) hC dX7_finds_60 (i := 0) rfl 0 rfl ?_
    refine gg_get (pc := 61) hC dX7_finds_61 fX7_81 0 pM_0 (v := .int (zi σ 0)) rfl ?_
    refine gg_icmp_ge (pc := 64) hC dX7_finds_64 (tgt := 117) rfl (fun _ => ?_) (fun _ => ?_)
    · exact gg_y (fun h => zW_lv [0] rfl h)
    · refine gg_aload_n (pc := 67) hC dX7_finds_67 (i := 0) rfl 0 rfl ?_
      refine gg_get (pc := 68) hC dX7_finds_68 fX7_29 0 pM_0 (v := .ref (A 7)) rfl ?_
      refine gg_iload_n (pc := 71) hC dX7_finds_71 (i := 2) rfl 2 rfl ?_
      refine gg_aload_n (pc := 72) hC dX7_finds_72 (i := 0) rfl 0 rfl ?_
      refine gg_get (pc := 73) hC dX7_finds_73 fX7_7 0 pM_0 (v := .ref (A 1)) rfl ?_
      refine gg_iload_n (pc := 76) hC dX7_finds_76 (i := 2) rfl 2 rfl ?_
      refine gg_iald (pc := 77) hC dX7_finds_77 1 0 pM_1 rfl ?_
      refine gg_bipush (pc := 78) hC dX7_finds_78 (x := 60) rfl ?_
      refine gg_idiv (pc := 80) hC dX7_finds_80 (by decide) ?_
      refine gg_i2l (pc := 81) hC dX7_finds_81 ?_
      refine gg_ldc2 (pc := 82) hC dX7_finds_82 qX7_130 ?_
      refine gg_lmul (pc := 85) hC dX7_finds_85 ?_
      refine gg_aload_n (pc := 86) hC dX7_finds_86 (i := 0) rfl 0 rfl ?_
      refine gg_get (pc := 87) hC dX7_finds_87 fX7_161 0 pM_0 (v := .long (zl σ 0)) rfl ?_
      refine gg_lmul (pc := 90) hC dX7_finds_90 ?_
      refine gg_aload_n (pc := 91) hC dX7_finds_91 (i := 0) rfl 0 rfl ?_
      refine gg_iload_n (pc := 92) hC dX7_finds_92 (i := 1) rfl 1 rfl ?_
      refine gg_aload_n (pc := 93) hC dX7_finds_93 (i := 0) rfl 0 rfl ?_
      refine gg_aload_n (pc := 94) hC dX7_finds_94 (i := 0) rfl 0 rfl ?_
      refine gg_get (pc := 95) hC dX7_finds_95 fX7_7 0 pM_0 (v := .ref (A 1)) rfl ?_
      refine gg_iload_n (pc := 98) hC dX7_finds_98 (i := 2) rfl 2 rfl ?_
      refine gg_iald (pc := 99) hC dX7_finds_99 1 0 pM_1 rfl ?_
      refine gg_bipush (pc := 100) hC dX7_finds_100 (x := 60) rfl ?_
      refine gg_irem (pc := 102) hC dX7_finds_102 (by decide) ?_
      refine gg_callVIr (pc := 103) hC dX7_finds_103 vX7_113 (fun _ h => mX7_codeOf h) (Nat.le_of_ble_eq_true rfl) (Nat.le_of_ble_eq_true rfl) (As := [.int ((za σ 0 v2.toNatClampNeg) - (za σ 0 v2.toNatClampNeg) / 60 * 60)]) (rest := [.int v1, .ref (A 0), .long (((((za σ 0 v2.toNatClampNeg) / 60).toInt64) * (60 : Int64)) * (zl σ 0)), .int v2, .ref (A 7)]) rfl rfl (Nat.le_of_ble_eq_true rfl) 0 7 pM_0 rfl (fun x1 => ?_)
      refine gg_callVLr (pc := 106) hC dX7_finds_106 vX7_170 (fun _ h => mX7_partBy h) (Nat.le_of_ble_eq_true rfl) (Nat.le_of_ble_eq_true rfl) (As := [.int v1, .int x1]) (rest := [.long (((((za σ 0 v2.toNatClampNeg) / 60).toInt64) * (60 : Int64)) * (zl σ 0)), .int v2, .ref (A 7)]) rfl rfl (Nat.le_of_ble_eq_true rfl) 0 7 pM_0 rfl (fun x2 => ?_)
      refine gg_ladd (pc := 109) hC dX7_finds_109 ?_
      refine gg_last (pc := 110) hC dX7_finds_110 7 1 pM_7 rfl sM_7 ?_
      refine gg_zvs (fun s3 => ?_)
      refine gg_iinc (pc := 111) hC dX7_finds_111 (y := 0) (j := 2) rfl (z := 1) rfl (Nat.le_of_ble_eq_true rfl) (lv' := [(2, .int (v2 + 1)), (0, .ref (A 0)), (1, .int v1)]) rfl ?_
      refine gg_goto (pc := 114) hC dX7_finds_114 (tgt := 59) rfl ?_
      exact gg_lv [1, 2, 0] rfl (ih _ _)
set_option maxHeartbeats 4000000 in
set_option maxRecDepth 100000 in
theorem lX7_finds_125 {C : zK} {A : Nat → Nat} {cA : Nat → ClassId} (hC : zOK C (wM A cA) cX7_finds RX7 8 2 45) : ∀ (n : Nat) (v2 : Int32) (v3 : Int32) (σ : zS), zG C (wM A cA) 8 (fun q => zW C (wM A cA) 8 301 [] [] q) (fX7_finds_125  n v2 v3 σ) 125 [(0, .ref (A 0)), (2, .int v2), (3, .int v3)] [] σ := by
  intro n
  induction n with
  | zero => intro v2 v3 σ; exact gg_none (o := none)
  | succ n ih =>
    intro v2 v3 σ
    rw [fX7_finds_125]
    refine gg_iload_n (pc := 125) hC dX7_finds_125 (i := 3) rfl 2 rfl ?_
    refine gg_aload_n (pc := 126) hC dX7_finds_126 (i := 0) rfl 0 rfl ?_
    refine gg_get (pc := 127) hC dX7_finds_127 fX7_81 0 pM_0 (v := .int (zi σ 0)) rfl ?_
    refine gg_icmp_ge (pc := 130) hC dX7_finds_130 (tgt := 301) rfl (fun _ => ?_) (fun _ => ?_)
    · exact gg_y (fun h => zW_lv [] rfl h)
    · refine gg_aload_n (pc := 133) hC dX7_finds_133 (i := 0) rfl 0 rfl ?_
      refine gg_get (pc := 134) hC dX7_finds_134 fX7_33 0 pM_0 (v := .ref (A 8)) rfl ?_
      refine gg_iload_n (pc := 137) hC dX7_finds_137 (i := 3) rfl 2 rfl ?_
      refine gg_iload_n (pc := 138) hC dX7_finds_138 (i := 3) rfl 2 rfl ?_
      refine gg_aload_n (pc := 139) hC dX7_finds_139 (i := 0) rfl 0 rfl ?_
      refine gg_get (pc := 140) hC dX7_finds_140 fX7_156 0 pM_0 (v := .int (zi σ 3)) rfl ?_
      refine gg_iconst (pc := 143) hC dX7_finds_143 (x := 1) rfl ?_
      refine gg_join1 (E' := (fun q => zW C (wM A cA) 8 152 [(0, .ref (A 0)), (2, .int v2), (3, .int v3)] [.int q, .int v3, .int v3, .ref (A 8)] σ)) ?_ (fun x1 => ?_)
      · refine gg_icmp_ne (pc := 144) hC dX7_finds_144 (tgt := 151) rfl (fun _ => ?_) (fun _ => ?_)
        · refine gg_iload_n (pc := 147) hC dX7_finds_147 (i := 2) rfl 1 rfl ?_
          refine gg_goto (pc := 148) hC dX7_finds_148 (tgt := 152) rfl ?_
          exact gg_y (fun h => zW_lv [0, 1, 2] rfl h)
        · refine gg_iconst (pc := 151) hC dX7_finds_151 (x := 0) rfl ?_
          exact gg_y (fun h => zW_lv [0, 1, 2] rfl h)
      · show zG C (wM A cA) 8 _ _ 152 [(0, .ref (A 0)), (2, .int v2), (3, .int v3)] [.int x1, .int v3, .int v3, .ref (A 8)] σ
        refine gg_iadd (pc := 152) hC dX7_finds_152 ?_
        refine gg_iast (pc := 153) hC dX7_finds_153 8 0 pM_8 rfl sM_8 ?_
        refine gg_zvs (fun s2 => ?_)
        refine gg_iload_n (pc := 154) hC dX7_finds_154 (i := 3) rfl 2 rfl ?_
        refine gg_iconst (pc := 155) hC dX7_finds_155 (x := 1) rfl ?_
        refine gg_iadd (pc := 156) hC dX7_finds_156 ?_
        refine gg_aload_n (pc := 157) hC dX7_finds_157 (i := 0) rfl 0 rfl ?_
        refine gg_get (pc := 158) hC dX7_finds_158 fX7_81 0 pM_0 (v := .int (zi s2 0)) rfl ?_
        refine gg_join1 (E' := (fun q => zW C (wM A cA) 8 183 [(0, .ref (A 0)), (2, .int v2), (3, .int v3)] [.long q] s2)) ?_ (fun x3 => ?_)
        · refine gg_icmp_ge (pc := 161) hC dX7_finds_161 (tgt := 182) rfl (fun _ => ?_) (fun _ => ?_)
          · refine gg_lconst (pc := 182) hC dX7_finds_182 (x := 0) rfl ?_
            exact gg_y (fun h => zW_lv [0, 1, 2] rfl h)
          · refine gg_aload_n (pc := 164) hC dX7_finds_164 (i := 0) rfl 0 rfl ?_
            refine gg_get (pc := 165) hC dX7_finds_165 fX7_29 0 pM_0 (v := .ref (A 7)) rfl ?_
            refine gg_iload_n (pc := 168) hC dX7_finds_168 (i := 3) rfl 2 rfl ?_
            refine gg_iconst (pc := 169) hC dX7_finds_169 (x := 1) rfl ?_
            refine gg_iadd (pc := 170) hC dX7_finds_170 ?_
            refine gg_lald (pc := 171) hC dX7_finds_171 7 1 pM_7 rfl ?_
            refine gg_aload_n (pc := 172) hC dX7_finds_172 (i := 0) rfl 0 rfl ?_
            refine gg_get (pc := 173) hC dX7_finds_173 fX7_29 0 pM_0 (v := .ref (A 7)) rfl ?_
            refine gg_iload_n (pc := 176) hC dX7_finds_176 (i := 3) rfl 2 rfl ?_
            refine gg_lald (pc := 177) hC dX7_finds_177 7 1 pM_7 rfl ?_
            refine gg_lsub (pc := 178) hC dX7_finds_178 ?_
            refine gg_goto (pc := 179) hC dX7_finds_179 (tgt := 183) rfl ?_
            exact gg_y (fun h => zW_lv [0, 1, 2] rfl h)
        · show zG C (wM A cA) 8 _ _ 183 [(0, .ref (A 0)), (2, .int v2), (3, .int v3)] [.long x3] s2
          refine gg_lstore (pc := 183) hC dX7_finds_183 (Nat.le_of_ble_eq_true rfl) (lv' := [(4, .long x3), (0, .ref (A 0)), (2, .int v2), (3, .int v3)]) rfl ?_
          refine gg_aload_n (pc := 185) hC dX7_finds_185 (i := 0) rfl 1 rfl ?_
          refine gg_get (pc := 186) hC dX7_finds_186 fX7_165 0 pM_0 (v := .long (zl s2 1)) rfl ?_
          refine gg_lconst (pc := 189) hC dX7_finds_189 (x := 0) rfl ?_
          refine gg_join1 (E' := (fun q => zW C (wM A cA) 8 230 [(0, .ref (A 0)), (2, .int v2), (3, .int v3)] [.long q] s2)) ?_ (fun x4 => ?_)
          · refine gg_lcmp_le (pc := 190) hC dX7_finds_190 dX7_finds_191 (tgt := 229) rfl (fun _ => ?_) (fun _ => ?_)
            · refine gg_lconst (pc := 229) hC dX7_finds_229 (x := 0) rfl ?_
              exact gg_y (fun h => zW_lv [1, 2, 3] rfl h)
            · refine gg_iload_n (pc := 194) hC dX7_finds_194 (i := 3) rfl 3 rfl ?_
              refine gg_iconst (pc := 195) hC dX7_finds_195 (x := 1) rfl ?_
              refine gg_iadd (pc := 196) hC dX7_finds_196 ?_
              refine gg_aload_n (pc := 197) hC dX7_finds_197 (i := 0) rfl 1 rfl ?_
              refine gg_get (pc := 198) hC dX7_finds_198 fX7_81 0 pM_0 (v := .int (zi s2 0)) rfl ?_
              refine gg_icmp_ge (pc := 201) hC dX7_finds_201 (tgt := 229) rfl (fun _ => ?_) (fun _ => ?_)
              · refine gg_lconst (pc := 229) hC dX7_finds_229 (x := 0) rfl ?_
                exact gg_y (fun h => zW_lv [1, 2, 3] rfl h)
              · refine gg_ldc2 (pc := 204) hC dX7_finds_204 qX7_168 ?_
                refine gg_lload (pc := 207) hC dX7_finds_207 0 rfl ?_
                refine gg_lmul (pc := 209) hC dX7_finds_209 ?_
                refine gg_aload_n (pc := 210) hC dX7_finds_210 (i := 0) rfl 1 rfl ?_
                refine gg_get (pc := 211) hC dX7_finds_211 fX7_165 0 pM_0 (v := .long (zl s2 1)) rfl ?_
                refine gg_ladd (pc := 214) hC dX7_finds_214 ?_
                refine gg_ldc2 (pc := 215) hC dX7_finds_215 qX7_168 ?_
                refine gg_aload_n (pc := 218) hC dX7_finds_218 (i := 0) rfl 1 rfl ?_
                refine gg_get (pc := 219) hC dX7_finds_219 fX7_165 0 pM_0 (v := .long (zl s2 1)) rfl ?_
                refine gg_lmul (pc := 222) hC dX7_finds_222 ?_
                refine gg_ldiv_g (pc := 223) hC dX7_finds_223 ?_
                refine gg_lconst (pc := 224) hC dX7_finds_224 (x := 1) rfl ?_
                refine gg_lsub (pc := 225) hC dX7_finds_225 ?_
                refine gg_goto (pc := 226) hC dX7_finds_226 (tgt := 230) rfl ?_
                exact gg_y (fun h => zW_lv [1, 2, 3] rfl h)
          · show zG C (wM A cA) 8 _ _ 230 [(0, .ref (A 0)), (2, .int v2), (3, .int v3)] [.long x4] s2
            refine gg_lstore (pc := 230) hC dX7_finds_230 (Nat.le_of_ble_eq_true rfl) (lv' := [(6, .long x4), (0, .ref (A 0)), (2, .int v2), (3, .int v3)]) rfl ?_
            refine gg_aload_n (pc := 232) hC dX7_finds_232 (i := 0) rfl 1 rfl ?_
            refine gg_get (pc := 233) hC dX7_finds_233 fX7_39 0 pM_0 (v := .ref (A 10)) rfl ?_
            refine gg_iload_n (pc := 236) hC dX7_finds_236 (i := 3) rfl 3 rfl ?_
            refine gg_lload (pc := 237) hC dX7_finds_237 0 rfl ?_
            refine gg_ldc2 (pc := 239) hC dX7_finds_239 qX7_176 ?_
            refine gg_join1 (E' := (fun q => zW C (wM A cA) 8 251 [(0, .ref (A 0)), (2, .int v2), (3, .int v3), (6, .long x4)] [.int q, .int v3, .ref (A 10)] s2)) ?_ (fun x5 => ?_)
            · refine gg_lcmp_le (pc := 242) hC dX7_finds_242 dX7_finds_243 (tgt := 250) rfl (fun _ => ?_) (fun _ => ?_)
              · refine gg_iconst (pc := 250) hC dX7_finds_250 (x := 0) rfl ?_
                exact gg_y (fun h => zW_lv [1, 2, 3, 0] rfl h)
              · refine gg_iconst (pc := 246) hC dX7_finds_246 (x := 1) rfl ?_
                refine gg_goto (pc := 247) hC dX7_finds_247 (tgt := 251) rfl ?_
                exact gg_y (fun h => zW_lv [1, 2, 3, 0] rfl h)
            · show zG C (wM A cA) 8 _ _ 251 [(0, .ref (A 0)), (2, .int v2), (3, .int v3), (6, .long x4)] [.int x5, .int v3, .ref (A 10)] s2
              refine gg_zast (pc := 251) hC dX7_finds_251 10 2 pM_10 rfl sM_10 ?_
              refine gg_zvs (fun s6 => ?_)
              refine gg_aload_n (pc := 252) hC dX7_finds_252 (i := 0) rfl 0 rfl ?_
              refine gg_get (pc := 253) hC dX7_finds_253 fX7_36 0 pM_0 (v := .ref (A 9)) rfl ?_
              refine gg_iload_n (pc := 256) hC dX7_finds_256 (i := 3) rfl 2 rfl ?_
              refine gg_lload (pc := 257) hC dX7_finds_257 3 rfl ?_
              refine gg_lconst (pc := 259) hC dX7_finds_259 (x := 0) rfl ?_
              refine gg_join1 (E' := (fun q => zW C (wM A cA) 8 285 [(0, .ref (A 0)), (2, .int v2), (3, .int v3)] [.int q, .int v3, .ref (A 9)] s6)) ?_ (fun x7 => ?_)
              · refine gg_lcmp_ge (pc := 260) hC dX7_finds_260 dX7_finds_261 (tgt := 268) rfl (fun _ => ?_) (fun _ => ?_)
                · refine gg_lload (pc := 268) hC dX7_finds_268 3 rfl ?_
                  refine gg_ldc2 (pc := 270) hC dX7_finds_270 qX7_176 ?_
                  refine gg_lcmp_le (pc := 273) hC dX7_finds_273 dX7_finds_274 (tgt := 282) rfl (fun _ => ?_) (fun _ => ?_)
                  · refine gg_lload (pc := 282) hC dX7_finds_282 3 rfl ?_
                    refine gg_l2i (pc := 284) hC dX7_finds_284 ?_
                    exact gg_y (fun h => zW_lv [0, 1, 2] rfl h)
                  · refine gg_bipush (pc := 277) hC dX7_finds_277 (x := 9) rfl ?_
                    refine gg_goto (pc := 279) hC dX7_finds_279 (tgt := 285) rfl ?_
                    exact gg_y (fun h => zW_lv [0, 1, 2] rfl h)
                · refine gg_iconst (pc := 264) hC dX7_finds_264 (x := 0) rfl ?_
                  refine gg_goto (pc := 265) hC dX7_finds_265 (tgt := 285) rfl ?_
                  exact gg_y (fun h => zW_lv [0, 1, 2] rfl h)
              · show zG C (wM A cA) 8 _ _ 285 [(0, .ref (A 0)), (2, .int v2), (3, .int v3)] [.int x7, .int v3, .ref (A 9)] s6
                refine gg_iast (pc := 285) hC dX7_finds_285 9 0 pM_9 rfl sM_9 ?_
                refine gg_zvs (fun s8 => ?_)
                refine gg_iload_n (pc := 286) hC dX7_finds_286 (i := 2) rfl 1 rfl ?_
                refine gg_aload_n (pc := 287) hC dX7_finds_287 (i := 0) rfl 0 rfl ?_
                refine gg_get (pc := 288) hC dX7_finds_288 fX7_36 0 pM_0 (v := .ref (A 9)) rfl ?_
                refine gg_iload_n (pc := 291) hC dX7_finds_291 (i := 3) rfl 2 rfl ?_
                refine gg_iald (pc := 292) hC dX7_finds_292 9 0 pM_9 rfl ?_
                refine gg_iadd (pc := 293) hC dX7_finds_293 ?_
                refine gg_zvi (fun x9 => ?_)
                refine gg_istore_n (pc := 294) hC dX7_finds_294 (i := 2) rfl (Nat.le_of_ble_eq_true rfl) (lv' := [(2, .int x9), (0, .ref (A 0)), (3, .int v3)]) rfl ?_
                refine gg_iinc (pc := 295) hC dX7_finds_295 (y := 0) (j := 2) rfl (z := 1) rfl (Nat.le_of_ble_eq_true rfl) (lv' := [(3, .int (v3 + 1)), (2, .int x9), (0, .ref (A 0))]) rfl ?_
                refine gg_goto (pc := 298) hC dX7_finds_298 (tgt := 125) rfl ?_
                exact gg_lv [2, 1, 0] rfl (ih _ _ _)
set_option maxHeartbeats 4000000 in
set_option maxRecDepth 100000 in
theorem mX7_finds {l : Launch} {D : va_G} {A : Nat → Nat} {cA : Nat → ClassId}   {σ : zS} {r : zS} (h : fX7_finds  σ = some r) : zMV l D (wM A cA) yX7_finds (zws yX7_finds cX7_finds 8 none) 2 45 [.ref (A 0)] σ r := by
  refine zm_V (lv := [(0, .ref (A 0))]) rfl sM_ok (Nat.le_of_ble_eq_true rfl) rfl (fun C _ _ hC hR => ?_) h
  unfold fX7_finds
  refine gg_aload_n (pc := 0) hC dX7_finds_0 (i := 0) rfl 0 rfl ?_
  refine gg_callVIr (pc := 1) hC dX7_finds_1 vX7_150 (fun _ h => mX7_modeNow h) (Nat.le_of_ble_eq_true rfl) (Nat.le_of_ble_eq_true rfl) (As := []) (rest := []) rfl rfl (Nat.le_of_ble_eq_true rfl) 0 7 pM_0 rfl (fun x1 => ?_)
  refine gg_iconst (pc := 4) hC dX7_finds_4 (x := 1) rfl ?_
  refine gg_join1 (E' := (fun q => zW C (wM A cA) 8 23 [(0, .ref (A 0))] [.int q] σ)) ?_ (fun x5 => ?_)
  · refine gg_icmp_ne (pc := 5) hC dX7_finds_5 (tgt := 19) rfl (fun _ => ?_) (fun _ => ?_)
    · refine gg_aload_n (pc := 8) hC dX7_finds_8 (i := 0) rfl 0 rfl ?_
      refine gg_callVIr (pc := 9) hC dX7_finds_9 vX7_103 (fun _ h => mX7_allHits h) (Nat.le_of_ble_eq_true rfl) (Nat.le_of_ble_eq_true rfl) (As := []) (rest := []) rfl rfl (Nat.le_of_ble_eq_true rfl) 0 7 pM_0 rfl (fun x2 => ?_)
      refine gg_if_ne (pc := 12) hC dX7_finds_12 (tgt := 19) rfl (fun _ => ?_) (fun _ => ?_)
      · refine gg_iconst (pc := 15) hC dX7_finds_15 (x := 0) rfl ?_
        refine gg_goto (pc := 16) hC dX7_finds_16 (tgt := 23) rfl ?_
        exact gg_y (fun h => zW_lv [0] rfl h)
      · refine gg_aload_n (pc := 19) hC dX7_finds_19 (i := 0) rfl 0 rfl ?_
        refine gg_callVIr (pc := 20) hC dX7_finds_20 vX7_150 (fun _ h => mX7_modeNow h) (Nat.le_of_ble_eq_true rfl) (Nat.le_of_ble_eq_true rfl) (As := []) (rest := []) rfl rfl (Nat.le_of_ble_eq_true rfl) 0 7 pM_0 rfl (fun x3 => ?_)
        exact gg_y (fun h => zW_lv [0] rfl h)
    · refine gg_aload_n (pc := 19) hC dX7_finds_19 (i := 0) rfl 0 rfl ?_
      refine gg_callVIr (pc := 20) hC dX7_finds_20 vX7_150 (fun _ h => mX7_modeNow h) (Nat.le_of_ble_eq_true rfl) (Nat.le_of_ble_eq_true rfl) (As := []) (rest := []) rfl rfl (Nat.le_of_ble_eq_true rfl) 0 7 pM_0 rfl (fun x4 => ?_)
      exact gg_y (fun h => zW_lv [0] rfl h)
  · show zG C (wM A cA) 8 _ _ 23 [(0, .ref (A 0))] [.int x5] σ
    refine gg_istore_n (pc := 23) hC dX7_finds_23 (i := 1) rfl (Nat.le_of_ble_eq_true rfl) (lv' := [(1, .int x5), (0, .ref (A 0))]) rfl ?_
    refine gg_aload_n (pc := 24) hC dX7_finds_24 (i := 0) rfl 1 rfl ?_
    refine gg_iload_n (pc := 25) hC dX7_finds_25 (i := 1) rfl 0 rfl ?_
    refine gg_iconst (pc := 26) hC dX7_finds_26 (x := 2) rfl ?_
    refine gg_join1 (E' := (fun q => zW C (wM A cA) 8 54 [(0, .ref (A 0)), (1, .int x5)] [.long q, .ref (A 0)] σ)) ?_ (fun x8 => ?_)
    · refine gg_icmp_ne (pc := 27) hC dX7_finds_27 (tgt := 36) rfl (fun _ => ?_) (fun _ => ?_)
      · refine gg_ldc2 (pc := 30) hC dX7_finds_30 qX7_168 ?_
        refine gg_goto (pc := 33) hC dX7_finds_33 (tgt := 54) rfl ?_
        exact gg_y (fun h => zW_lv [1, 0] rfl h)
      · refine gg_iload_n (pc := 36) hC dX7_finds_36 (i := 1) rfl 0 rfl ?_
        refine gg_iconst (pc := 37) hC dX7_finds_37 (x := 1) rfl ?_
        refine gg_icmp_ne (pc := 38) hC dX7_finds_38 (tgt := 49) rfl (fun _ => ?_) (fun _ => ?_)
        · refine gg_aload_n (pc := 41) hC dX7_finds_41 (i := 0) rfl 1 rfl ?_
          refine gg_callVIr (pc := 42) hC dX7_finds_42 vX7_103 (fun _ h => mX7_allHits h) (Nat.le_of_ble_eq_true rfl) (Nat.le_of_ble_eq_true rfl) (As := []) (rest := [.ref (A 0)]) rfl rfl (Nat.le_of_ble_eq_true rfl) 0 7 pM_0 rfl (fun x6 => ?_)
          refine gg_i2l (pc := 45) hC dX7_finds_45 ?_
          refine gg_goto (pc := 46) hC dX7_finds_46 (tgt := 54) rfl ?_
          exact gg_y (fun h => zW_lv [1, 0] rfl h)
        · refine gg_aload_n (pc := 49) hC dX7_finds_49 (i := 0) rfl 1 rfl ?_
          refine gg_callVIr (pc := 50) hC dX7_finds_50 vX7_107 (fun _ h => mX7_bins h) (Nat.le_of_ble_eq_true rfl) (Nat.le_of_ble_eq_true rfl) (As := []) (rest := [.ref (A 0)]) rfl rfl (Nat.le_of_ble_eq_true rfl) 0 7 pM_0 rfl (fun x7 => ?_)
          refine gg_i2l (pc := 53) hC dX7_finds_53 ?_
          exact gg_y (fun h => zW_lv [1, 0] rfl h)
    · show zG C (wM A cA) 8 _ _ 54 [(0, .ref (A 0)), (1, .int x5)] [.long x8, .ref (A 0)] σ
      refine gg_put (pc := 54) hC dX7_finds_54 fX7_161 tX7_2 0 pM_0 rfl rfl rfl (Nat.le_of_ble_eq_true rfl) sM_0_15 ?_
      refine gg_zvs (fun s9 => ?_)
      refine gg_iconst (pc := 57) hC dX7_finds_57 (x := 0) rfl ?_
      refine gg_istore_n (pc := 58) hC dX7_finds_58 (i := 2) rfl (Nat.le_of_ble_eq_true rfl) (lv' := [(2, .int 0), (0, .ref (A 0)), (1, .int x5)]) rfl ?_
      refine gg_join1 (E' := (fun q => zW C (wM A cA) 8 117 [(0, .ref (A 0))] [] q)) (gg_lv [1, 2, 0] rfl (lX7_finds_59 hC  500 _ _)) (fun s10 => ?_)
      show zG C (wM A cA) 8 _ _ 117 [(0, .ref (A 0))] [] s10
      refine gg_aload_n (pc := 117) hC dX7_finds_117 (i := 0) rfl 0 rfl ?_
      refine gg_callVV (pc := 118) hC dX7_finds_118 vX7_173 (fun _ h => mX7_findsGaps h) (Nat.le_of_ble_eq_true rfl) (Nat.le_of_ble_eq_true rfl) (As := []) (rest := []) rfl rfl (Nat.le_of_ble_eq_true rfl) 0 7 pM_0 rfl (fun s11 => ?_)
      refine gg_iconst (pc := 121) hC dX7_finds_121 (x := 0) rfl ?_
      refine gg_istore_n (pc := 122) hC dX7_finds_122 (i := 2) rfl (Nat.le_of_ble_eq_true rfl) (lv' := [(2, .int 0), (0, .ref (A 0))]) rfl ?_
      refine gg_iconst (pc := 123) hC dX7_finds_123 (x := 0) rfl ?_
      refine gg_istore_n (pc := 124) hC dX7_finds_124 (i := 3) rfl (Nat.le_of_ble_eq_true rfl) (lv' := [(3, .int 0), (2, .int 0), (0, .ref (A 0))]) rfl ?_
      refine gg_join1 (E' := (fun q => zW C (wM A cA) 8 301 [] [] q)) (gg_lv [2, 1, 0] rfl (lX7_finds_125 hC  500 _ _ _)) (fun s12 => ?_)
      show zG C (wM A cA) 8 _ _ 301 [] [] s12
      exact gg_vret (pc := 301) hR dX7_finds_301
def fX7_breaksNow_8 (σ : zS) : Nat → Int32 → Int32 → Option (Int32)
  | 0, _, _ => none
  | n + 1, v1, v2 =>
    if (zi σ 0) ≤ v2 then (some v1) else
    (zg (zq v2 32) (zy1 (if (za σ 8 v2.toNatClampNeg) = 0 then (some 0) else
    (some 1)) (fun (x1 : Int32) =>
    zv (v1 + x1) (fun (x2 : Int32) =>
    fX7_breaksNow_8 σ n x2 (v2 + 1)))))
def fX7_breaksNow  (σ : zS) : Option (Int32 × zS) :=
    zy1 (fX7_finds σ) (fun s1 =>
    zy1 (fX7_breaksNow_8 s1 500 0 0) (fun (x2 : Int32) =>
    some (x2, s1)))
set_option maxHeartbeats 4000000 in
set_option maxRecDepth 100000 in
theorem lX7_breaksNow_8 {C : zK} {A : Nat → Nat} {cA : Nat → ClassId} (hC : zOK C (wM A cA) cX7_breaksNow RX7 3 3 72) {σ : zS} : ∀ (n : Nat) (v1 : Int32) (v2 : Int32), zG C (wM A cA) 3 (fun q => zW C (wM A cA) 3 39 [(1, .int q)] [] σ) (fX7_breaksNow_8 σ n v1 v2) 8 [(0, .ref (A 0)), (1, .int v1), (2, .int v2)] [] σ := by
  intro n
  induction n with
  | zero => intro v1 v2; exact gg_none (o := none)
  | succ n ih =>
    intro v1 v2
    rw [fX7_breaksNow_8]
    refine gg_iload_n (pc := 8) hC dX7_breaksNow_8 (i := 2) rfl 2 rfl ?_
    refine gg_aload_n (pc := 9) hC dX7_breaksNow_9 (i := 0) rfl 0 rfl ?_
    refine gg_get (pc := 10) hC dX7_breaksNow_10 fX7_81 0 pM_0 (v := .int (zi σ 0)) rfl ?_
    refine gg_icmp_ge (pc := 13) hC dX7_breaksNow_13 (tgt := 39) rfl (fun _ => ?_) (fun _ => ?_)
    · exact gg_y (fun h => zW_lv [1] rfl h)
    · refine gg_iload_n (pc := 16) hC dX7_breaksNow_16 (i := 1) rfl 1 rfl ?_
      refine gg_aload_n (pc := 17) hC dX7_breaksNow_17 (i := 0) rfl 0 rfl ?_
      refine gg_get (pc := 18) hC dX7_breaksNow_18 fX7_39 0 pM_0 (v := .ref (A 10)) rfl ?_
      refine gg_iload_n (pc := 21) hC dX7_breaksNow_21 (i := 2) rfl 2 rfl ?_
      refine gg_zald (pc := 22) hC dX7_breaksNow_22 10 2 pM_10 rfl ?_
      refine gg_join1 (E' := (fun q => zW C (wM A cA) 3 31 [(0, .ref (A 0)), (2, .int v2)] [.int q, .int v1] σ)) ?_ (fun x1 => ?_)
      · refine gg_if_eq (pc := 23) hC dX7_breaksNow_23 (tgt := 30) rfl (fun _ => ?_) (fun _ => ?_)
        · refine gg_iconst (pc := 30) hC dX7_breaksNow_30 (x := 0) rfl ?_
          exact gg_y (fun h => zW_lv [0, 2] rfl h)
        · refine gg_iconst (pc := 26) hC dX7_breaksNow_26 (x := 1) rfl ?_
          refine gg_goto (pc := 27) hC dX7_breaksNow_27 (tgt := 31) rfl ?_
          exact gg_y (fun h => zW_lv [0, 2] rfl h)
      · show zG C (wM A cA) 3 _ _ 31 [(0, .ref (A 0)), (2, .int v2)] [.int x1, .int v1] σ
        refine gg_iadd (pc := 31) hC dX7_breaksNow_31 ?_
        refine gg_zvi (fun x2 => ?_)
        refine gg_istore_n (pc := 32) hC dX7_breaksNow_32 (i := 1) rfl (Nat.le_of_ble_eq_true rfl) (lv' := [(1, .int x2), (0, .ref (A 0)), (2, .int v2)]) rfl ?_
        refine gg_iinc (pc := 33) hC dX7_breaksNow_33 (y := 0) (j := 2) rfl (z := 1) rfl (Nat.le_of_ble_eq_true rfl) (lv' := [(2, .int (v2 + 1)), (1, .int x2), (0, .ref (A 0))]) rfl ?_
        refine gg_goto (pc := 36) hC dX7_breaksNow_36 (tgt := 8) rfl ?_
        exact gg_lv [2, 1, 0] rfl (ih _ _)
set_option maxHeartbeats 4000000 in
set_option maxRecDepth 100000 in
theorem mX7_breaksNow {l : Launch} {D : va_G} {A : Nat → Nat} {cA : Nat → ClassId}   {σ : zS} {r : Int32 × zS} (h : fX7_breaksNow  σ = some r) : zMI l D (wM A cA) yX7_breaksNow (zws yX7_breaksNow cX7_breaksNow 3 (some .int)) 3 72 [.ref (A 0)] σ r := by
  refine zm_I (lv := [(0, .ref (A 0))]) rfl sM_ok (Nat.le_of_ble_eq_true rfl) rfl (fun C _ _ hC hR => ?_) h
  unfold fX7_breaksNow
  refine gg_aload_n (pc := 0) hC dX7_breaksNow_0 (i := 0) rfl 0 rfl ?_
  refine gg_callVV (pc := 1) hC dX7_breaksNow_1 vX7_178 (fun _ h => mX7_finds h) (Nat.le_of_ble_eq_true rfl) (Nat.le_of_ble_eq_true rfl) (As := []) (rest := []) rfl rfl (Nat.le_of_ble_eq_true rfl) 0 7 pM_0 rfl (fun s1 => ?_)
  refine gg_iconst (pc := 4) hC dX7_breaksNow_4 (x := 0) rfl ?_
  refine gg_istore_n (pc := 5) hC dX7_breaksNow_5 (i := 1) rfl (Nat.le_of_ble_eq_true rfl) (lv' := [(1, .int 0), (0, .ref (A 0))]) rfl ?_
  refine gg_iconst (pc := 6) hC dX7_breaksNow_6 (x := 0) rfl ?_
  refine gg_istore_n (pc := 7) hC dX7_breaksNow_7 (i := 2) rfl (Nat.le_of_ble_eq_true rfl) (lv' := [(2, .int 0), (1, .int 0), (0, .ref (A 0))]) rfl ?_
  refine gg_join1 (E' := (fun q => zW C (wM A cA) 3 39 [(1, .int q)] [] s1)) (gg_lv [2, 1, 0] rfl (lX7_breaksNow_8 hC  500 _ _)) (fun x2 => ?_)
  show zG C (wM A cA) 3 _ _ 39 [(1, .int x2)] [] s1
  refine gg_iload_n (pc := 39) hC dX7_breaksNow_39 (i := 1) rfl 0 rfl ?_
  exact gg_iret (pc := 40) hR dX7_breaksNow_40
def fX7_nextBy_10 (v1 : Int32) (v2 : Int32) (σ : zS) : Nat → Int32 → Int32 → Option (Int32)
  | 0, _, _ => none
  | n + 1, v3, v4 =>
    if v4 ≤ v1 then (some v3) else
    (zg (zq v4 32) (zg (zq v1 32) (zy1 (if (((za σ 0 v4.toNatClampNeg) / 60) - ((za σ 0 v1.toNatClampNeg) / 60)) < v2 then (some v3) else
    (some v4)) (fun (x1 : Int32) =>
    fX7_nextBy_10 v1 v2 σ n x1 (v4 + (-1))))))
def fX7_nextBy (v1 : Int32) (v2 : Int32) (σ : zS) : Option (Int32) :=
    zv ((zi σ 0) - 1) (fun (x1 : Int32) =>
    zy1 (fX7_nextBy_10 v1 v2 σ 500 (-1 : Int32) x1) (fun (x2 : Int32) =>
    some x2))
set_option maxHeartbeats 4000000 in
set_option maxRecDepth 100000 in
theorem lX7_nextBy_10 {C : zK} {A : Nat → Nat} {cA : Nat → ClassId} (hC : zOK C (wM A cA) cX7_nextBy RX7 5 0 0) {v1 : Int32} {v2 : Int32} {σ : zS} : ∀ (n : Nat) (v3 : Int32) (v4 : Int32), zG C (wM A cA) 5 (fun q => zW C (wM A cA) 5 53 [(3, .int q)] [] σ) (fX7_nextBy_10 v1 v2 σ n v3 v4) 10 [(0, .ref (A 0)), (1, .int v1), (2, .int v2), (3, .int v3), (4, .int v4)] [] σ := by
  intro n
  induction n with
  | zero => intro v3 v4; exact gg_none (o := none)
  | succ n ih =>
    intro v3 v4
    rw [fX7_nextBy_10]
    refine gg_iload (pc := 10) hC dX7_nextBy_10 4 rfl ?_
    refine gg_iload_n (pc := 12) hC dX7_nextBy_12 (i := 1) rfl 1 rfl ?_
    refine gg_icmp_le (pc := 13) hC dX7_nextBy_13 (tgt := 53) rfl (fun _ => ?_) (fun _ => ?_)
    · exact gg_y (fun h => zW_lv [3] rfl h)
    · refine gg_aload_n (pc := 16) hC dX7_nextBy_16 (i := 0) rfl 0 rfl ?_
      refine gg_get (pc := 17) hC dX7_nextBy_17 fX7_7 0 pM_0 (v := .ref (A 1)) rfl ?_
      refine gg_iload (pc := 20) hC dX7_nextBy_20 4 rfl ?_
      refine gg_iald (pc := 22) hC dX7_nextBy_22 1 0 pM_1 rfl ?_
      refine gg_bipush (pc := 23) hC dX7_nextBy_23 (x := 60) rfl ?_
      refine gg_idiv (pc := 25) hC dX7_nextBy_25 (by decide) ?_
      refine gg_aload_n (pc := 26) hC dX7_nextBy_26 (i := 0) rfl 0 rfl ?_
      refine gg_get (pc := 27) hC dX7_nextBy_27 fX7_7 0 pM_0 (v := .ref (A 1)) rfl ?_
      refine gg_iload_n (pc := 30) hC dX7_nextBy_30 (i := 1) rfl 1 rfl ?_
      refine gg_iald (pc := 31) hC dX7_nextBy_31 1 0 pM_1 rfl ?_
      refine gg_bipush (pc := 32) hC dX7_nextBy_32 (x := 60) rfl ?_
      refine gg_idiv (pc := 34) hC dX7_nextBy_34 (by decide) ?_
      refine gg_isub (pc := 35) hC dX7_nextBy_35 ?_
      refine gg_iload_n (pc := 36) hC dX7_nextBy_36 (i := 2) rfl 2 rfl ?_
      refine gg_join1 (E' := (fun q => zW C (wM A cA) 5 46 [(0, .ref (A 0)), (1, .int v1), (2, .int v2), (4, .int v4)] [.int q] σ)) ?_ (fun x1 => ?_)
      · refine gg_icmp_lt (pc := 37) hC dX7_nextBy_37 (tgt := 45) rfl (fun _ => ?_) (fun _ => ?_)
        · refine gg_iload_n (pc := 45) hC dX7_nextBy_45 (i := 3) rfl 3 rfl ?_
          exact gg_y (fun h => zW_lv [0, 1, 2, 4] rfl h)
        · refine gg_iload (pc := 40) hC dX7_nextBy_40 4 rfl ?_
          refine gg_goto (pc := 42) hC dX7_nextBy_42 (tgt := 46) rfl ?_
          exact gg_y (fun h => zW_lv [0, 1, 2, 4] rfl h)
      · show zG C (wM A cA) 5 _ _ 46 [(0, .ref (A 0)), (1, .int v1), (2, .int v2), (4, .int v4)] [.int x1] σ
        refine gg_istore_n (pc := 46) hC dX7_nextBy_46 (i := 3) rfl (Nat.le_of_ble_eq_true rfl) (lv' := [(3, .int x1), (0, .ref (A 0)), (1, .int v1), (2, .int v2), (4, .int v4)]) rfl ?_
        refine gg_iinc (pc := 47) hC dX7_nextBy_47 (y := 0) (j := 4) rfl (z := -1) rfl (Nat.le_of_ble_eq_true rfl) (lv' := [(4, .int (v4 + (-1))), (3, .int x1), (0, .ref (A 0)), (1, .int v1), (2, .int v2)]) rfl ?_
        refine gg_goto (pc := 50) hC dX7_nextBy_50 (tgt := 10) rfl ?_
        exact gg_lv [2, 3, 4, 1, 0] rfl (ih _ _)
set_option maxHeartbeats 4000000 in
set_option maxRecDepth 100000 in
theorem mX7_nextBy {l : Launch} {D : va_G} {A : Nat → Nat} {cA : Nat → ClassId} {v1 : Int32} {v2 : Int32}  {σ : zS} {r : Int32} (h : fX7_nextBy v1 v2 σ = some r) : zMI l D (wM A cA) yX7_nextBy (zws yX7_nextBy cX7_nextBy 5 (some .int)) 0 0 [.ref (A 0), .int v1, .int v2] σ (r, σ) := by
  refine zm_Ir (lv := [(0, .ref (A 0)), (1, .int v1), (2, .int v2)]) rfl sM_ok (Nat.le_of_ble_eq_true rfl) rfl (fun C _ _ hC hR => ?_) h
  unfold fX7_nextBy
  refine gg_iconst (pc := 0) hC dX7_nextBy_0 (x := -1) rfl ?_
  refine gg_istore_n (pc := 1) hC dX7_nextBy_1 (i := 3) rfl (Nat.le_of_ble_eq_true rfl) (lv' := [(3, .int (-1 : Int32)), (0, .ref (A 0)), (1, .int v1), (2, .int v2)]) rfl ?_
  refine gg_aload_n (pc := 2) hC dX7_nextBy_2 (i := 0) rfl 1 rfl ?_
  refine gg_get (pc := 3) hC dX7_nextBy_3 fX7_81 0 pM_0 (v := .int (zi σ 0)) rfl ?_
  refine gg_iconst (pc := 6) hC dX7_nextBy_6 (x := 1) rfl ?_
  refine gg_isub (pc := 7) hC dX7_nextBy_7 ?_
  refine gg_zvi (fun x1 => ?_)
  refine gg_istore (pc := 8) hC dX7_nextBy_8 (Nat.le_of_ble_eq_true rfl) (lv' := [(4, .int x1), (3, .int (-1 : Int32)), (0, .ref (A 0)), (1, .int v1), (2, .int v2)]) rfl ?_
  refine gg_join1 (E' := (fun q => zW C (wM A cA) 5 53 [(3, .int q)] [] σ)) (gg_lv [2, 3, 4, 1, 0] rfl (lX7_nextBy_10 hC  500 _ _)) (fun x2 => ?_)
  show zG C (wM A cA) 5 _ _ 53 [(3, .int x2)] [] σ
  refine gg_iload_n (pc := 53) hC dX7_nextBy_53 (i := 3) rfl 0 rfl ?_
  exact gg_iretr (pc := 54) hR dX7_nextBy_54
def fX7_chainOf_36 (v1 : Int32) (v2 : Int32) (v3 : Int32) (σ : zS) : Nat → Int32 → Int32 → Int32 → Int32 → Int32 → Option (Int32 × Int32 × Int32)
  | 0, _, _, _, _, _ => none
  | n + 1, v4, v5, v6, v7, v8 =>
    if v5 = (-1 : Int32) then (some (v6, v7, v8)) else
    (zg (zq v5 32) (zg (zq v4 32) (zv (v7 + ((za σ 6 v5.toNatClampNeg) - (za σ 6 v4.toNatClampNeg))) (fun (x1 : Int32) =>
    zy1 (if v6 = v2 then (if v3 = 0 then (some v4) else
    (if v3 = 1 then (some v5) else
    (zg (zq v5 32) (zg (zq v4 32) (some ((za σ 6 v5.toNatClampNeg) - (za σ 6 v4.toNatClampNeg))))))) else
    (some v8)) (fun (x2 : Int32) =>
    zy1 (fX7_nextBy v5 v1 σ) (fun x3 =>
    fX7_chainOf_36 v1 v2 v3 σ n v5 x3 (v6 + 1) x1 x2))))))
def fX7_chainOf (v1 : Int32) (v2 : Int32) (v3 : Int32) (σ : zS) : Option (Int32 × zS) :=
    zy1 (fX7_finds σ) (fun s1 =>
    zy1 (if (zi s1 0) = 0 then (some (-1 : Int32)) else
    (zy1 (fX7_nextBy 0 v1 s1) (fun x2 =>
    some x2))) (fun (x3 : Int32) =>
    zy3 (fX7_chainOf_36 v1 v2 v3 s1 500 0 x3 0 0 (-2 : Int32)) (fun (x4 : Int32) (x5 : Int32) (x6 : Int32) =>
    if v3 = 3 then (some (x4, s1)) else
    (if v3 = 4 then (some (x5, s1)) else
    (some (x6, s1))))))
set_option maxHeartbeats 4000000 in
set_option maxRecDepth 100000 in
theorem lX7_chainOf_36 {C : zK} {A : Nat → Nat} {cA : Nat → ClassId} (hC : zOK C (wM A cA) cX7_chainOf RX7 9 3 72) {v1 : Int32} {v2 : Int32} {v3 : Int32} {σ : zS} : ∀ (n : Nat) (v4 : Int32) (v5 : Int32) (v6 : Int32) (v7 : Int32) (v8 : Int32), zG C (wM A cA) 9 (fun q => zW C (wM A cA) 9 128 [(3, .int v3), (6, .int q.1), (7, .int q.2.1), (8, .int q.2.2)] [] σ) (fX7_chainOf_36 v1 v2 v3 σ n v4 v5 v6 v7 v8) 36 [(0, .ref (A 0)), (1, .int v1), (2, .int v2), (3, .int v3), (4, .int v4), (5, .int v5), (6, .int v6), (7, .int v7), (8, .int v8)] [] σ := by
  intro n
  induction n with
  | zero => intro v4 v5 v6 v7 v8; exact gg_none (o := none)
  | succ n ih =>
    intro v4 v5 v6 v7 v8
    rw [fX7_chainOf_36]
    refine gg_iload (pc := 36) hC dX7_chainOf_36 5 rfl ?_
    refine gg_iconst (pc := 38) hC dX7_chainOf_38 (x := -1) rfl ?_
    refine gg_icmp_eq (pc := 39) hC dX7_chainOf_39 (tgt := 128) rfl (fun _ => ?_) (fun _ => ?_)
    · exact gg_y (fun h => zW_lv [3, 6, 7, 8] rfl h)
    · refine gg_iload (pc := 42) hC dX7_chainOf_42 7 rfl ?_
      refine gg_aload_n (pc := 44) hC dX7_chainOf_44 (i := 0) rfl 0 rfl ?_
      refine gg_get (pc := 45) hC dX7_chainOf_45 fX7_33 0 pM_0 (v := .ref (A 8)) rfl ?_
      refine gg_iload (pc := 48) hC dX7_chainOf_48 5 rfl ?_
      refine gg_iald (pc := 50) hC dX7_chainOf_50 8 0 pM_8 rfl ?_
      refine gg_aload_n (pc := 51) hC dX7_chainOf_51 (i := 0) rfl 0 rfl ?_
      refine gg_get (pc := 52) hC dX7_chainOf_52 fX7_33 0 pM_0 (v := .ref (A 8)) rfl ?_
      refine gg_iload (pc := 55) hC dX7_chainOf_55 4 rfl ?_
      refine gg_iald (pc := 57) hC dX7_chainOf_57 8 0 pM_8 rfl ?_
      refine gg_isub (pc := 58) hC dX7_chainOf_58 ?_
      refine gg_iadd (pc := 59) hC dX7_chainOf_59 ?_
      refine gg_zvi (fun x1 => ?_)
      refine gg_istore (pc := 60) hC dX7_chainOf_60 (Nat.le_of_ble_eq_true rfl) (lv' := [(7, .int x1), (0, .ref (A 0)), (1, .int v1), (2, .int v2), (3, .int v3), (4, .int v4), (5, .int v5), (6, .int v6), (8, .int v8)]) rfl ?_
      refine gg_iload (pc := 62) hC dX7_chainOf_62 7 rfl ?_
      refine gg_iload_n (pc := 64) hC dX7_chainOf_64 (i := 2) rfl 3 rfl ?_
      refine gg_join1 (E' := (fun q => zW C (wM A cA) 9 107 [(0, .ref (A 0)), (1, .int v1), (2, .int v2), (3, .int v3), (5, .int v5), (6, .int v6), (7, .int x1)] [.int q] σ)) ?_ (fun x2 => ?_)
      · refine gg_icmp_ne (pc := 65) hC dX7_chainOf_65 (tgt := 105) rfl (fun _ => ?_) (fun _ => ?_)
        · refine gg_iload_n (pc := 68) hC dX7_chainOf_68 (i := 3) rfl 4 rfl ?_
          refine gg_if_ne (pc := 69) hC dX7_chainOf_69 (tgt := 77) rfl (fun _ => ?_) (fun _ => ?_)
          · refine gg_iload (pc := 72) hC dX7_chainOf_72 5 rfl ?_
            refine gg_goto (pc := 74) hC dX7_chainOf_74 (tgt := 107) rfl ?_
            exact gg_y (fun h => zW_lv [1, 2, 3, 4, 6, 7, 0] rfl h)
          · refine gg_iload_n (pc := 77) hC dX7_chainOf_77 (i := 3) rfl 4 rfl ?_
            refine gg_iconst (pc := 78) hC dX7_chainOf_78 (x := 1) rfl ?_
            refine gg_icmp_ne (pc := 79) hC dX7_chainOf_79 (tgt := 87) rfl (fun _ => ?_) (fun _ => ?_)
            · refine gg_iload (pc := 82) hC dX7_chainOf_82 6 rfl ?_
              refine gg_goto (pc := 84) hC dX7_chainOf_84 (tgt := 107) rfl ?_
              exact gg_y (fun h => zW_lv [1, 2, 3, 4, 6, 7, 0] rfl h)
            · refine gg_aload_n (pc := 87) hC dX7_chainOf_87 (i := 0) rfl 1 rfl ?_
              refine gg_get (pc := 88) hC dX7_chainOf_88 fX7_33 0 pM_0 (v := .ref (A 8)) rfl ?_
              refine gg_iload (pc := 91) hC dX7_chainOf_91 6 rfl ?_
              refine gg_iald (pc := 93) hC dX7_chainOf_93 8 0 pM_8 rfl ?_
              refine gg_aload_n (pc := 94) hC dX7_chainOf_94 (i := 0) rfl 1 rfl ?_
              refine gg_get (pc := 95) hC dX7_chainOf_95 fX7_33 0 pM_0 (v := .ref (A 8)) rfl ?_
              refine gg_iload (pc := 98) hC dX7_chainOf_98 5 rfl ?_
              refine gg_iald (pc := 100) hC dX7_chainOf_100 8 0 pM_8 rfl ?_
              refine gg_isub (pc := 101) hC dX7_chainOf_101 ?_
              refine gg_goto (pc := 102) hC dX7_chainOf_102 (tgt := 107) rfl ?_
              exact gg_y (fun h => zW_lv [1, 2, 3, 4, 6, 7, 0] rfl h)
        · refine gg_iload (pc := 105) hC dX7_chainOf_105 8 rfl ?_
          exact gg_y (fun h => zW_lv [1, 2, 3, 4, 6, 7, 0] rfl h)
      · show zG C (wM A cA) 9 _ _ 107 [(0, .ref (A 0)), (1, .int v1), (2, .int v2), (3, .int v3), (5, .int v5), (6, .int v6), (7, .int x1)] [.int x2] σ
        refine gg_istore (pc := 107) hC dX7_chainOf_107 (Nat.le_of_ble_eq_true rfl) (lv' := [(8, .int x2), (0, .ref (A 0)), (1, .int v1), (2, .int v2), (3, .int v3), (5, .int v5), (6, .int v6), (7, .int x1)]) rfl ?_
        refine gg_iinc (pc := 109) hC dX7_chainOf_109 (y := 0) (j := 6) rfl (z := 1) rfl (Nat.le_of_ble_eq_true rfl) (lv' := [(6, .int (v6 + 1)), (8, .int x2), (0, .ref (A 0)), (1, .int v1), (2, .int v2), (3, .int v3), (5, .int v5), (7, .int x1)]) rfl ?_
        refine gg_iload (pc := 112) hC dX7_chainOf_112 6 rfl ?_
        refine gg_istore (pc := 114) hC dX7_chainOf_114 (Nat.le_of_ble_eq_true rfl) (lv' := [(4, .int v5), (6, .int (v6 + 1)), (8, .int x2), (0, .ref (A 0)), (1, .int v1), (2, .int v2), (3, .int v3), (5, .int v5), (7, .int x1)]) rfl ?_
        refine gg_aload_n (pc := 116) hC dX7_chainOf_116 (i := 0) rfl 3 rfl ?_
        refine gg_iload (pc := 117) hC dX7_chainOf_117 0 rfl ?_
        refine gg_iload_n (pc := 119) hC dX7_chainOf_119 (i := 1) rfl 4 rfl ?_
        refine gg_callVIr (pc := 120) hC dX7_chainOf_120 vX7_223 (fun _ h => mX7_nextBy h) (Nat.le_of_ble_eq_true rfl) (Nat.le_of_ble_eq_true rfl) (As := [.int v5, .int v1]) (rest := []) rfl rfl (Nat.le_of_ble_eq_true rfl) 0 7 pM_0 rfl (fun x3 => ?_)
        refine gg_istore (pc := 123) hC dX7_chainOf_123 (Nat.le_of_ble_eq_true rfl) (lv' := [(5, .int x3), (4, .int v5), (6, .int (v6 + 1)), (8, .int x2), (0, .ref (A 0)), (1, .int v1), (2, .int v2), (3, .int v3), (7, .int x1)]) rfl ?_
        refine gg_goto (pc := 125) hC dX7_chainOf_125 (tgt := 36) rfl ?_
        exact gg_lv [4, 5, 6, 7, 1, 0, 2, 8, 3] rfl (ih _ _ _ _ _)
set_option maxHeartbeats 4000000 in
set_option maxRecDepth 100000 in
theorem mX7_chainOf {l : Launch} {D : va_G} {A : Nat → Nat} {cA : Nat → ClassId} {v1 : Int32} {v2 : Int32} {v3 : Int32}  {σ : zS} {r : Int32 × zS} (h : fX7_chainOf v1 v2 v3 σ = some r) : zMI l D (wM A cA) yX7_chainOf (zws yX7_chainOf cX7_chainOf 9 (some .int)) 3 72 [.ref (A 0), .int v1, .int v2, .int v3] σ r := by
  refine zm_I (lv := [(0, .ref (A 0)), (1, .int v1), (2, .int v2), (3, .int v3)]) rfl sM_ok (Nat.le_of_ble_eq_true rfl) rfl (fun C _ _ hC hR => ?_) h
  unfold fX7_chainOf
  refine gg_aload_n (pc := 0) hC dX7_chainOf_0 (i := 0) rfl 0 rfl ?_
  refine gg_callVV (pc := 1) hC dX7_chainOf_1 vX7_178 (fun _ h => mX7_finds h) (Nat.le_of_ble_eq_true rfl) (Nat.le_of_ble_eq_true rfl) (As := []) (rest := []) rfl rfl (Nat.le_of_ble_eq_true rfl) 0 7 pM_0 rfl (fun s1 => ?_)
  refine gg_iconst (pc := 4) hC dX7_chainOf_4 (x := 0) rfl ?_
  refine gg_istore (pc := 5) hC dX7_chainOf_5 (Nat.le_of_ble_eq_true rfl) (lv' := [(4, .int 0), (0, .ref (A 0)), (1, .int v1), (2, .int v2), (3, .int v3)]) rfl ?_
  refine gg_aload_n (pc := 7) hC dX7_chainOf_7 (i := 0) rfl 1 rfl ?_
  refine gg_get (pc := 8) hC dX7_chainOf_8 fX7_81 0 pM_0 (v := .int (zi s1 0)) rfl ?_
  refine gg_join1 (E' := (fun q => zW C (wM A cA) 9 24 [(0, .ref (A 0)), (1, .int v1), (2, .int v2), (3, .int v3), (4, .int 0)] [.int q] s1)) ?_ (fun x3 => ?_)
  · refine gg_if_ne (pc := 11) hC dX7_chainOf_11 (tgt := 18) rfl (fun _ => ?_) (fun _ => ?_)
    · refine gg_iconst (pc := 14) hC dX7_chainOf_14 (x := -1) rfl ?_
      refine gg_goto (pc := 15) hC dX7_chainOf_15 (tgt := 24) rfl ?_
      exact gg_y (fun h => zW_lv [1, 2, 3, 4, 0] rfl h)
    · refine gg_aload_n (pc := 18) hC dX7_chainOf_18 (i := 0) rfl 1 rfl ?_
      refine gg_iconst (pc := 19) hC dX7_chainOf_19 (x := 0) rfl ?_
      refine gg_iload_n (pc := 20) hC dX7_chainOf_20 (i := 1) rfl 2 rfl ?_
      refine gg_callVIr (pc := 21) hC dX7_chainOf_21 vX7_223 (fun _ h => mX7_nextBy h) (Nat.le_of_ble_eq_true rfl) (Nat.le_of_ble_eq_true rfl) (As := [.int 0, .int v1]) (rest := []) rfl rfl (Nat.le_of_ble_eq_true rfl) 0 7 pM_0 rfl (fun x2 => ?_)
      exact gg_y (fun h => zW_lv [1, 2, 3, 4, 0] rfl h)
  · show zG C (wM A cA) 9 _ _ 24 [(0, .ref (A 0)), (1, .int v1), (2, .int v2), (3, .int v3), (4, .int 0)] [.int x3] s1
    refine gg_istore (pc := 24) hC dX7_chainOf_24 (Nat.le_of_ble_eq_true rfl) (lv' := [(5, .int x3), (0, .ref (A 0)), (1, .int v1), (2, .int v2), (3, .int v3), (4, .int 0)]) rfl ?_
    refine gg_iconst (pc := 26) hC dX7_chainOf_26 (x := 0) rfl ?_
    refine gg_istore (pc := 27) hC dX7_chainOf_27 (Nat.le_of_ble_eq_true rfl) (lv' := [(6, .int 0), (5, .int x3), (0, .ref (A 0)), (1, .int v1), (2, .int v2), (3, .int v3), (4, .int 0)]) rfl ?_
    refine gg_iconst (pc := 29) hC dX7_chainOf_29 (x := 0) rfl ?_
    refine gg_istore (pc := 30) hC dX7_chainOf_30 (Nat.le_of_ble_eq_true rfl) (lv' := [(7, .int 0), (6, .int 0), (5, .int x3), (0, .ref (A 0)), (1, .int v1), (2, .int v2), (3, .int v3), (4, .int 0)]) rfl ?_
    refine gg_bipush (pc := 32) hC dX7_chainOf_32 (x := -2) rfl ?_
    refine gg_istore (pc := 34) hC dX7_chainOf_34 (Nat.le_of_ble_eq_true rfl) (lv' := [(8, .int (-2 : Int32)), (7, .int 0), (6, .int 0), (5, .int x3), (0, .ref (A 0)), (1, .int v1), (2, .int v2), (3, .int v3), (4, .int 0)]) rfl ?_
    refine gg_join3 (E' := (fun q => zW C (wM A cA) 9 128 [(3, .int v3), (6, .int q.1), (7, .int q.2.1), (8, .int q.2.2)] [] s1)) (gg_lv [4, 5, 6, 7, 8, 3, 2, 1, 0] rfl (lX7_chainOf_36 hC  500 _ _ _ _ _)) (fun x4 x5 x6 => ?_)
    show zG C (wM A cA) 9 _ _ 128 [(3, .int v3), (6, .int x4), (7, .int x5), (8, .int x6)] [] s1
    refine gg_iload_n (pc := 128) hC dX7_chainOf_128 (i := 3) rfl 0 rfl ?_
    refine gg_iconst (pc := 129) hC dX7_chainOf_129 (x := 3) rfl ?_
    refine gg_icmp_ne (pc := 130) hC dX7_chainOf_130 (tgt := 138) rfl (fun _ => ?_) (fun _ => ?_)
    · refine gg_iload (pc := 133) hC dX7_chainOf_133 1 rfl ?_
      refine gg_goto (pc := 135) hC dX7_chainOf_135 (tgt := 150) rfl ?_
      exact gg_iret (pc := 150) hR dX7_chainOf_150
    · refine gg_iload_n (pc := 138) hC dX7_chainOf_138 (i := 3) rfl 0 rfl ?_
      refine gg_iconst (pc := 139) hC dX7_chainOf_139 (x := 4) rfl ?_
      refine gg_icmp_ne (pc := 140) hC dX7_chainOf_140 (tgt := 148) rfl (fun _ => ?_) (fun _ => ?_)
      · refine gg_iload (pc := 143) hC dX7_chainOf_143 2 rfl ?_
        refine gg_goto (pc := 145) hC dX7_chainOf_145 (tgt := 150) rfl ?_
        exact gg_iret (pc := 150) hR dX7_chainOf_150
      · refine gg_iload (pc := 148) hC dX7_chainOf_148 3 rfl ?_
        exact gg_iret (pc := 150) hR dX7_chainOf_150
def fX7_chain (v1 : Int32) (v2 : Int32) (v3 : Int32) (σ : zS) : Option (Int32 × zS) :=
    zy1 (fX7_in v1 1 99 σ) (fun x1 =>
    if x1 = 0 then (some ((-2 : Int32), σ)) else
    (zy1 (fX7_in v3 0 4 σ) (fun x2 =>
    if x2 = 0 then (some ((-2 : Int32), σ)) else
    (zy2 (fX7_chainOf v1 v2 v3 σ) (fun x3 s4 =>
    some (x3, s4))))))
set_option maxHeartbeats 4000000 in
set_option maxRecDepth 100000 in
theorem mX7_chain {l : Launch} {D : va_G} {A : Nat → Nat} {cA : Nat → ClassId} {v1 : Int32} {v2 : Int32} {v3 : Int32}  {σ : zS} {r : Int32 × zS} (h : fX7_chain v1 v2 v3 σ = some r) : zMI l D (wM A cA) yX7_chain (zws yX7_chain cX7_chain 4 (some .int)) 4 100 [.ref (A 0), .int v1, .int v2, .int v3] σ r := by
  refine zm_I (lv := [(0, .ref (A 0)), (1, .int v1), (2, .int v2), (3, .int v3)]) rfl sM_ok (Nat.le_of_ble_eq_true rfl) rfl (fun C _ _ hC hR => ?_) h
  unfold fX7_chain
  refine gg_iload_n (pc := 0) hC dX7_chain_0 (i := 1) rfl 1 rfl ?_
  refine gg_iconst (pc := 1) hC dX7_chain_1 (x := 1) rfl ?_
  refine gg_bipush (pc := 2) hC dX7_chain_2 (x := 99) rfl ?_
  refine gg_callSIr (pc := 4) hC dX7_chain_4 cX7_85 (fun _ h => mX7_in h) (Nat.le_of_ble_eq_true rfl) (Nat.le_of_ble_eq_true rfl) (As := [.int v1, .int 1, .int 99]) (rest := []) rfl rfl (Nat.le_of_ble_eq_true rfl) (fun x1 => ?_)
  refine gg_if_eq (pc := 7) hC dX7_chain_7 (tgt := 29) rfl (fun _ => ?_) (fun _ => ?_)
  · refine gg_bipush (pc := 29) hC dX7_chain_29 (x := -2) rfl ?_
    exact gg_iret (pc := 31) hR dX7_chain_31
  · refine gg_iload_n (pc := 10) hC dX7_chain_10 (i := 3) rfl 3 rfl ?_
    refine gg_iconst (pc := 11) hC dX7_chain_11 (x := 0) rfl ?_
    refine gg_iconst (pc := 12) hC dX7_chain_12 (x := 4) rfl ?_
    refine gg_callSIr (pc := 13) hC dX7_chain_13 cX7_85 (fun _ h => mX7_in h) (Nat.le_of_ble_eq_true rfl) (Nat.le_of_ble_eq_true rfl) (As := [.int v3, .int 0, .int 4]) (rest := []) rfl rfl (Nat.le_of_ble_eq_true rfl) (fun x2 => ?_)
    refine gg_if_eq (pc := 16) hC dX7_chain_16 (tgt := 29) rfl (fun _ => ?_) (fun _ => ?_)
    · refine gg_bipush (pc := 29) hC dX7_chain_29 (x := -2) rfl ?_
      exact gg_iret (pc := 31) hR dX7_chain_31
    · refine gg_aload_n (pc := 19) hC dX7_chain_19 (i := 0) rfl 0 rfl ?_
      refine gg_iload_n (pc := 20) hC dX7_chain_20 (i := 1) rfl 1 rfl ?_
      refine gg_iload_n (pc := 21) hC dX7_chain_21 (i := 2) rfl 2 rfl ?_
      refine gg_iload_n (pc := 22) hC dX7_chain_22 (i := 3) rfl 3 rfl ?_
      refine gg_callVI (pc := 23) hC dX7_chain_23 vX7_226 (fun _ h => mX7_chainOf h) (Nat.le_of_ble_eq_true rfl) (Nat.le_of_ble_eq_true rfl) (As := [.int v1, .int v2, .int v3]) (rest := []) rfl rfl (Nat.le_of_ble_eq_true rfl) 0 7 pM_0 rfl (fun x3 s4 => ?_)
      refine gg_goto (pc := 26) hC dX7_chain_26 (tgt := 31) rfl ?_
      exact gg_iret (pc := 31) hR dX7_chain_31
def fX7_sums_26 (v2 : Int32) : Nat → Int32 → zS → Option (zS)
  | 0, _, _ => none
  | n + 1, v3, σ =>
    if v2 < v3 then (some σ) else
    (zg (zq v3 32) (zv (wl σ 2 ((zl σ 2) + ((za σ 6 v3.toNatClampNeg).toInt64))) (fun (s1 : zS) =>
    zg (zq v3 32) (zv (wl s1 3 ((zl s1 3) + (zj s1 0 v3.toNatClampNeg))) (fun (s2 : zS) =>
    zg (zq v3 32) (zg (zq v3 32) (zv (wl s2 4 ((zl s2 4) + (((za s2 6 v3.toNatClampNeg).toInt64) * (zj s2 0 v3.toNatClampNeg)))) (fun (s3 : zS) =>
    zg (zq v3 32) (zg (zq v3 32) (zv (wl s3 5 ((zl s3 5) + (((za s3 6 v3.toNatClampNeg).toInt64) * ((za s3 6 v3.toNatClampNeg).toInt64)))) (fun (s4 : zS) =>
    fX7_sums_26 v2 n (v3 + 1) s4)))))))))))
def fX7_sums (v1 : Int32) (v2 : Int32) (σ : zS) : Option (zS) :=
    zy1 (fX7_finds σ) (fun s1 =>
    zv (wl s1 2 (0 : Int64)) (fun (s2 : zS) =>
    zv (wl s2 3 (0 : Int64)) (fun (s3 : zS) =>
    zv (wl s3 4 (0 : Int64)) (fun (s4 : zS) =>
    zv (wl s4 5 (0 : Int64)) (fun (s5 : zS) =>
    zy1 (fX7_sums_26 v2 500 v1 s5) (fun (s6 : zS) =>
    some s6))))))
set_option maxHeartbeats 4000000 in
set_option maxRecDepth 100000 in
theorem lX7_sums_26 {C : zK} {A : Nat → Nat} {cA : Nat → ClassId} (hC : zOK C (wM A cA) cX7_sums RX7 4 3 72) {v2 : Int32} : ∀ (n : Nat) (v3 : Int32) (σ : zS), zG C (wM A cA) 4 (fun q => zW C (wM A cA) 4 115 [] [] q) (fX7_sums_26 v2 n v3 σ) 26 [(0, .ref (A 0)), (2, .int v2), (3, .int v3)] [] σ := by
  intro n
  induction n with
  | zero => intro v3 σ; exact gg_none (o := none)
  | succ n ih =>
    intro v3 σ
    rw [fX7_sums_26]
    refine gg_iload_n (pc := 26) hC dX7_sums_26 (i := 3) rfl 2 rfl ?_
    refine gg_iload_n (pc := 27) hC dX7_sums_27 (i := 2) rfl 1 rfl ?_
    refine gg_icmp_gt (pc := 28) hC dX7_sums_28 (tgt := 115) rfl (fun _ => ?_) (fun _ => ?_)
    · exact gg_y (fun h => zW_lv [] rfl h)
    · refine gg_aload_n (pc := 31) hC dX7_sums_31 (i := 0) rfl 0 rfl ?_
      refine gg_dup (pc := 32) hC dX7_sums_32 rfl ?_
      refine gg_get (pc := 33) hC dX7_sums_33 fX7_230 0 pM_0 (v := .long (zl σ 2)) rfl ?_
      refine gg_aload_n (pc := 36) hC dX7_sums_36 (i := 0) rfl 0 rfl ?_
      refine gg_get (pc := 37) hC dX7_sums_37 fX7_33 0 pM_0 (v := .ref (A 8)) rfl ?_
      refine gg_iload_n (pc := 40) hC dX7_sums_40 (i := 3) rfl 2 rfl ?_
      refine gg_iald (pc := 41) hC dX7_sums_41 8 0 pM_8 rfl ?_
      refine gg_i2l (pc := 42) hC dX7_sums_42 ?_
      refine gg_ladd (pc := 43) hC dX7_sums_43 ?_
      refine gg_put (pc := 44) hC dX7_sums_44 fX7_230 tX7_2 0 pM_0 rfl rfl rfl (Nat.le_of_ble_eq_true rfl) sM_0_20 ?_
      refine gg_zvs (fun s1 => ?_)
      refine gg_aload_n (pc := 47) hC dX7_sums_47 (i := 0) rfl 0 rfl ?_
      refine gg_dup (pc := 48) hC dX7_sums_48 rfl ?_
      refine gg_get (pc := 49) hC dX7_sums_49 fX7_233 0 pM_0 (v := .long (zl s1 3)) rfl ?_
      refine gg_aload_n (pc := 52) hC dX7_sums_52 (i := 0) rfl 0 rfl ?_
      refine gg_get (pc := 53) hC dX7_sums_53 fX7_29 0 pM_0 (v := .ref (A 7)) rfl ?_
      refine gg_iload_n (pc := 56) hC dX7_sums_56 (i := 3) rfl 2 rfl ?_
      refine gg_lald (pc := 57) hC dX7_sums_57 7 1 pM_7 rfl ?_
      refine gg_ladd (pc := 58) hC dX7_sums_58 ?_
      refine gg_put (pc := 59) hC dX7_sums_59 fX7_233 tX7_2 0 pM_0 rfl rfl rfl (Nat.le_of_ble_eq_true rfl) sM_0_21 ?_
      refine gg_zvs (fun s2 => ?_)
      refine gg_aload_n (pc := 62) hC dX7_sums_62 (i := 0) rfl 0 rfl ?_
      refine gg_dup (pc := 63) hC dX7_sums_63 rfl ?_
      refine gg_get (pc := 64) hC dX7_sums_64 fX7_236 0 pM_0 (v := .long (zl s2 4)) rfl ?_
      refine gg_aload_n (pc := 67) hC dX7_sums_67 (i := 0) rfl 0 rfl ?_
      refine gg_get (pc := 68) hC dX7_sums_68 fX7_33 0 pM_0 (v := .ref (A 8)) rfl ?_
      refine gg_iload_n (pc := 71) hC dX7_sums_71 (i := 3) rfl 2 rfl ?_
      refine gg_iald (pc := 72) hC dX7_sums_72 8 0 pM_8 rfl ?_
      refine gg_i2l (pc := 73) hC dX7_sums_73 ?_
      refine gg_aload_n (pc := 74) hC dX7_sums_74 (i := 0) rfl 0 rfl ?_
      refine gg_get (pc := 75) hC dX7_sums_75 fX7_29 0 pM_0 (v := .ref (A 7)) rfl ?_
      refine gg_iload_n (pc := 78) hC dX7_sums_78 (i := 3) rfl 2 rfl ?_
      refine gg_lald (pc := 79) hC dX7_sums_79 7 1 pM_7 rfl ?_
      refine gg_lmul (pc := 80) hC dX7_sums_80 ?_
      refine gg_ladd (pc := 81) hC dX7_sums_81 ?_
      refine gg_put (pc := 82) hC dX7_sums_82 fX7_236 tX7_2 0 pM_0 rfl rfl rfl (Nat.le_of_ble_eq_true rfl) sM_0_22 ?_
      refine gg_zvs (fun s3 => ?_)
      refine gg_aload_n (pc := 85) hC dX7_sums_85 (i := 0) rfl 0 rfl ?_
      refine gg_dup (pc := 86) hC dX7_sums_86 rfl ?_
      refine gg_get (pc := 87) hC dX7_sums_87 fX7_239 0 pM_0 (v := .long (zl s3 5)) rfl ?_
      refine gg_aload_n (pc := 90) hC dX7_sums_90 (i := 0) rfl 0 rfl ?_
      refine gg_get (pc := 91) hC dX7_sums_91 fX7_33 0 pM_0 (v := .ref (A 8)) rfl ?_
      refine gg_iload_n (pc := 94) hC dX7_sums_94 (i := 3) rfl 2 rfl ?_
      refine gg_iald (pc := 95) hC dX7_sums_95 8 0 pM_8 rfl ?_
      refine gg_i2l (pc := 96) hC dX7_sums_96 ?_
      refine gg_aload_n (pc := 97) hC dX7_sums_97 (i := 0) rfl 0 rfl ?_
      refine gg_get (pc := 98) hC dX7_sums_98 fX7_33 0 pM_0 (v := .ref (A 8)) rfl ?_
      refine gg_iload_n (pc := 101) hC dX7_sums_101 (i := 3) rfl 2 rfl ?_
      refine gg_iald (pc := 102) hC dX7_sums_102 8 0 pM_8 rfl ?_
      refine gg_i2l (pc := 103) hC dX7_sums_103 ?_
      refine gg_lmul (pc := 104) hC dX7_sums_104 ?_
      refine gg_ladd (pc := 105) hC dX7_sums_105 ?_
      refine gg_put (pc := 106) hC dX7_sums_106 fX7_239 tX7_2 0 pM_0 rfl rfl rfl (Nat.le_of_ble_eq_true rfl) sM_0_23 ?_
      refine gg_zvs (fun s4 => ?_)
      refine gg_iinc (pc := 109) hC dX7_sums_109 (y := 0) (j := 2) rfl (z := 1) rfl (Nat.le_of_ble_eq_true rfl) (lv' := [(3, .int (v3 + 1)), (0, .ref (A 0)), (2, .int v2)]) rfl ?_
      refine gg_goto (pc := 112) hC dX7_sums_112 (tgt := 26) rfl ?_
      exact gg_lv [1, 2, 0] rfl (ih _ _)
set_option maxHeartbeats 4000000 in
set_option maxRecDepth 100000 in
theorem mX7_sums {l : Launch} {D : va_G} {A : Nat → Nat} {cA : Nat → ClassId} {v1 : Int32} {v2 : Int32}  {σ : zS} {r : zS} (h : fX7_sums v1 v2 σ = some r) : zMV l D (wM A cA) yX7_sums (zws yX7_sums cX7_sums 4 none) 3 72 [.ref (A 0), .int v1, .int v2] σ r := by
  refine zm_V (lv := [(0, .ref (A 0)), (1, .int v1), (2, .int v2)]) rfl sM_ok (Nat.le_of_ble_eq_true rfl) rfl (fun C _ _ hC hR => ?_) h
  unfold fX7_sums
  refine gg_aload_n (pc := 0) hC dX7_sums_0 (i := 0) rfl 0 rfl ?_
  refine gg_callVV (pc := 1) hC dX7_sums_1 vX7_178 (fun _ h => mX7_finds h) (Nat.le_of_ble_eq_true rfl) (Nat.le_of_ble_eq_true rfl) (As := []) (rest := []) rfl rfl (Nat.le_of_ble_eq_true rfl) 0 7 pM_0 rfl (fun s1 => ?_)
  refine gg_aload_n (pc := 4) hC dX7_sums_4 (i := 0) rfl 0 rfl ?_
  refine gg_lconst (pc := 5) hC dX7_sums_5 (x := 0) rfl ?_
  refine gg_put (pc := 6) hC dX7_sums_6 fX7_230 tX7_2 0 pM_0 rfl rfl rfl (Nat.le_of_ble_eq_true rfl) sM_0_20 ?_
  refine gg_zvs (fun s2 => ?_)
  refine gg_aload_n (pc := 9) hC dX7_sums_9 (i := 0) rfl 0 rfl ?_
  refine gg_lconst (pc := 10) hC dX7_sums_10 (x := 0) rfl ?_
  refine gg_put (pc := 11) hC dX7_sums_11 fX7_233 tX7_2 0 pM_0 rfl rfl rfl (Nat.le_of_ble_eq_true rfl) sM_0_21 ?_
  refine gg_zvs (fun s3 => ?_)
  refine gg_aload_n (pc := 14) hC dX7_sums_14 (i := 0) rfl 0 rfl ?_
  refine gg_lconst (pc := 15) hC dX7_sums_15 (x := 0) rfl ?_
  refine gg_put (pc := 16) hC dX7_sums_16 fX7_236 tX7_2 0 pM_0 rfl rfl rfl (Nat.le_of_ble_eq_true rfl) sM_0_22 ?_
  refine gg_zvs (fun s4 => ?_)
  refine gg_aload_n (pc := 19) hC dX7_sums_19 (i := 0) rfl 0 rfl ?_
  refine gg_lconst (pc := 20) hC dX7_sums_20 (x := 0) rfl ?_
  refine gg_put (pc := 21) hC dX7_sums_21 fX7_239 tX7_2 0 pM_0 rfl rfl rfl (Nat.le_of_ble_eq_true rfl) sM_0_23 ?_
  refine gg_zvs (fun s5 => ?_)
  refine gg_iload_n (pc := 24) hC dX7_sums_24 (i := 1) rfl 1 rfl ?_
  refine gg_istore_n (pc := 25) hC dX7_sums_25 (i := 3) rfl (Nat.le_of_ble_eq_true rfl) (lv' := [(3, .int v1), (0, .ref (A 0)), (1, .int v1), (2, .int v2)]) rfl ?_
  refine gg_join1 (E' := (fun q => zW C (wM A cA) 4 115 [] [] q)) (gg_lv [1, 3, 0] rfl (lX7_sums_26 hC  500 _ _)) (fun s6 => ?_)
  show zG C (wM A cA) 4 _ _ 115 [] [] s6
  exact gg_vret (pc := 115) hR dX7_sums_115
def fX7_fitOf (v1 : Int32) (v2 : Int32) (v3 : Int32) (σ : zS) : Option (Int64 × zS) :=
    zy1 (fX7_sums v1 v2 σ) (fun s1 =>
    zv (((v2 - v1) + 1).toInt64) (fun (x2 : Int64) =>
    zy1 (fX7_partOf ((x2 * (zl s1 4)) - ((zl s1 2) * (zl s1 3))) (((x2 * (zl s1 5)) - ((zl s1 2) * (zl s1 2))) * (zl s1 0)) v3 s1) (fun x3 =>
    some (x3, s1))))
set_option maxHeartbeats 4000000 in
set_option maxRecDepth 100000 in
theorem mX7_fitOf {l : Launch} {D : va_G} {A : Nat → Nat} {cA : Nat → ClassId} {v1 : Int32} {v2 : Int32} {v3 : Int32}  {σ : zS} {r : Int64 × zS} (h : fX7_fitOf v1 v2 v3 σ = some r) : zML l D (wM A cA) yX7_fitOf (zws yX7_fitOf cX7_fitOf 6 (some .long)) 4 95 [.ref (A 0), .int v1, .int v2, .int v3] σ r := by
  refine zm_L (lv := [(0, .ref (A 0)), (1, .int v1), (2, .int v2), (3, .int v3)]) rfl sM_ok (Nat.le_of_ble_eq_true rfl) rfl (fun C _ _ hC hR => ?_) h
  unfold fX7_fitOf
  refine gg_aload_n (pc := 0) hC dX7_fitOf_0 (i := 0) rfl 0 rfl ?_
  refine gg_iload_n (pc := 1) hC dX7_fitOf_1 (i := 1) rfl 1 rfl ?_
  refine gg_iload_n (pc := 2) hC dX7_fitOf_2 (i := 2) rfl 2 rfl ?_
  refine gg_callVV (pc := 3) hC dX7_fitOf_3 vX7_242 (fun _ h => mX7_sums h) (Nat.le_of_ble_eq_true rfl) (Nat.le_of_ble_eq_true rfl) (As := [.int v1, .int v2]) (rest := []) rfl rfl (Nat.le_of_ble_eq_true rfl) 0 7 pM_0 rfl (fun s1 => ?_)
  refine gg_iload_n (pc := 6) hC dX7_fitOf_6 (i := 2) rfl 2 rfl ?_
  refine gg_iload_n (pc := 7) hC dX7_fitOf_7 (i := 1) rfl 1 rfl ?_
  refine gg_isub (pc := 8) hC dX7_fitOf_8 ?_
  refine gg_iconst (pc := 9) hC dX7_fitOf_9 (x := 1) rfl ?_
  refine gg_iadd (pc := 10) hC dX7_fitOf_10 ?_
  refine gg_i2l (pc := 11) hC dX7_fitOf_11 ?_
  refine gg_zvl (fun x2 => ?_)
  refine gg_lstore (pc := 12) hC dX7_fitOf_12 (Nat.le_of_ble_eq_true rfl) (lv' := [(4, .long x2), (0, .ref (A 0)), (1, .int v1), (2, .int v2), (3, .int v3)]) rfl ?_
  refine gg_lload (pc := 14) hC dX7_fitOf_14 0 rfl ?_
  refine gg_aload_n (pc := 16) hC dX7_fitOf_16 (i := 0) rfl 1 rfl ?_
  refine gg_get (pc := 17) hC dX7_fitOf_17 fX7_236 0 pM_0 (v := .long (zl s1 4)) rfl ?_
  refine gg_lmul (pc := 20) hC dX7_fitOf_20 ?_
  refine gg_aload_n (pc := 21) hC dX7_fitOf_21 (i := 0) rfl 1 rfl ?_
  refine gg_get (pc := 22) hC dX7_fitOf_22 fX7_230 0 pM_0 (v := .long (zl s1 2)) rfl ?_
  refine gg_aload_n (pc := 25) hC dX7_fitOf_25 (i := 0) rfl 1 rfl ?_
  refine gg_get (pc := 26) hC dX7_fitOf_26 fX7_233 0 pM_0 (v := .long (zl s1 3)) rfl ?_
  refine gg_lmul (pc := 29) hC dX7_fitOf_29 ?_
  refine gg_lsub (pc := 30) hC dX7_fitOf_30 ?_
  refine gg_lload (pc := 31) hC dX7_fitOf_31 0 rfl ?_
  refine gg_aload_n (pc := 33) hC dX7_fitOf_33 (i := 0) rfl 1 rfl ?_
  refine gg_get (pc := 34) hC dX7_fitOf_34 fX7_239 0 pM_0 (v := .long (zl s1 5)) rfl ?_
  refine gg_lmul (pc := 37) hC dX7_fitOf_37 ?_
  refine gg_aload_n (pc := 38) hC dX7_fitOf_38 (i := 0) rfl 1 rfl ?_
  refine gg_get (pc := 39) hC dX7_fitOf_39 fX7_230 0 pM_0 (v := .long (zl s1 2)) rfl ?_
  refine gg_aload_n (pc := 42) hC dX7_fitOf_42 (i := 0) rfl 1 rfl ?_
  refine gg_get (pc := 43) hC dX7_fitOf_43 fX7_230 0 pM_0 (v := .long (zl s1 2)) rfl ?_
  refine gg_lmul (pc := 46) hC dX7_fitOf_46 ?_
  refine gg_lsub (pc := 47) hC dX7_fitOf_47 ?_
  refine gg_aload_n (pc := 48) hC dX7_fitOf_48 (i := 0) rfl 1 rfl ?_
  refine gg_get (pc := 49) hC dX7_fitOf_49 fX7_161 0 pM_0 (v := .long (zl s1 0)) rfl ?_
  refine gg_lmul (pc := 52) hC dX7_fitOf_52 ?_
  refine gg_iload_n (pc := 53) hC dX7_fitOf_53 (i := 3) rfl 4 rfl ?_
  refine gg_callSLr (pc := 54) hC dX7_fitOf_54 cX7_132 (fun _ h => mX7_partOf h) (Nat.le_of_ble_eq_true rfl) (Nat.le_of_ble_eq_true rfl) (As := [.long ((x2 * (zl s1 4)) - ((zl s1 2) * (zl s1 3))), .long (((x2 * (zl s1 5)) - ((zl s1 2) * (zl s1 2))) * (zl s1 0)), .int v3]) (rest := []) rfl rfl (Nat.le_of_ble_eq_true rfl) (fun x3 => ?_)
  exact gg_lret (pc := 57) hR dX7_fitOf_57
def fX7_gainOf_8 (v0 : Int32) (v1 : Int32) (σ : zS) : Nat → Int64 → Int64 → Int32 → Option (Int64 × Int64)
  | 0, _, _, _ => none
  | n + 1, v2, v4, v6 =>
    if v0 ≤ v6 then (some (v2, v4)) else
    (zv (v2 + (v6.toInt64)) (fun (x1 : Int64) =>
    zv (v4 + ((v6 * v6).toInt64)) (fun (x2 : Int64) =>
    fX7_gainOf_8 v0 v1 σ n x1 x2 (v6 + 1))))
def fX7_gainOf_54 (v0 : Int32) (v1 : Int32) (v2 : Int64) (v6 : Int64) (σ : zS) : Nat → Int64 → Int32 → Option (Int64)
  | 0, _, _ => none
  | n + 1, v8, v10 =>
    if v0 ≤ v10 then (some v8) else
    (zv (v8 + ((((v0 * v10).toInt64) - v2) * (((v0 * v10).toInt64) - v2))) (fun (x1 : Int64) =>
    fX7_gainOf_54 v0 v1 v2 v6 σ n x1 (v10 + 1)))
def fX7_gainOf (v0 : Int32) (v1 : Int32) (σ : zS) : Option (Int64) :=
    zy2 (fX7_gainOf_8 v0 v1 σ 500 (0 : Int64) (0 : Int64) 0) (fun (x1 : Int64) (x2 : Int64) =>
    zv (((v0.toInt64) * x2) - (x1 * x1)) (fun (x3 : Int64) =>
    zy1 (fX7_gainOf_54 v0 v1 x1 x3 σ 500 (0 : Int64) 0) (fun (x4 : Int64) =>
    zy1 (fX7_partOf (((2 : Int64) * x3) * x3) ((x4 * ((v0 - 1).toInt64)) * ((v0 - 1).toInt64)) v1 σ) (fun x5 =>
    some x5))))
set_option maxHeartbeats 4000000 in
set_option maxRecDepth 100000 in
theorem lX7_gainOf_8 {C : zK} {A : Nat → Nat} {cA : Nat → ClassId} (hC : zOK C (wM A cA) cX7_gainOf RX7 11 1 30) {v0 : Int32} {v1 : Int32} {σ : zS} : ∀ (n : Nat) (v2 : Int64) (v4 : Int64) (v6 : Int32), zG C (wM A cA) 11 (fun q => zW C (wM A cA) 11 37 [(0, .int v0), (1, .int v1), (2, .long q.1), (4, .long q.2)] [] σ) (fX7_gainOf_8 v0 v1 σ n v2 v4 v6) 8 [(0, .int v0), (1, .int v1), (2, .long v2), (4, .long v4), (6, .int v6)] [] σ := by
  intro n
  induction n with
  | zero => intro v2 v4 v6; exact gg_none (o := none)
  | succ n ih =>
    intro v2 v4 v6
    rw [fX7_gainOf_8]
    refine gg_iload (pc := 8) hC dX7_gainOf_8 4 rfl ?_
    refine gg_iload_n (pc := 10) hC dX7_gainOf_10 (i := 0) rfl 0 rfl ?_
    refine gg_icmp_ge (pc := 11) hC dX7_gainOf_11 (tgt := 37) rfl (fun _ => ?_) (fun _ => ?_)
    · exact gg_y (fun h => zW_lv [0, 1, 2, 3] rfl h)
    · refine gg_lload_n (pc := 14) hC dX7_gainOf_14 (i := 2) rfl 2 rfl ?_
      refine gg_iload (pc := 15) hC dX7_gainOf_15 4 rfl ?_
      refine gg_i2l (pc := 17) hC dX7_gainOf_17 ?_
      refine gg_ladd (pc := 18) hC dX7_gainOf_18 ?_
      refine gg_zvl (fun x1 => ?_)
      refine gg_lstore_n (pc := 19) hC dX7_gainOf_19 (i := 2) rfl (Nat.le_of_ble_eq_true rfl) (lv' := [(2, .long x1), (0, .int v0), (1, .int v1), (4, .long v4), (6, .int v6)]) rfl ?_
      refine gg_lload (pc := 20) hC dX7_gainOf_20 3 rfl ?_
      refine gg_iload (pc := 22) hC dX7_gainOf_22 4 rfl ?_
      refine gg_iload (pc := 24) hC dX7_gainOf_24 4 rfl ?_
      refine gg_imul (pc := 26) hC dX7_gainOf_26 ?_
      refine gg_i2l (pc := 27) hC dX7_gainOf_27 ?_
      refine gg_ladd (pc := 28) hC dX7_gainOf_28 ?_
      refine gg_zvl (fun x2 => ?_)
      refine gg_lstore (pc := 29) hC dX7_gainOf_29 (Nat.le_of_ble_eq_true rfl) (lv' := [(4, .long x2), (2, .long x1), (0, .int v0), (1, .int v1), (6, .int v6)]) rfl ?_
      refine gg_iinc (pc := 31) hC dX7_gainOf_31 (y := 0) (j := 4) rfl (z := 1) rfl (Nat.le_of_ble_eq_true rfl) (lv' := [(6, .int (v6 + 1)), (4, .long x2), (2, .long x1), (0, .int v0), (1, .int v1)]) rfl ?_
      refine gg_goto (pc := 34) hC dX7_gainOf_34 (tgt := 8) rfl ?_
      exact gg_lv [3, 4, 2, 1, 0] rfl (ih _ _ _)
set_option maxHeartbeats 4000000 in
set_option maxRecDepth 100000 in
theorem lX7_gainOf_54 {C : zK} {A : Nat → Nat} {cA : Nat → ClassId} (hC : zOK C (wM A cA) cX7_gainOf RX7 11 1 30) {v0 : Int32} {v1 : Int32} {v2 : Int64} {v6 : Int64} {σ : zS} : ∀ (n : Nat) (v8 : Int64) (v10 : Int32), zG C (wM A cA) 11 (fun q => zW C (wM A cA) 11 86 [(0, .int v0), (1, .int v1), (6, .long v6), (8, .long q)] [] σ) (fX7_gainOf_54 v0 v1 v2 v6 σ n v8 v10) 54 [(0, .int v0), (1, .int v1), (2, .long v2), (6, .long v6), (8, .long v8), (10, .int v10)] [] σ := by
  intro n
  induction n with
  | zero => intro v8 v10; exact gg_none (o := none)
  | succ n ih =>
    intro v8 v10
    rw [fX7_gainOf_54]
    refine gg_iload (pc := 54) hC dX7_gainOf_54 5 rfl ?_
    refine gg_iload_n (pc := 56) hC dX7_gainOf_56 (i := 0) rfl 0 rfl ?_
    refine gg_icmp_ge (pc := 57) hC dX7_gainOf_57 (tgt := 86) rfl (fun _ => ?_) (fun _ => ?_)
    · exact gg_y (fun h => zW_lv [0, 1, 3, 4] rfl h)
    · refine gg_lload (pc := 60) hC dX7_gainOf_60 4 rfl ?_
      refine gg_iload_n (pc := 62) hC dX7_gainOf_62 (i := 0) rfl 0 rfl ?_
      refine gg_iload (pc := 63) hC dX7_gainOf_63 5 rfl ?_
      refine gg_imul (pc := 65) hC dX7_gainOf_65 ?_
      refine gg_i2l (pc := 66) hC dX7_gainOf_66 ?_
      refine gg_lload_n (pc := 67) hC dX7_gainOf_67 (i := 2) rfl 2 rfl ?_
      refine gg_lsub (pc := 68) hC dX7_gainOf_68 ?_
      refine gg_iload_n (pc := 69) hC dX7_gainOf_69 (i := 0) rfl 0 rfl ?_
      refine gg_iload (pc := 70) hC dX7_gainOf_70 5 rfl ?_
      refine gg_imul (pc := 72) hC dX7_gainOf_72 ?_
      refine gg_i2l (pc := 73) hC dX7_gainOf_73 ?_
      refine gg_lload_n (pc := 74) hC dX7_gainOf_74 (i := 2) rfl 2 rfl ?_
      refine gg_lsub (pc := 75) hC dX7_gainOf_75 ?_
      refine gg_lmul (pc := 76) hC dX7_gainOf_76 ?_
      refine gg_ladd (pc := 77) hC dX7_gainOf_77 ?_
      refine gg_zvl (fun x1 => ?_)
      refine gg_lstore (pc := 78) hC dX7_gainOf_78 (Nat.le_of_ble_eq_true rfl) (lv' := [(8, .long x1), (0, .int v0), (1, .int v1), (2, .long v2), (6, .long v6), (10, .int v10)]) rfl ?_
      refine gg_iinc (pc := 80) hC dX7_gainOf_80 (y := 0) (j := 5) rfl (z := 1) rfl (Nat.le_of_ble_eq_true rfl) (lv' := [(10, .int (v10 + 1)), (8, .long x1), (0, .int v0), (1, .int v1), (2, .long v2), (6, .long v6)]) rfl ?_
      refine gg_goto (pc := 83) hC dX7_gainOf_83 (tgt := 54) rfl ?_
      exact gg_lv [2, 3, 4, 5, 1, 0] rfl (ih _ _)
set_option maxHeartbeats 4000000 in
set_option maxRecDepth 100000 in
theorem mX7_gainOf {l : Launch} {D : va_G} {A : Nat → Nat} {cA : Nat → ClassId} {v0 : Int32} {v1 : Int32}  {σ : zS} {r : Int64} (h : fX7_gainOf v0 v1 σ = some r) : zML l D (wM A cA) yX7_gainOf (zws yX7_gainOf cX7_gainOf 11 (some .long)) 1 30 [.int v0, .int v1] σ (r, σ) := by
  refine zm_Lr (lv := [(0, .int v0), (1, .int v1)]) rfl sM_ok (Nat.le_of_ble_eq_true rfl) rfl (fun C _ _ hC hR => ?_) h
  unfold fX7_gainOf
  refine gg_lconst (pc := 0) hC dX7_gainOf_0 (x := 0) rfl ?_
  refine gg_lstore_n (pc := 1) hC dX7_gainOf_1 (i := 2) rfl (Nat.le_of_ble_eq_true rfl) (lv' := [(2, .long (0 : Int64)), (0, .int v0), (1, .int v1)]) rfl ?_
  refine gg_lconst (pc := 2) hC dX7_gainOf_2 (x := 0) rfl ?_
  refine gg_lstore (pc := 3) hC dX7_gainOf_3 (Nat.le_of_ble_eq_true rfl) (lv' := [(4, .long (0 : Int64)), (2, .long (0 : Int64)), (0, .int v0), (1, .int v1)]) rfl ?_
  refine gg_iconst (pc := 5) hC dX7_gainOf_5 (x := 0) rfl ?_
  refine gg_istore (pc := 6) hC dX7_gainOf_6 (Nat.le_of_ble_eq_true rfl) (lv' := [(6, .int 0), (4, .long (0 : Int64)), (2, .long (0 : Int64)), (0, .int v0), (1, .int v1)]) rfl ?_
  refine gg_join2 (E' := (fun q => zW C (wM A cA) 11 37 [(0, .int v0), (1, .int v1), (2, .long q.1), (4, .long q.2)] [] σ)) (gg_lv [3, 4, 2, 1, 0] rfl (lX7_gainOf_8 hC  500 _ _ _)) (fun x1 x2 => ?_)
  show zG C (wM A cA) 11 _ _ 37 [(0, .int v0), (1, .int v1), (2, .long x1), (4, .long x2)] [] σ
  refine gg_iload_n (pc := 37) hC dX7_gainOf_37 (i := 0) rfl 0 rfl ?_
  refine gg_i2l (pc := 38) hC dX7_gainOf_38 ?_
  refine gg_lload (pc := 39) hC dX7_gainOf_39 3 rfl ?_
  refine gg_lmul (pc := 41) hC dX7_gainOf_41 ?_
  refine gg_lload_n (pc := 42) hC dX7_gainOf_42 (i := 2) rfl 2 rfl ?_
  refine gg_lload_n (pc := 43) hC dX7_gainOf_43 (i := 2) rfl 2 rfl ?_
  refine gg_lmul (pc := 44) hC dX7_gainOf_44 ?_
  refine gg_lsub (pc := 45) hC dX7_gainOf_45 ?_
  refine gg_zvl (fun x3 => ?_)
  refine gg_lstore (pc := 46) hC dX7_gainOf_46 (Nat.le_of_ble_eq_true rfl) (lv' := [(6, .long x3), (0, .int v0), (1, .int v1), (2, .long x1), (4, .long x2)]) rfl ?_
  refine gg_lconst (pc := 48) hC dX7_gainOf_48 (x := 0) rfl ?_
  refine gg_lstore (pc := 49) hC dX7_gainOf_49 (Nat.le_of_ble_eq_true rfl) (lv' := [(8, .long (0 : Int64)), (6, .long x3), (0, .int v0), (1, .int v1), (2, .long x1), (4, .long x2)]) rfl ?_
  refine gg_iconst (pc := 51) hC dX7_gainOf_51 (x := 0) rfl ?_
  refine gg_istore (pc := 52) hC dX7_gainOf_52 (Nat.le_of_ble_eq_true rfl) (lv' := [(10, .int 0), (8, .long (0 : Int64)), (6, .long x3), (0, .int v0), (1, .int v1), (2, .long x1), (4, .long x2)]) rfl ?_
  refine gg_join1 (E' := (fun q => zW C (wM A cA) 11 86 [(0, .int v0), (1, .int v1), (6, .long x3), (8, .long q)] [] σ)) (gg_lv [3, 4, 5, 2, 1, 0] rfl (lX7_gainOf_54 hC  500 _ _)) (fun x4 => ?_)
  show zG C (wM A cA) 11 _ _ 86 [(0, .int v0), (1, .int v1), (6, .long x3), (8, .long x4)] [] σ
  refine gg_ldc2 (pc := 86) hC dX7_gainOf_86 qX7_168 ?_
  refine gg_lload (pc := 89) hC dX7_gainOf_89 2 rfl ?_
  refine gg_lmul (pc := 91) hC dX7_gainOf_91 ?_
  refine gg_lload (pc := 92) hC dX7_gainOf_92 2 rfl ?_
  refine gg_lmul (pc := 94) hC dX7_gainOf_94 ?_
  refine gg_lload (pc := 95) hC dX7_gainOf_95 3 rfl ?_
  refine gg_iload_n (pc := 97) hC dX7_gainOf_97 (i := 0) rfl 0 rfl ?_
  refine gg_iconst (pc := 98) hC dX7_gainOf_98 (x := 1) rfl ?_
  refine gg_isub (pc := 99) hC dX7_gainOf_99 ?_
  refine gg_i2l (pc := 100) hC dX7_gainOf_100 ?_
  refine gg_lmul (pc := 101) hC dX7_gainOf_101 ?_
  refine gg_iload_n (pc := 102) hC dX7_gainOf_102 (i := 0) rfl 0 rfl ?_
  refine gg_iconst (pc := 103) hC dX7_gainOf_103 (x := 1) rfl ?_
  refine gg_isub (pc := 104) hC dX7_gainOf_104 ?_
  refine gg_i2l (pc := 105) hC dX7_gainOf_105 ?_
  refine gg_lmul (pc := 106) hC dX7_gainOf_106 ?_
  refine gg_iload_n (pc := 107) hC dX7_gainOf_107 (i := 1) rfl 1 rfl ?_
  refine gg_callSLr (pc := 108) hC dX7_gainOf_108 cX7_132 (fun _ h => mX7_partOf h) (Nat.le_of_ble_eq_true rfl) (Nat.le_of_ble_eq_true rfl) (As := [.long (((2 : Int64) * x3) * x3), .long ((x4 * ((v0 - 1).toInt64)) * ((v0 - 1).toInt64)), .int v1]) (rest := []) rfl rfl (Nat.le_of_ble_eq_true rfl) (fun x5 => ?_)
  exact gg_lretr (pc := 111) hR dX7_gainOf_111
def fX7_offOf_60 (v2 : Int32) (v3 : Int64) (v5 : Int64) (v7 : Int64) (σ : zS) : Nat → Int32 → Int64 → Int32 → Option (Int32)
  | 0, _, _, _ => none
  | n + 1, v9, v10, v12 =>
    if v2 < v12 then (some v9) else
    (zg (zq v12 32) (zg (zq v12 32) (zv ((v7 * ((v3 * (zj σ 0 v12.toNatClampNeg)) - (zl σ 3))) - (v5 * ((v3 * ((za σ 6 v12.toNatClampNeg).toInt64)) - (zl σ 2)))) (fun (x1 : Int64) =>
    zy1 (if (0 : Int64) ≤ x1 then (some x1) else
    (some (-x1))) (fun (x2 : Int64) =>
    zy1 (if x2 ≤ v10 then (some v9) else
    (some v12)) (fun (x3 : Int32) =>
    zy1 (if x2 ≤ v10 then (some v10) else
    (some x2)) (fun (x4 : Int64) =>
    fX7_offOf_60 v2 v3 v5 v7 σ n x3 x4 (v12 + 1))))))))
def fX7_offOf (v1 : Int32) (v2 : Int32) (σ : zS) : Option (Int32 × zS) :=
    zy1 (fX7_sums v1 v2 σ) (fun s1 =>
    zv (((v2 - v1) + 1).toInt64) (fun (x2 : Int64) =>
    zv ((x2 * (zl s1 4)) - ((zl s1 2) * (zl s1 3))) (fun (x3 : Int64) =>
    zv ((x2 * (zl s1 5)) - ((zl s1 2) * (zl s1 2))) (fun (x4 : Int64) =>
    zy1 (fX7_offOf_60 v2 x2 x3 x4 s1 500 (-1 : Int32) (-1 : Int64) v1) (fun (x5 : Int32) =>
    some (x5, s1))))))
set_option maxHeartbeats 4000000 in
set_option maxRecDepth 100000 in
theorem lX7_offOf_60 {C : zK} {A : Nat → Nat} {cA : Nat → ClassId} (hC : zOK C (wM A cA) cX7_offOf RX7 15 4 95) {v2 : Int32} {v3 : Int64} {v5 : Int64} {v7 : Int64} {σ : zS} : ∀ (n : Nat) (v9 : Int32) (v10 : Int64) (v12 : Int32), zG C (wM A cA) 15 (fun q => zW C (wM A cA) 15 161 [(9, .int q)] [] σ) (fX7_offOf_60 v2 v3 v5 v7 σ n v9 v10 v12) 60 [(0, .ref (A 0)), (2, .int v2), (3, .long v3), (5, .long v5), (7, .long v7), (9, .int v9), (10, .long v10), (12, .int v12)] [] σ := by
  intro n
  induction n with
  | zero => intro v9 v10 v12; exact gg_none (o := none)
  | succ n ih =>
    intro v9 v10 v12
    rw [fX7_offOf_60]
    refine gg_iload (pc := 60) hC dX7_offOf_60 7 rfl ?_
    refine gg_iload_n (pc := 62) hC dX7_offOf_62 (i := 2) rfl 1 rfl ?_
    refine gg_icmp_gt (pc := 63) hC dX7_offOf_63 (tgt := 161) rfl (fun _ => ?_) (fun _ => ?_)
    · exact gg_y (fun h => zW_lv [5] rfl h)
    · refine gg_lload (pc := 66) hC dX7_offOf_66 4 rfl ?_
      refine gg_lload_n (pc := 68) hC dX7_offOf_68 (i := 3) rfl 2 rfl ?_
      refine gg_aload_n (pc := 69) hC dX7_offOf_69 (i := 0) rfl 0 rfl ?_
      refine gg_get (pc := 70) hC dX7_offOf_70 fX7_29 0 pM_0 (v := .ref (A 7)) rfl ?_
      refine gg_iload (pc := 73) hC dX7_offOf_73 7 rfl ?_
      refine gg_lald (pc := 75) hC dX7_offOf_75 7 1 pM_7 rfl ?_
      refine gg_lmul (pc := 76) hC dX7_offOf_76 ?_
      refine gg_aload_n (pc := 77) hC dX7_offOf_77 (i := 0) rfl 0 rfl ?_
      refine gg_get (pc := 78) hC dX7_offOf_78 fX7_233 0 pM_0 (v := .long (zl σ 3)) rfl ?_
      refine gg_lsub (pc := 81) hC dX7_offOf_81 ?_
      refine gg_lmul (pc := 82) hC dX7_offOf_82 ?_
      refine gg_lload (pc := 83) hC dX7_offOf_83 3 rfl ?_
      refine gg_lload_n (pc := 85) hC dX7_offOf_85 (i := 3) rfl 2 rfl ?_
      refine gg_aload_n (pc := 86) hC dX7_offOf_86 (i := 0) rfl 0 rfl ?_
      refine gg_get (pc := 87) hC dX7_offOf_87 fX7_33 0 pM_0 (v := .ref (A 8)) rfl ?_
      refine gg_iload (pc := 90) hC dX7_offOf_90 7 rfl ?_
      refine gg_iald (pc := 92) hC dX7_offOf_92 8 0 pM_8 rfl ?_
      refine gg_i2l (pc := 93) hC dX7_offOf_93 ?_
      refine gg_lmul (pc := 94) hC dX7_offOf_94 ?_
      refine gg_aload_n (pc := 95) hC dX7_offOf_95 (i := 0) rfl 0 rfl ?_
      refine gg_get (pc := 96) hC dX7_offOf_96 fX7_230 0 pM_0 (v := .long (zl σ 2)) rfl ?_
      refine gg_lsub (pc := 99) hC dX7_offOf_99 ?_
      refine gg_lmul (pc := 100) hC dX7_offOf_100 ?_
      refine gg_lsub (pc := 101) hC dX7_offOf_101 ?_
      refine gg_zvl (fun x1 => ?_)
      refine gg_lstore (pc := 102) hC dX7_offOf_102 (Nat.le_of_ble_eq_true rfl) (lv' := [(13, .long x1), (0, .ref (A 0)), (2, .int v2), (3, .long v3), (5, .long v5), (7, .long v7), (9, .int v9), (10, .long v10), (12, .int v12)]) rfl ?_
      refine gg_lload (pc := 104) hC dX7_offOf_104 0 rfl ?_
      refine gg_lconst (pc := 106) hC dX7_offOf_106 (x := 0) rfl ?_
      refine gg_join1 (E' := (fun q => zW C (wM A cA) 15 119 [(0, .ref (A 0)), (2, .int v2), (3, .long v3), (5, .long v5), (7, .long v7), (9, .int v9), (10, .long v10), (12, .int v12)] [.long q] σ)) ?_ (fun x2 => ?_)
      · refine gg_lcmp_ge (pc := 107) hC dX7_offOf_107 dX7_offOf_108 (tgt := 117) rfl (fun _ => ?_) (fun _ => ?_)
        · refine gg_lload (pc := 117) hC dX7_offOf_117 0 rfl ?_
          exact gg_y (fun h => zW_lv [1, 2, 3, 4, 5, 6, 7, 8] rfl h)
        · refine gg_lload (pc := 111) hC dX7_offOf_111 0 rfl ?_
          refine gg_lneg (pc := 113) hC dX7_offOf_113 ?_
          refine gg_goto (pc := 114) hC dX7_offOf_114 (tgt := 119) rfl ?_
          exact gg_y (fun h => zW_lv [1, 2, 3, 4, 5, 6, 7, 8] rfl h)
      · show zG C (wM A cA) 15 _ _ 119 [(0, .ref (A 0)), (2, .int v2), (3, .long v3), (5, .long v5), (7, .long v7), (9, .int v9), (10, .long v10), (12, .int v12)] [.long x2] σ
        refine gg_lstore (pc := 119) hC dX7_offOf_119 (Nat.le_of_ble_eq_true rfl) (lv' := [(13, .long x2), (0, .ref (A 0)), (2, .int v2), (3, .long v3), (5, .long v5), (7, .long v7), (9, .int v9), (10, .long v10), (12, .int v12)]) rfl ?_
        refine gg_lload (pc := 121) hC dX7_offOf_121 0 rfl ?_
        refine gg_lload (pc := 123) hC dX7_offOf_123 7 rfl ?_
        refine gg_join1 (E' := (fun q => zW C (wM A cA) 15 136 [(0, .ref (A 0)), (2, .int v2), (3, .long v3), (5, .long v5), (7, .long v7), (10, .long v10), (12, .int v12), (13, .long x2)] [.int q] σ)) ?_ (fun x3 => ?_)
        · refine gg_lcmp_le (pc := 125) hC dX7_offOf_125 dX7_offOf_126 (tgt := 134) rfl (fun _ => ?_) (fun _ => ?_)
          · refine gg_iload (pc := 134) hC dX7_offOf_134 6 rfl ?_
            exact gg_y (fun h => zW_lv [1, 2, 3, 4, 5, 7, 8, 0] rfl h)
          · refine gg_iload (pc := 129) hC dX7_offOf_129 8 rfl ?_
            refine gg_goto (pc := 131) hC dX7_offOf_131 (tgt := 136) rfl ?_
            exact gg_y (fun h => zW_lv [1, 2, 3, 4, 5, 7, 8, 0] rfl h)
        · show zG C (wM A cA) 15 _ _ 136 [(0, .ref (A 0)), (2, .int v2), (3, .long v3), (5, .long v5), (7, .long v7), (10, .long v10), (12, .int v12), (13, .long x2)] [.int x3] σ
          refine gg_istore (pc := 136) hC dX7_offOf_136 (Nat.le_of_ble_eq_true rfl) (lv' := [(9, .int x3), (0, .ref (A 0)), (2, .int v2), (3, .long v3), (5, .long v5), (7, .long v7), (10, .long v10), (12, .int v12), (13, .long x2)]) rfl ?_
          refine gg_lload (pc := 138) hC dX7_offOf_138 8 rfl ?_
          refine gg_lload (pc := 140) hC dX7_offOf_140 6 rfl ?_
          refine gg_join1 (E' := (fun q => zW C (wM A cA) 15 153 [(0, .ref (A 0)), (2, .int v2), (3, .long v3), (5, .long v5), (7, .long v7), (9, .int x3), (12, .int v12)] [.long q] σ)) ?_ (fun x4 => ?_)
          · refine gg_lcmp_le (pc := 142) hC dX7_offOf_142 dX7_offOf_143 (tgt := 151) rfl (fun _ => ?_) (fun _ => ?_)
            · refine gg_lload (pc := 151) hC dX7_offOf_151 6 rfl ?_
              exact gg_y (fun h => zW_lv [1, 2, 3, 4, 5, 0, 7] rfl h)
            · refine gg_lload (pc := 146) hC dX7_offOf_146 8 rfl ?_
              refine gg_goto (pc := 148) hC dX7_offOf_148 (tgt := 153) rfl ?_
              exact gg_y (fun h => zW_lv [1, 2, 3, 4, 5, 0, 7] rfl h)
          · show zG C (wM A cA) 15 _ _ 153 [(0, .ref (A 0)), (2, .int v2), (3, .long v3), (5, .long v5), (7, .long v7), (9, .int x3), (12, .int v12)] [.long x4] σ
            refine gg_lstore (pc := 153) hC dX7_offOf_153 (Nat.le_of_ble_eq_true rfl) (lv' := [(10, .long x4), (0, .ref (A 0)), (2, .int v2), (3, .long v3), (5, .long v5), (7, .long v7), (9, .int x3), (12, .int v12)]) rfl ?_
            refine gg_iinc (pc := 155) hC dX7_offOf_155 (y := 0) (j := 7) rfl (z := 1) rfl (Nat.le_of_ble_eq_true rfl) (lv' := [(12, .int (v12 + 1)), (10, .long x4), (0, .ref (A 0)), (2, .int v2), (3, .long v3), (5, .long v5), (7, .long v7), (9, .int x3)]) rfl ?_
            refine gg_goto (pc := 158) hC dX7_offOf_158 (tgt := 60) rfl ?_
            exact gg_lv [2, 3, 4, 5, 6, 7, 1, 0] rfl (ih _ _ _)
set_option maxHeartbeats 4000000 in
set_option maxRecDepth 100000 in
theorem mX7_offOf {l : Launch} {D : va_G} {A : Nat → Nat} {cA : Nat → ClassId} {v1 : Int32} {v2 : Int32}  {σ : zS} {r : Int32 × zS} (h : fX7_offOf v1 v2 σ = some r) : zMI l D (wM A cA) yX7_offOf (zws yX7_offOf cX7_offOf 15 (some .int)) 4 95 [.ref (A 0), .int v1, .int v2] σ r := by
  refine zm_I (lv := [(0, .ref (A 0)), (1, .int v1), (2, .int v2)]) rfl sM_ok (Nat.le_of_ble_eq_true rfl) rfl (fun C _ _ hC hR => ?_) h
  unfold fX7_offOf
  refine gg_aload_n (pc := 0) hC dX7_offOf_0 (i := 0) rfl 0 rfl ?_
  refine gg_iload_n (pc := 1) hC dX7_offOf_1 (i := 1) rfl 1 rfl ?_
  refine gg_iload_n (pc := 2) hC dX7_offOf_2 (i := 2) rfl 2 rfl ?_
  refine gg_callVV (pc := 3) hC dX7_offOf_3 vX7_242 (fun _ h => mX7_sums h) (Nat.le_of_ble_eq_true rfl) (Nat.le_of_ble_eq_true rfl) (As := [.int v1, .int v2]) (rest := []) rfl rfl (Nat.le_of_ble_eq_true rfl) 0 7 pM_0 rfl (fun s1 => ?_)
  refine gg_iload_n (pc := 6) hC dX7_offOf_6 (i := 2) rfl 2 rfl ?_
  refine gg_iload_n (pc := 7) hC dX7_offOf_7 (i := 1) rfl 1 rfl ?_
  refine gg_isub (pc := 8) hC dX7_offOf_8 ?_
  refine gg_iconst (pc := 9) hC dX7_offOf_9 (x := 1) rfl ?_
  refine gg_iadd (pc := 10) hC dX7_offOf_10 ?_
  refine gg_i2l (pc := 11) hC dX7_offOf_11 ?_
  refine gg_zvl (fun x2 => ?_)
  refine gg_lstore_n (pc := 12) hC dX7_offOf_12 (i := 3) rfl (Nat.le_of_ble_eq_true rfl) (lv' := [(3, .long x2), (0, .ref (A 0)), (1, .int v1), (2, .int v2)]) rfl ?_
  refine gg_lload_n (pc := 13) hC dX7_offOf_13 (i := 3) rfl 0 rfl ?_
  refine gg_aload_n (pc := 14) hC dX7_offOf_14 (i := 0) rfl 1 rfl ?_
  refine gg_get (pc := 15) hC dX7_offOf_15 fX7_236 0 pM_0 (v := .long (zl s1 4)) rfl ?_
  refine gg_lmul (pc := 18) hC dX7_offOf_18 ?_
  refine gg_aload_n (pc := 19) hC dX7_offOf_19 (i := 0) rfl 1 rfl ?_
  refine gg_get (pc := 20) hC dX7_offOf_20 fX7_230 0 pM_0 (v := .long (zl s1 2)) rfl ?_
  refine gg_aload_n (pc := 23) hC dX7_offOf_23 (i := 0) rfl 1 rfl ?_
  refine gg_get (pc := 24) hC dX7_offOf_24 fX7_233 0 pM_0 (v := .long (zl s1 3)) rfl ?_
  refine gg_lmul (pc := 27) hC dX7_offOf_27 ?_
  refine gg_lsub (pc := 28) hC dX7_offOf_28 ?_
  refine gg_zvl (fun x3 => ?_)
  refine gg_lstore (pc := 29) hC dX7_offOf_29 (Nat.le_of_ble_eq_true rfl) (lv' := [(5, .long x3), (3, .long x2), (0, .ref (A 0)), (1, .int v1), (2, .int v2)]) rfl ?_
  refine gg_lload_n (pc := 31) hC dX7_offOf_31 (i := 3) rfl 1 rfl ?_
  refine gg_aload_n (pc := 32) hC dX7_offOf_32 (i := 0) rfl 2 rfl ?_
  refine gg_get (pc := 33) hC dX7_offOf_33 fX7_239 0 pM_0 (v := .long (zl s1 5)) rfl ?_
  refine gg_lmul (pc := 36) hC dX7_offOf_36 ?_
  refine gg_aload_n (pc := 37) hC dX7_offOf_37 (i := 0) rfl 2 rfl ?_
  refine gg_get (pc := 38) hC dX7_offOf_38 fX7_230 0 pM_0 (v := .long (zl s1 2)) rfl ?_
  refine gg_aload_n (pc := 41) hC dX7_offOf_41 (i := 0) rfl 2 rfl ?_
  refine gg_get (pc := 42) hC dX7_offOf_42 fX7_230 0 pM_0 (v := .long (zl s1 2)) rfl ?_
  refine gg_lmul (pc := 45) hC dX7_offOf_45 ?_
  refine gg_lsub (pc := 46) hC dX7_offOf_46 ?_
  refine gg_zvl (fun x4 => ?_)
  refine gg_lstore (pc := 47) hC dX7_offOf_47 (Nat.le_of_ble_eq_true rfl) (lv' := [(7, .long x4), (5, .long x3), (3, .long x2), (0, .ref (A 0)), (1, .int v1), (2, .int v2)]) rfl ?_
  refine gg_iconst (pc := 49) hC dX7_offOf_49 (x := -1) rfl ?_
  refine gg_istore (pc := 50) hC dX7_offOf_50 (Nat.le_of_ble_eq_true rfl) (lv' := [(9, .int (-1 : Int32)), (7, .long x4), (5, .long x3), (3, .long x2), (0, .ref (A 0)), (1, .int v1), (2, .int v2)]) rfl ?_
  refine gg_ldc2 (pc := 52) hC dX7_offOf_52 qX7_252 ?_
  refine gg_lstore (pc := 55) hC dX7_offOf_55 (Nat.le_of_ble_eq_true rfl) (lv' := [(10, .long (-1 : Int64)), (9, .int (-1 : Int32)), (7, .long x4), (5, .long x3), (3, .long x2), (0, .ref (A 0)), (1, .int v1), (2, .int v2)]) rfl ?_
  refine gg_iload_n (pc := 57) hC dX7_offOf_57 (i := 1) rfl 6 rfl ?_
  refine gg_istore (pc := 58) hC dX7_offOf_58 (Nat.le_of_ble_eq_true rfl) (lv' := [(12, .int v1), (10, .long (-1 : Int64)), (9, .int (-1 : Int32)), (7, .long x4), (5, .long x3), (3, .long x2), (0, .ref (A 0)), (1, .int v1), (2, .int v2)]) rfl ?_
  refine gg_join1 (E' := (fun q => zW C (wM A cA) 15 161 [(9, .int q)] [] s1)) (gg_lv [6, 8, 5, 4, 3, 2, 1, 0] rfl (lX7_offOf_60 hC  500 _ _ _)) (fun x5 => ?_)
  show zG C (wM A cA) 15 _ _ 161 [(9, .int x5)] [] s1
  refine gg_iload (pc := 161) hC dX7_offOf_161 0 rfl ?_
  exact gg_iret (pc := 163) hR dX7_offOf_163
def fX7_chainDigest_33 : Nat → Int64 → Int32 → zS → Option (Int64 × zS)
  | 0, _, _, _ => none
  | n + 1, v3, v5, σ =>
    if 5 ≤ v5 then (some (v3, σ)) else
    (zy2 (fX7_chainOf 7 1 v5 σ) (fun x1 s2 =>
    zv (((31 : Int64) * v3) + (x1.toInt64)) (fun (x3 : Int64) =>
    fX7_chainDigest_33  n x3 (v5 + 1) s2)))
def fX7_chainDigest (v1 : Int64) (σ : zS) : Option (Int64 × zS) :=
    zy2 (fX7_chainOf 3 0 3 σ) (fun x1 s2 =>
    zv (((31 : Int64) * v1) + (x1.toInt64)) (fun (x3 : Int64) =>
    zy2 (fX7_chainOf 3 0 4 s2) (fun x4 s5 =>
    zv (((31 : Int64) * x3) + (x4.toInt64)) (fun (x6 : Int64) =>
    zy2 (fX7_chainDigest_33  500 x6 0 s5) (fun (x7 : Int64) (s8 : zS) =>
    zy2 (if (zi s8 0) ≤ 1 then (some (x7, s8)) else
    (zy2 (fX7_fitOf 0 ((zi s8 0) - 1) 0 s8) (fun x9 s10 =>
    zv (((31 : Int64) * x7) + x9) (fun (x11 : Int64) =>
    zy2 (fX7_fitOf 0 ((zi s10 0) - 1) 1 s10) (fun x12 s13 =>
    zv (((31 : Int64) * x11) + x12) (fun (x14 : Int64) =>
    zy2 (fX7_offOf 0 ((zi s13 0) - 1) s13) (fun x15 s16 =>
    zv (((31 : Int64) * x14) + (x15.toInt64)) (fun (x17 : Int64) =>
    some (x17, s16))))))))) (fun (x18 : Int64) (s19 : zS) =>
    zy1 (fX7_gainOf 5 0 s19) (fun x20 =>
    zv (((31 : Int64) * x18) + x20) (fun (x21 : Int64) =>
    zy1 (fX7_gainOf 5 1 s19) (fun x22 =>
    some ((((31 : Int64) * x21) + x22), s19))))))))))
set_option maxHeartbeats 4000000 in
set_option maxRecDepth 100000 in
theorem lX7_chainDigest_33 {C : zK} {A : Nat → Nat} {cA : Nat → ClassId} (hC : zOK C (wM A cA) cX7_chainDigest RX7 6 5 129) : ∀ (n : Nat) (v3 : Int64) (v5 : Int32) (σ : zS), zG C (wM A cA) 6 (fun q => zW C (wM A cA) 6 62 [(0, .ref (A 0)), (3, .long q.1)] [] q.2) (fX7_chainDigest_33  n v3 v5 σ) 33 [(0, .ref (A 0)), (3, .long v3), (5, .int v5)] [] σ := by
  intro n
  induction n with
  | zero => intro v3 v5 σ; exact gg_none (o := none)
  | succ n ih =>
    intro v3 v5 σ
    rw [fX7_chainDigest_33]
    refine gg_iload (pc := 33) hC dX7_chainDigest_33 2 rfl ?_
    refine gg_iconst (pc := 35) hC dX7_chainDigest_35 (x := 5) rfl ?_
    refine gg_icmp_ge (pc := 36) hC dX7_chainDigest_36 (tgt := 62) rfl (fun _ => ?_) (fun _ => ?_)
    · exact gg_y (fun h => zW_lv [0, 1] rfl h)
    · refine gg_ldc2 (pc := 39) hC dX7_chainDigest_39 qX7_311 ?_
      refine gg_lload_n (pc := 42) hC dX7_chainDigest_42 (i := 3) rfl 1 rfl ?_
      refine gg_lmul (pc := 43) hC dX7_chainDigest_43 ?_
      refine gg_aload_n (pc := 44) hC dX7_chainDigest_44 (i := 0) rfl 0 rfl ?_
      refine gg_bipush (pc := 45) hC dX7_chainDigest_45 (x := 7) rfl ?_
      refine gg_iconst (pc := 47) hC dX7_chainDigest_47 (x := 1) rfl ?_
      refine gg_iload (pc := 48) hC dX7_chainDigest_48 2 rfl ?_
      refine gg_callVI (pc := 50) hC dX7_chainDigest_50 vX7_226 (fun _ h => mX7_chainOf h) (Nat.le_of_ble_eq_true rfl) (Nat.le_of_ble_eq_true rfl) (As := [.int 7, .int 1, .int v5]) (rest := [.long ((31 : Int64) * v3)]) rfl rfl (Nat.le_of_ble_eq_true rfl) 0 7 pM_0 rfl (fun x1 s2 => ?_)
      refine gg_i2l (pc := 53) hC dX7_chainDigest_53 ?_
      refine gg_ladd (pc := 54) hC dX7_chainDigest_54 ?_
      refine gg_zvl (fun x3 => ?_)
      refine gg_lstore_n (pc := 55) hC dX7_chainDigest_55 (i := 3) rfl (Nat.le_of_ble_eq_true rfl) (lv' := [(3, .long x3), (0, .ref (A 0)), (5, .int v5)]) rfl ?_
      refine gg_iinc (pc := 56) hC dX7_chainDigest_56 (y := 0) (j := 2) rfl (z := 1) rfl (Nat.le_of_ble_eq_true rfl) (lv' := [(5, .int (v5 + 1)), (3, .long x3), (0, .ref (A 0))]) rfl ?_
      refine gg_goto (pc := 59) hC dX7_chainDigest_59 (tgt := 33) rfl ?_
      exact gg_lv [2, 1, 0] rfl (ih _ _ _)
set_option maxHeartbeats 4000000 in
set_option maxRecDepth 100000 in
theorem mX7_chainDigest {l : Launch} {D : va_G} {A : Nat → Nat} {cA : Nat → ClassId} {v1 : Int64}  {σ : zS} {r : Int64 × zS} (h : fX7_chainDigest v1 σ = some r) : zML l D (wM A cA) yX7_chainDigest (zws yX7_chainDigest cX7_chainDigest 6 (some .long)) 5 129 [.ref (A 0), .long v1] σ r := by
  refine zm_L (lv := [(0, .ref (A 0)), (1, .long v1)]) rfl sM_ok (Nat.le_of_ble_eq_true rfl) rfl (fun C _ _ hC hR => ?_) h
  unfold fX7_chainDigest
  refine gg_ldc2 (pc := 0) hC dX7_chainDigest_0 qX7_311 ?_
  refine gg_lload_n (pc := 3) hC dX7_chainDigest_3 (i := 1) rfl 1 rfl ?_
  refine gg_lmul (pc := 4) hC dX7_chainDigest_4 ?_
  refine gg_aload_n (pc := 5) hC dX7_chainDigest_5 (i := 0) rfl 0 rfl ?_
  refine gg_iconst (pc := 6) hC dX7_chainDigest_6 (x := 3) rfl ?_
  refine gg_iconst (pc := 7) hC dX7_chainDigest_7 (x := 0) rfl ?_
  refine gg_iconst (pc := 8) hC dX7_chainDigest_8 (x := 3) rfl ?_
  refine gg_callVI (pc := 9) hC dX7_chainDigest_9 vX7_226 (fun _ h => mX7_chainOf h) (Nat.le_of_ble_eq_true rfl) (Nat.le_of_ble_eq_true rfl) (As := [.int 3, .int 0, .int 3]) (rest := [.long ((31 : Int64) * v1)]) rfl rfl (Nat.le_of_ble_eq_true rfl) 0 7 pM_0 rfl (fun x1 s2 => ?_)
  refine gg_i2l (pc := 12) hC dX7_chainDigest_12 ?_
  refine gg_ladd (pc := 13) hC dX7_chainDigest_13 ?_
  refine gg_zvl (fun x3 => ?_)
  refine gg_lstore_n (pc := 14) hC dX7_chainDigest_14 (i := 3) rfl (Nat.le_of_ble_eq_true rfl) (lv' := [(3, .long x3), (0, .ref (A 0)), (1, .long v1)]) rfl ?_
  refine gg_ldc2 (pc := 15) hC dX7_chainDigest_15 qX7_311 ?_
  refine gg_lload_n (pc := 18) hC dX7_chainDigest_18 (i := 3) rfl 0 rfl ?_
  refine gg_lmul (pc := 19) hC dX7_chainDigest_19 ?_
  refine gg_aload_n (pc := 20) hC dX7_chainDigest_20 (i := 0) rfl 1 rfl ?_
  refine gg_iconst (pc := 21) hC dX7_chainDigest_21 (x := 3) rfl ?_
  refine gg_iconst (pc := 22) hC dX7_chainDigest_22 (x := 0) rfl ?_
  refine gg_iconst (pc := 23) hC dX7_chainDigest_23 (x := 4) rfl ?_
  refine gg_callVI (pc := 24) hC dX7_chainDigest_24 vX7_226 (fun _ h => mX7_chainOf h) (Nat.le_of_ble_eq_true rfl) (Nat.le_of_ble_eq_true rfl) (As := [.int 3, .int 0, .int 4]) (rest := [.long ((31 : Int64) * x3)]) rfl rfl (Nat.le_of_ble_eq_true rfl) 0 7 pM_0 rfl (fun x4 s5 => ?_)
  refine gg_i2l (pc := 27) hC dX7_chainDigest_27 ?_
  refine gg_ladd (pc := 28) hC dX7_chainDigest_28 ?_
  refine gg_zvl (fun x6 => ?_)
  refine gg_lstore_n (pc := 29) hC dX7_chainDigest_29 (i := 3) rfl (Nat.le_of_ble_eq_true rfl) (lv' := [(3, .long x6), (0, .ref (A 0)), (1, .long v1)]) rfl ?_
  refine gg_iconst (pc := 30) hC dX7_chainDigest_30 (x := 0) rfl ?_
  refine gg_istore (pc := 31) hC dX7_chainDigest_31 (Nat.le_of_ble_eq_true rfl) (lv' := [(5, .int 0), (3, .long x6), (0, .ref (A 0)), (1, .long v1)]) rfl ?_
  refine gg_join2 (E' := (fun q => zW C (wM A cA) 6 62 [(0, .ref (A 0)), (3, .long q.1)] [] q.2)) (gg_lv [2, 1, 0] rfl (lX7_chainDigest_33 hC  500 _ _ _)) (fun x7 s8 => ?_)
  show zG C (wM A cA) 6 _ _ 62 [(0, .ref (A 0)), (3, .long x7)] [] s8
  refine gg_aload_n (pc := 62) hC dX7_chainDigest_62 (i := 0) rfl 0 rfl ?_
  refine gg_get (pc := 63) hC dX7_chainDigest_63 fX7_81 0 pM_0 (v := .int (zi s8 0)) rfl ?_
  refine gg_iconst (pc := 66) hC dX7_chainDigest_66 (x := 1) rfl ?_
  refine gg_join2 (E' := (fun q => zW C (wM A cA) 6 127 [(3, .long q.1)] [] q.2)) ?_ (fun x18 s19 => ?_)
  · refine gg_icmp_le (pc := 67) hC dX7_chainDigest_67 (tgt := 127) rfl (fun _ => ?_) (fun _ => ?_)
    · exact gg_y (fun h => zW_lv [1] rfl h)
    · refine gg_ldc2 (pc := 70) hC dX7_chainDigest_70 qX7_311 ?_
      refine gg_lload_n (pc := 73) hC dX7_chainDigest_73 (i := 3) rfl 1 rfl ?_
      refine gg_lmul (pc := 74) hC dX7_chainDigest_74 ?_
      refine gg_aload_n (pc := 75) hC dX7_chainDigest_75 (i := 0) rfl 0 rfl ?_
      refine gg_iconst (pc := 76) hC dX7_chainDigest_76 (x := 0) rfl ?_
      refine gg_aload_n (pc := 77) hC dX7_chainDigest_77 (i := 0) rfl 0 rfl ?_
      refine gg_get (pc := 78) hC dX7_chainDigest_78 fX7_81 0 pM_0 (v := .int (zi s8 0)) rfl ?_
      refine gg_iconst (pc := 81) hC dX7_chainDigest_81 (x := 1) rfl ?_
      refine gg_isub (pc := 82) hC dX7_chainDigest_82 ?_
      refine gg_iconst (pc := 83) hC dX7_chainDigest_83 (x := 0) rfl ?_
      refine gg_callVL (pc := 84) hC dX7_chainDigest_84 vX7_249 (fun _ h => mX7_fitOf h) (Nat.le_of_ble_eq_true rfl) (Nat.le_of_ble_eq_true rfl) (As := [.int 0, .int ((zi s8 0) - 1), .int 0]) (rest := [.long ((31 : Int64) * x7)]) rfl rfl (Nat.le_of_ble_eq_true rfl) 0 7 pM_0 rfl (fun x9 s10 => ?_)
      refine gg_ladd (pc := 87) hC dX7_chainDigest_87 ?_
      refine gg_zvl (fun x11 => ?_)
      refine gg_lstore_n (pc := 88) hC dX7_chainDigest_88 (i := 3) rfl (Nat.le_of_ble_eq_true rfl) (lv' := [(3, .long x11), (0, .ref (A 0))]) rfl ?_
      refine gg_ldc2 (pc := 89) hC dX7_chainDigest_89 qX7_311 ?_
      refine gg_lload_n (pc := 92) hC dX7_chainDigest_92 (i := 3) rfl 0 rfl ?_
      refine gg_lmul (pc := 93) hC dX7_chainDigest_93 ?_
      refine gg_aload_n (pc := 94) hC dX7_chainDigest_94 (i := 0) rfl 1 rfl ?_
      refine gg_iconst (pc := 95) hC dX7_chainDigest_95 (x := 0) rfl ?_
      refine gg_aload_n (pc := 96) hC dX7_chainDigest_96 (i := 0) rfl 1 rfl ?_
      refine gg_get (pc := 97) hC dX7_chainDigest_97 fX7_81 0 pM_0 (v := .int (zi s10 0)) rfl ?_
      refine gg_iconst (pc := 100) hC dX7_chainDigest_100 (x := 1) rfl ?_
      refine gg_isub (pc := 101) hC dX7_chainDigest_101 ?_
      refine gg_iconst (pc := 102) hC dX7_chainDigest_102 (x := 1) rfl ?_
      refine gg_callVL (pc := 103) hC dX7_chainDigest_103 vX7_249 (fun _ h => mX7_fitOf h) (Nat.le_of_ble_eq_true rfl) (Nat.le_of_ble_eq_true rfl) (As := [.int 0, .int ((zi s10 0) - 1), .int 1]) (rest := [.long ((31 : Int64) * x11)]) rfl rfl (Nat.le_of_ble_eq_true rfl) 0 7 pM_0 rfl (fun x12 s13 => ?_)
      refine gg_ladd (pc := 106) hC dX7_chainDigest_106 ?_
      refine gg_zvl (fun x14 => ?_)
      refine gg_lstore_n (pc := 107) hC dX7_chainDigest_107 (i := 3) rfl (Nat.le_of_ble_eq_true rfl) (lv' := [(3, .long x14), (0, .ref (A 0))]) rfl ?_
      refine gg_ldc2 (pc := 108) hC dX7_chainDigest_108 qX7_311 ?_
      refine gg_lload_n (pc := 111) hC dX7_chainDigest_111 (i := 3) rfl 0 rfl ?_
      refine gg_lmul (pc := 112) hC dX7_chainDigest_112 ?_
      refine gg_aload_n (pc := 113) hC dX7_chainDigest_113 (i := 0) rfl 1 rfl ?_
      refine gg_iconst (pc := 114) hC dX7_chainDigest_114 (x := 0) rfl ?_
      refine gg_aload_n (pc := 115) hC dX7_chainDigest_115 (i := 0) rfl 1 rfl ?_
      refine gg_get (pc := 116) hC dX7_chainDigest_116 fX7_81 0 pM_0 (v := .int (zi s13 0)) rfl ?_
      refine gg_iconst (pc := 119) hC dX7_chainDigest_119 (x := 1) rfl ?_
      refine gg_isub (pc := 120) hC dX7_chainDigest_120 ?_
      refine gg_callVI (pc := 121) hC dX7_chainDigest_121 vX7_254 (fun _ h => mX7_offOf h) (Nat.le_of_ble_eq_true rfl) (Nat.le_of_ble_eq_true rfl) (As := [.int 0, .int ((zi s13 0) - 1)]) (rest := [.long ((31 : Int64) * x14)]) rfl rfl (Nat.le_of_ble_eq_true rfl) 0 7 pM_0 rfl (fun x15 s16 => ?_)
      refine gg_i2l (pc := 124) hC dX7_chainDigest_124 ?_
      refine gg_ladd (pc := 125) hC dX7_chainDigest_125 ?_
      refine gg_zvl (fun x17 => ?_)
      refine gg_lstore_n (pc := 126) hC dX7_chainDigest_126 (i := 3) rfl (Nat.le_of_ble_eq_true rfl) (lv' := [(3, .long x17), (0, .ref (A 0))]) rfl ?_
      exact gg_y (fun h => zW_lv [0] rfl h)
  · show zG C (wM A cA) 6 _ _ 127 [(3, .long x18)] [] s19
    refine gg_ldc2 (pc := 127) hC dX7_chainDigest_127 qX7_311 ?_
    refine gg_lload_n (pc := 130) hC dX7_chainDigest_130 (i := 3) rfl 0 rfl ?_
    refine gg_lmul (pc := 131) hC dX7_chainDigest_131 ?_
    refine gg_iconst (pc := 132) hC dX7_chainDigest_132 (x := 5) rfl ?_
    refine gg_iconst (pc := 133) hC dX7_chainDigest_133 (x := 0) rfl ?_
    refine gg_callSLr (pc := 134) hC dX7_chainDigest_134 cX7_257 (fun _ h => mX7_gainOf h) (Nat.le_of_ble_eq_true rfl) (Nat.le_of_ble_eq_true rfl) (As := [.int 5, .int 0]) (rest := [.long ((31 : Int64) * x18)]) rfl rfl (Nat.le_of_ble_eq_true rfl) (fun x20 => ?_)
    refine gg_ladd (pc := 137) hC dX7_chainDigest_137 ?_
    refine gg_zvl (fun x21 => ?_)
    refine gg_lstore_n (pc := 138) hC dX7_chainDigest_138 (i := 3) rfl (Nat.le_of_ble_eq_true rfl) (lv' := [(3, .long x21)]) rfl ?_
    refine gg_ldc2 (pc := 139) hC dX7_chainDigest_139 qX7_311 ?_
    refine gg_lload_n (pc := 142) hC dX7_chainDigest_142 (i := 3) rfl 0 rfl ?_
    refine gg_lmul (pc := 143) hC dX7_chainDigest_143 ?_
    refine gg_iconst (pc := 144) hC dX7_chainDigest_144 (x := 5) rfl ?_
    refine gg_iconst (pc := 145) hC dX7_chainDigest_145 (x := 1) rfl ?_
    refine gg_callSLr (pc := 146) hC dX7_chainDigest_146 cX7_257 (fun _ h => mX7_gainOf h) (Nat.le_of_ble_eq_true rfl) (Nat.le_of_ble_eq_true rfl) (As := [.int 5, .int 1]) (rest := [.long ((31 : Int64) * x21)]) rfl rfl (Nat.le_of_ble_eq_true rfl) (fun x22 => ?_)
    refine gg_ladd (pc := 149) hC dX7_chainDigest_149 ?_
    exact gg_lret (pc := 150) hR dX7_chainDigest_150
def fX7_clear  (σ : zS) : Option (Int32 × zS) :=
    zv (zi σ 0) (fun (x1 : Int32) =>
    zv (wi σ 0 0) (fun (s2 : zS) =>
    some (x1, s2)))
set_option maxHeartbeats 4000000 in
set_option maxRecDepth 100000 in
theorem mX7_clear {l : Launch} {D : va_G} {A : Nat → Nat} {cA : Nat → ClassId}   {σ : zS} {r : Int32 × zS} (h : fX7_clear  σ = some r) : zMI l D (wM A cA) yX7_clear (zws yX7_clear cX7_clear 2 (some .int)) 0 0 [.ref (A 0)] σ r := by
  refine zm_I (lv := [(0, .ref (A 0))]) rfl sM_ok (Nat.le_of_ble_eq_true rfl) rfl (fun C _ _ hC hR => ?_) h
  unfold fX7_clear
  refine gg_aload_n (pc := 0) hC dX7_clear_0 (i := 0) rfl 0 rfl ?_
  refine gg_get (pc := 1) hC dX7_clear_1 fX7_81 0 pM_0 (v := .int (zi σ 0)) rfl ?_
  refine gg_zvi (fun x1 => ?_)
  refine gg_istore_n (pc := 4) hC dX7_clear_4 (i := 1) rfl (Nat.le_of_ble_eq_true rfl) (lv' := [(1, .int x1), (0, .ref (A 0))]) rfl ?_
  refine gg_aload_n (pc := 5) hC dX7_clear_5 (i := 0) rfl 1 rfl ?_
  refine gg_iconst (pc := 6) hC dX7_clear_6 (x := 0) rfl ?_
  refine gg_put (pc := 7) hC dX7_clear_7 fX7_81 tX7_2 0 pM_0 rfl rfl rfl (Nat.le_of_ble_eq_true rfl) sM_0_1 ?_
  refine gg_zvs (fun s2 => ?_)
  refine gg_iload_n (pc := 10) hC dX7_clear_10 (i := 1) rfl 0 rfl ?_
  exact gg_iret (pc := 11) hR dX7_clear_11
def fX7_opens (v1 : Int32) (σ : zS) : Option (Int32) :=
    zg (zq v1 8) (zy1 (fX7_placeFor (za σ 9 v1.toNatClampNeg) σ) (fun x1 =>
    if (zi σ 0) ≤ x1 then (some (-1 : Int32)) else
    (some x1)))
set_option maxHeartbeats 4000000 in
set_option maxRecDepth 100000 in
theorem mX7_opens {l : Launch} {D : va_G} {A : Nat → Nat} {cA : Nat → ClassId} {v1 : Int32}  {σ : zS} {r : Int32} (h : fX7_opens v1 σ = some r) : zMI l D (wM A cA) yX7_opens (zws yX7_opens cX7_opens 3 (some .int)) 1 22 [.ref (A 0), .int v1] σ (r, σ) := by
  refine zm_Ir (lv := [(0, .ref (A 0)), (1, .int v1)]) rfl sM_ok (Nat.le_of_ble_eq_true rfl) rfl (fun C _ _ hC hR => ?_) h
  unfold fX7_opens
  refine gg_aload_n (pc := 0) hC dX7_opens_0 (i := 0) rfl 0 rfl ?_
  refine gg_aload_n (pc := 1) hC dX7_opens_1 (i := 0) rfl 0 rfl ?_
  refine gg_get (pc := 2) hC dX7_opens_2 fX7_45 0 pM_0 (v := .ref (A 12)) rfl ?_
  refine gg_iload_n (pc := 5) hC dX7_opens_5 (i := 1) rfl 1 rfl ?_
  refine gg_iald (pc := 6) hC dX7_opens_6 12 0 pM_12 rfl ?_
  refine gg_callVIr (pc := 7) hC dX7_opens_7 vX7_89 (fun _ h => mX7_placeFor h) (Nat.le_of_ble_eq_true rfl) (Nat.le_of_ble_eq_true rfl) (As := [.int (za σ 9 v1.toNatClampNeg)]) (rest := []) rfl rfl (Nat.le_of_ble_eq_true rfl) 0 7 pM_0 rfl (fun x1 => ?_)
  refine gg_istore_n (pc := 10) hC dX7_opens_10 (i := 2) rfl (Nat.le_of_ble_eq_true rfl) (lv' := [(2, .int x1), (0, .ref (A 0)), (1, .int v1)]) rfl ?_
  refine gg_iload_n (pc := 11) hC dX7_opens_11 (i := 2) rfl 0 rfl ?_
  refine gg_aload_n (pc := 12) hC dX7_opens_12 (i := 0) rfl 1 rfl ?_
  refine gg_get (pc := 13) hC dX7_opens_13 fX7_81 0 pM_0 (v := .int (zi σ 0)) rfl ?_
  refine gg_icmp_ge (pc := 16) hC dX7_opens_16 (tgt := 23) rfl (fun _ => ?_) (fun _ => ?_)
  · refine gg_iconst (pc := 23) hC dX7_opens_23 (x := -1) rfl ?_
    exact gg_iretr (pc := 24) hR dX7_opens_24
  · refine gg_iload_n (pc := 19) hC dX7_opens_19 (i := 2) rfl 0 rfl ?_
    refine gg_goto (pc := 20) hC dX7_opens_20 (tgt := 24) rfl ?_
    exact gg_iretr (pc := 24) hR dX7_opens_24
def fX7_closes (v1 : Int32) (σ : zS) : Option (Int32) :=
    zg (zq v1 8) (zy1 (fX7_placeFor (za σ 10 v1.toNatClampNeg) σ) (fun x1 =>
    if (zi σ 0) ≤ x1 then (some (-1 : Int32)) else
    (zy1 (fX7_opens v1 σ) (fun x2 =>
    if x1 = x2 then (some (-1 : Int32)) else
    (some x1)))))
set_option maxHeartbeats 4000000 in
set_option maxRecDepth 100000 in
theorem mX7_closes {l : Launch} {D : va_G} {A : Nat → Nat} {cA : Nat → ClassId} {v1 : Int32}  {σ : zS} {r : Int32} (h : fX7_closes v1 σ = some r) : zMI l D (wM A cA) yX7_closes (zws yX7_closes cX7_closes 3 (some .int)) 2 44 [.ref (A 0), .int v1] σ (r, σ) := by
  refine zm_Ir (lv := [(0, .ref (A 0)), (1, .int v1)]) rfl sM_ok (Nat.le_of_ble_eq_true rfl) rfl (fun C _ _ hC hR => ?_) h
  unfold fX7_closes
  refine gg_aload_n (pc := 0) hC dX7_closes_0 (i := 0) rfl 0 rfl ?_
  refine gg_aload_n (pc := 1) hC dX7_closes_1 (i := 0) rfl 0 rfl ?_
  refine gg_get (pc := 2) hC dX7_closes_2 fX7_48 0 pM_0 (v := .ref (A 13)) rfl ?_
  refine gg_iload_n (pc := 5) hC dX7_closes_5 (i := 1) rfl 1 rfl ?_
  refine gg_iald (pc := 6) hC dX7_closes_6 13 0 pM_13 rfl ?_
  refine gg_callVIr (pc := 7) hC dX7_closes_7 vX7_89 (fun _ h => mX7_placeFor h) (Nat.le_of_ble_eq_true rfl) (Nat.le_of_ble_eq_true rfl) (As := [.int (za σ 10 v1.toNatClampNeg)]) (rest := []) rfl rfl (Nat.le_of_ble_eq_true rfl) 0 7 pM_0 rfl (fun x1 => ?_)
  refine gg_istore_n (pc := 10) hC dX7_closes_10 (i := 2) rfl (Nat.le_of_ble_eq_true rfl) (lv' := [(2, .int x1), (0, .ref (A 0)), (1, .int v1)]) rfl ?_
  refine gg_iload_n (pc := 11) hC dX7_closes_11 (i := 2) rfl 0 rfl ?_
  refine gg_aload_n (pc := 12) hC dX7_closes_12 (i := 0) rfl 1 rfl ?_
  refine gg_get (pc := 13) hC dX7_closes_13 fX7_81 0 pM_0 (v := .int (zi σ 0)) rfl ?_
  refine gg_icmp_ge (pc := 16) hC dX7_closes_16 (tgt := 32) rfl (fun _ => ?_) (fun _ => ?_)
  · refine gg_iconst (pc := 32) hC dX7_closes_32 (x := -1) rfl ?_
    exact gg_iretr (pc := 33) hR dX7_closes_33
  · refine gg_iload_n (pc := 19) hC dX7_closes_19 (i := 2) rfl 0 rfl ?_
    refine gg_aload_n (pc := 20) hC dX7_closes_20 (i := 0) rfl 1 rfl ?_
    refine gg_iload_n (pc := 21) hC dX7_closes_21 (i := 1) rfl 2 rfl ?_
    refine gg_callVIr (pc := 22) hC dX7_closes_22 vX7_197 (fun _ h => mX7_opens h) (Nat.le_of_ble_eq_true rfl) (Nat.le_of_ble_eq_true rfl) (As := [.int v1]) (rest := [.int x1]) rfl rfl (Nat.le_of_ble_eq_true rfl) 0 7 pM_0 rfl (fun x2 => ?_)
    refine gg_icmp_eq (pc := 25) hC dX7_closes_25 (tgt := 32) rfl (fun _ => ?_) (fun _ => ?_)
    · refine gg_iconst (pc := 32) hC dX7_closes_32 (x := -1) rfl ?_
      exact gg_iretr (pc := 33) hR dX7_closes_33
    · refine gg_iload_n (pc := 28) hC dX7_closes_28 (i := 2) rfl 0 rfl ?_
      refine gg_goto (pc := 29) hC dX7_closes_29 (tgt := 33) rfl ?_
      exact gg_iretr (pc := 33) hR dX7_closes_33
def fX7_isAhead (v1 : Int32) (v2 : Int32) (σ : zS) : Option (Int32) :=
    zy1 (fX7_closes v1 σ) (fun x1 =>
    zy1 (fX7_closes v2 σ) (fun x2 =>
    if x1 = (-1 : Int32) then (if x1 = (-1 : Int32) then (if x2 = (-1 : Int32) then (if v2 ≤ v1 then (some 0) else
    (some 1)) else
    (some 0)) else
    (some 1)) else
    (if x2 = (-1 : Int32) then (if x1 = (-1 : Int32) then (if x2 = (-1 : Int32) then (if v2 ≤ v1 then (some 0) else
    (some 1)) else
    (some 0)) else
    (some 1)) else
    (if x1 < x2 then (some 1) else
    (if x1 = x2 then (zy1 (fX7_opens v1 σ) (fun x3 =>
    zy1 (fX7_opens v2 σ) (fun x4 =>
    if x3 < x4 then (some 1) else
    (zy1 (fX7_opens v1 σ) (fun x5 =>
    zy1 (fX7_opens v2 σ) (fun x6 =>
    if x5 = x6 then (if v2 ≤ v1 then (some 0) else
    (some 1)) else
    (some 0))))))) else
    (some 0))))))
set_option maxHeartbeats 4000000 in
set_option maxRecDepth 100000 in
theorem mX7_isAhead {l : Launch} {D : va_G} {A : Nat → Nat} {cA : Nat → ClassId} {v1 : Int32} {v2 : Int32}  {σ : zS} {r : Int32} (h : fX7_isAhead v1 v2 σ = some r) : zMI l D (wM A cA) yX7_isAhead (zws yX7_isAhead cX7_isAhead 5 (some .boolean)) 3 66 [.ref (A 0), .int v1, .int v2] σ (r, σ) := by
  refine zm_Zr (lv := [(0, .ref (A 0)), (1, .int v1), (2, .int v2)]) rfl sM_ok (Nat.le_of_ble_eq_true rfl) rfl (fun C _ _ hC hR => ?_) h
  unfold fX7_isAhead
  refine gg_aload_n (pc := 0) hC dX7_isAhead_0 (i := 0) rfl 0 rfl ?_
  refine gg_iload_n (pc := 1) hC dX7_isAhead_1 (i := 1) rfl 1 rfl ?_
  refine gg_callVIr (pc := 2) hC dX7_isAhead_2 vX7_200 (fun _ h => mX7_closes h) (Nat.le_of_ble_eq_true rfl) (Nat.le_of_ble_eq_true rfl) (As := [.int v1]) (rest := []) rfl rfl (Nat.le_of_ble_eq_true rfl) 0 7 pM_0 rfl (fun x1 => ?_)
  refine gg_istore_n (pc := 5) hC dX7_isAhead_5 (i := 3) rfl (Nat.le_of_ble_eq_true rfl) (lv' := [(3, .int x1), (0, .ref (A 0)), (1, .int v1), (2, .int v2)]) rfl ?_
  refine gg_aload_n (pc := 6) hC dX7_isAhead_6 (i := 0) rfl 1 rfl ?_
  refine gg_iload_n (pc := 7) hC dX7_isAhead_7 (i := 2) rfl 3 rfl ?_
  refine gg_callVIr (pc := 8) hC dX7_isAhead_8 vX7_200 (fun _ h => mX7_closes h) (Nat.le_of_ble_eq_true rfl) (Nat.le_of_ble_eq_true rfl) (As := [.int v2]) (rest := []) rfl rfl (Nat.le_of_ble_eq_true rfl) 0 7 pM_0 rfl (fun x2 => ?_)
  refine gg_istore (pc := 11) hC dX7_isAhead_11 (Nat.le_of_ble_eq_true rfl) (lv' := [(4, .int x2), (3, .int x1), (0, .ref (A 0)), (1, .int v1), (2, .int v2)]) rfl ?_
  refine gg_iload_n (pc := 13) hC dX7_isAhead_13 (i := 3) rfl 1 rfl ?_
  refine gg_iconst (pc := 14) hC dX7_isAhead_14 (x := -1) rfl ?_
  refine gg_icmp_eq (pc := 15) hC dX7_isAhead_15 (tgt := 24) rfl (fun _ => ?_) (fun _ => ?_)
  · refine gg_iload_n (pc := 24) hC dX7_isAhead_24 (i := 3) rfl 1 rfl ?_
    refine gg_iconst (pc := 25) hC dX7_isAhead_25 (x := -1) rfl ?_
    refine gg_icmp_ne (pc := 26) hC dX7_isAhead_26 (tgt := 40) rfl (fun _ => ?_) (fun _ => ?_)
    · refine gg_iload (pc := 29) hC dX7_isAhead_29 0 rfl ?_
      refine gg_iconst (pc := 31) hC dX7_isAhead_31 (x := -1) rfl ?_
      refine gg_icmp_ne (pc := 32) hC dX7_isAhead_32 (tgt := 44) rfl (fun _ => ?_) (fun _ => ?_)
      · refine gg_iload_n (pc := 35) hC dX7_isAhead_35 (i := 1) rfl 3 rfl ?_
        refine gg_iload_n (pc := 36) hC dX7_isAhead_36 (i := 2) rfl 4 rfl ?_
        refine gg_icmp_ge (pc := 37) hC dX7_isAhead_37 (tgt := 44) rfl (fun _ => ?_) (fun _ => ?_)
        · refine gg_iconst (pc := 44) hC dX7_isAhead_44 (x := 0) rfl ?_
          exact gg_zretr (pc := 45) hR dX7_isAhead_45 rfl
        · refine gg_iconst (pc := 40) hC dX7_isAhead_40 (x := 1) rfl ?_
          refine gg_goto (pc := 41) hC dX7_isAhead_41 (tgt := 45) rfl ?_
          exact gg_zretr (pc := 45) hR dX7_isAhead_45 rfl
      · refine gg_iconst (pc := 44) hC dX7_isAhead_44 (x := 0) rfl ?_
        exact gg_zretr (pc := 45) hR dX7_isAhead_45 rfl
    · refine gg_iconst (pc := 40) hC dX7_isAhead_40 (x := 1) rfl ?_
      refine gg_goto (pc := 41) hC dX7_isAhead_41 (tgt := 45) rfl ?_
      exact gg_zretr (pc := 45) hR dX7_isAhead_45 rfl
  · refine gg_iload (pc := 18) hC dX7_isAhead_18 0 rfl ?_
    refine gg_iconst (pc := 20) hC dX7_isAhead_20 (x := -1) rfl ?_
    refine gg_icmp_ne (pc := 21) hC dX7_isAhead_21 (tgt := 46) rfl (fun _ => ?_) (fun _ => ?_)
    · refine gg_iload_n (pc := 24) hC dX7_isAhead_24 (i := 3) rfl 1 rfl ?_
      refine gg_iconst (pc := 25) hC dX7_isAhead_25 (x := -1) rfl ?_
      refine gg_icmp_ne (pc := 26) hC dX7_isAhead_26 (tgt := 40) rfl (fun _ => ?_) (fun _ => ?_)
      · refine gg_iload (pc := 29) hC dX7_isAhead_29 0 rfl ?_
        refine gg_iconst (pc := 31) hC dX7_isAhead_31 (x := -1) rfl ?_
        refine gg_icmp_ne (pc := 32) hC dX7_isAhead_32 (tgt := 44) rfl (fun _ => ?_) (fun _ => ?_)
        · refine gg_iload_n (pc := 35) hC dX7_isAhead_35 (i := 1) rfl 3 rfl ?_
          refine gg_iload_n (pc := 36) hC dX7_isAhead_36 (i := 2) rfl 4 rfl ?_
          refine gg_icmp_ge (pc := 37) hC dX7_isAhead_37 (tgt := 44) rfl (fun _ => ?_) (fun _ => ?_)
          · refine gg_iconst (pc := 44) hC dX7_isAhead_44 (x := 0) rfl ?_
            exact gg_zretr (pc := 45) hR dX7_isAhead_45 rfl
          · refine gg_iconst (pc := 40) hC dX7_isAhead_40 (x := 1) rfl ?_
            refine gg_goto (pc := 41) hC dX7_isAhead_41 (tgt := 45) rfl ?_
            exact gg_zretr (pc := 45) hR dX7_isAhead_45 rfl
        · refine gg_iconst (pc := 44) hC dX7_isAhead_44 (x := 0) rfl ?_
          exact gg_zretr (pc := 45) hR dX7_isAhead_45 rfl
      · refine gg_iconst (pc := 40) hC dX7_isAhead_40 (x := 1) rfl ?_
        refine gg_goto (pc := 41) hC dX7_isAhead_41 (tgt := 45) rfl ?_
        exact gg_zretr (pc := 45) hR dX7_isAhead_45 rfl
    · refine gg_iload_n (pc := 46) hC dX7_isAhead_46 (i := 3) rfl 1 rfl ?_
      refine gg_iload (pc := 47) hC dX7_isAhead_47 0 rfl ?_
      refine gg_icmp_lt (pc := 49) hC dX7_isAhead_49 (tgt := 89) rfl (fun _ => ?_) (fun _ => ?_)
      · refine gg_iconst (pc := 89) hC dX7_isAhead_89 (x := 1) rfl ?_
        refine gg_goto (pc := 90) hC dX7_isAhead_90 (tgt := 94) rfl ?_
        exact gg_zretr (pc := 94) hR dX7_isAhead_94 rfl
      · refine gg_iload_n (pc := 52) hC dX7_isAhead_52 (i := 3) rfl 1 rfl ?_
        refine gg_iload (pc := 53) hC dX7_isAhead_53 0 rfl ?_
        refine gg_icmp_ne (pc := 55) hC dX7_isAhead_55 (tgt := 93) rfl (fun _ => ?_) (fun _ => ?_)
        · refine gg_aload_n (pc := 58) hC dX7_isAhead_58 (i := 0) rfl 2 rfl ?_
          refine gg_iload_n (pc := 59) hC dX7_isAhead_59 (i := 1) rfl 3 rfl ?_
          refine gg_callVIr (pc := 60) hC dX7_isAhead_60 vX7_197 (fun _ h => mX7_opens h) (Nat.le_of_ble_eq_true rfl) (Nat.le_of_ble_eq_true rfl) (As := [.int v1]) (rest := []) rfl rfl (Nat.le_of_ble_eq_true rfl) 0 7 pM_0 rfl (fun x3 => ?_)
          refine gg_aload_n (pc := 63) hC dX7_isAhead_63 (i := 0) rfl 2 rfl ?_
          refine gg_iload_n (pc := 64) hC dX7_isAhead_64 (i := 2) rfl 4 rfl ?_
          refine gg_callVIr (pc := 65) hC dX7_isAhead_65 vX7_197 (fun _ h => mX7_opens h) (Nat.le_of_ble_eq_true rfl) (Nat.le_of_ble_eq_true rfl) (As := [.int v2]) (rest := [.int x3]) rfl rfl (Nat.le_of_ble_eq_true rfl) 0 7 pM_0 rfl (fun x4 => ?_)
          refine gg_icmp_lt (pc := 68) hC dX7_isAhead_68 (tgt := 89) rfl (fun _ => ?_) (fun _ => ?_)
          · refine gg_iconst (pc := 89) hC dX7_isAhead_89 (x := 1) rfl ?_
            refine gg_goto (pc := 90) hC dX7_isAhead_90 (tgt := 94) rfl ?_
            exact gg_zretr (pc := 94) hR dX7_isAhead_94 rfl
          · refine gg_aload_n (pc := 71) hC dX7_isAhead_71 (i := 0) rfl 2 rfl ?_
            refine gg_iload_n (pc := 72) hC dX7_isAhead_72 (i := 1) rfl 3 rfl ?_
            refine gg_callVIr (pc := 73) hC dX7_isAhead_73 vX7_197 (fun _ h => mX7_opens h) (Nat.le_of_ble_eq_true rfl) (Nat.le_of_ble_eq_true rfl) (As := [.int v1]) (rest := []) rfl rfl (Nat.le_of_ble_eq_true rfl) 0 7 pM_0 rfl (fun x5 => ?_)
            refine gg_aload_n (pc := 76) hC dX7_isAhead_76 (i := 0) rfl 2 rfl ?_
            refine gg_iload_n (pc := 77) hC dX7_isAhead_77 (i := 2) rfl 4 rfl ?_
            refine gg_callVIr (pc := 78) hC dX7_isAhead_78 vX7_197 (fun _ h => mX7_opens h) (Nat.le_of_ble_eq_true rfl) (Nat.le_of_ble_eq_true rfl) (As := [.int v2]) (rest := [.int x5]) rfl rfl (Nat.le_of_ble_eq_true rfl) 0 7 pM_0 rfl (fun x6 => ?_)
            refine gg_icmp_ne (pc := 81) hC dX7_isAhead_81 (tgt := 93) rfl (fun _ => ?_) (fun _ => ?_)
            · refine gg_iload_n (pc := 84) hC dX7_isAhead_84 (i := 1) rfl 3 rfl ?_
              refine gg_iload_n (pc := 85) hC dX7_isAhead_85 (i := 2) rfl 4 rfl ?_
              refine gg_icmp_ge (pc := 86) hC dX7_isAhead_86 (tgt := 93) rfl (fun _ => ?_) (fun _ => ?_)
              · refine gg_iconst (pc := 93) hC dX7_isAhead_93 (x := 0) rfl ?_
                exact gg_zretr (pc := 94) hR dX7_isAhead_94 rfl
              · refine gg_iconst (pc := 89) hC dX7_isAhead_89 (x := 1) rfl ?_
                refine gg_goto (pc := 90) hC dX7_isAhead_90 (tgt := 94) rfl ?_
                exact gg_zretr (pc := 94) hR dX7_isAhead_94 rfl
            · refine gg_iconst (pc := 93) hC dX7_isAhead_93 (x := 0) rfl ?_
              exact gg_zretr (pc := 94) hR dX7_isAhead_94 rfl
        · refine gg_iconst (pc := 93) hC dX7_isAhead_93 (x := 0) rfl ?_
          exact gg_zretr (pc := 94) hR dX7_isAhead_94 rfl
def fX7_closingOf_18 (v1 : Int32) (v2 : Int32) (v3 : Int32) (σ : zS) : Nat → Int32 → Int32 → Option (Int32)
  | 0, _, _ => none
  | n + 1, v4, v5 =>
    if (zi σ 4) ≤ v5 then (some v4) else
    (zy1 (if v5 = v3 then (some 0) else
    (zy1 (fX7_isAhead v5 v3 σ) (fun x1 =>
    if x1 = 0 then (some 0) else
    (some 1)))) (fun (x2 : Int32) =>
    zv (v4 + x2) (fun (x3 : Int32) =>
    fX7_closingOf_18 v1 v2 v3 σ n x3 (v5 + 1))))
def fX7_closingOf_4 (v1 : Int32) (σ : zS) : Nat → Int32 → Int32 → Option (Int32)
  | 0, _, _ => none
  | n + 1, v2, v3 =>
    if (zi σ 4) ≤ v3 then (some v2) else
    (zy1 (fX7_closingOf_18 v1 v2 v3 σ 500 0 0) (fun (x1 : Int32) =>
    zy1 (if x1 = v1 then (some v3) else
    (some v2)) (fun (x2 : Int32) =>
    fX7_closingOf_4 v1 σ n x2 (v3 + 1))))
def fX7_closingOf (v1 : Int32) (σ : zS) : Option (Int32) :=
    zy1 (fX7_closingOf_4 v1 σ 500 (-1 : Int32) 0) (fun (x1 : Int32) =>
    some x1)
set_option maxHeartbeats 4000000 in
set_option maxRecDepth 100000 in
theorem lX7_closingOf_18 {C : zK} {A : Nat → Nat} {cA : Nat → ClassId} (hC : zOK C (wM A cA) cX7_closingOf RX7 6 4 90) {v1 : Int32} {v2 : Int32} {v3 : Int32} {σ : zS} : ∀ (n : Nat) (v4 : Int32) (v5 : Int32), zG C (wM A cA) 6 (fun q => zW C (wM A cA) 6 59 [(0, .ref (A 0)), (1, .int v1), (2, .int v2), (3, .int v3), (4, .int q)] [] σ) (fX7_closingOf_18 v1 v2 v3 σ n v4 v5) 18 [(0, .ref (A 0)), (1, .int v1), (2, .int v2), (3, .int v3), (4, .int v4), (5, .int v5)] [] σ := by
  intro n
  induction n with
  | zero => intro v4 v5; exact gg_none (o := none)
  | succ n ih =>
    intro v4 v5
    rw [fX7_closingOf_18]
    refine gg_iload (pc := 18) hC dX7_closingOf_18 5 rfl ?_
    refine gg_aload_n (pc := 20) hC dX7_closingOf_20 (i := 0) rfl 0 rfl ?_
    refine gg_get (pc := 21) hC dX7_closingOf_21 fX7_194 0 pM_0 (v := .int (zi σ 4)) rfl ?_
    refine gg_icmp_ge (pc := 24) hC dX7_closingOf_24 (tgt := 59) rfl (fun _ => ?_) (fun _ => ?_)
    · exact gg_y (fun h => zW_lv [0, 1, 2, 3, 4] rfl h)
    · refine gg_iload (pc := 27) hC dX7_closingOf_27 4 rfl ?_
      refine gg_iload (pc := 29) hC dX7_closingOf_29 5 rfl ?_
      refine gg_iload_n (pc := 31) hC dX7_closingOf_31 (i := 3) rfl 3 rfl ?_
      refine gg_join1 (E' := (fun q => zW C (wM A cA) 6 50 [(0, .ref (A 0)), (1, .int v1), (2, .int v2), (3, .int v3), (5, .int v5)] [.int q, .int v4] σ)) ?_ (fun x2 => ?_)
      · refine gg_icmp_eq (pc := 32) hC dX7_closingOf_32 (tgt := 49) rfl (fun _ => ?_) (fun _ => ?_)
        · refine gg_iconst (pc := 49) hC dX7_closingOf_49 (x := 0) rfl ?_
          exact gg_y (fun h => zW_lv [0, 1, 2, 3, 5] rfl h)
        · refine gg_aload_n (pc := 35) hC dX7_closingOf_35 (i := 0) rfl 0 rfl ?_
          refine gg_iload (pc := 36) hC dX7_closingOf_36 5 rfl ?_
          refine gg_iload_n (pc := 38) hC dX7_closingOf_38 (i := 3) rfl 3 rfl ?_
          refine gg_callVIr (pc := 39) hC dX7_closingOf_39 vX7_216 (fun _ h => mX7_isAhead h) (Nat.le_of_ble_eq_true rfl) (Nat.le_of_ble_eq_true rfl) (As := [.int v5, .int v3]) (rest := [.int v4]) rfl rfl (Nat.le_of_ble_eq_true rfl) 0 7 pM_0 rfl (fun x1 => ?_)
          refine gg_if_eq (pc := 42) hC dX7_closingOf_42 (tgt := 49) rfl (fun _ => ?_) (fun _ => ?_)
          · refine gg_iconst (pc := 49) hC dX7_closingOf_49 (x := 0) rfl ?_
            exact gg_y (fun h => zW_lv [0, 1, 2, 3, 5] rfl h)
          · refine gg_iconst (pc := 45) hC dX7_closingOf_45 (x := 1) rfl ?_
            refine gg_goto (pc := 46) hC dX7_closingOf_46 (tgt := 50) rfl ?_
            exact gg_y (fun h => zW_lv [0, 1, 2, 3, 5] rfl h)
      · show zG C (wM A cA) 6 _ _ 50 [(0, .ref (A 0)), (1, .int v1), (2, .int v2), (3, .int v3), (5, .int v5)] [.int x2, .int v4] σ
        refine gg_iadd (pc := 50) hC dX7_closingOf_50 ?_
        refine gg_zvi (fun x3 => ?_)
        refine gg_istore (pc := 51) hC dX7_closingOf_51 (Nat.le_of_ble_eq_true rfl) (lv' := [(4, .int x3), (0, .ref (A 0)), (1, .int v1), (2, .int v2), (3, .int v3), (5, .int v5)]) rfl ?_
        refine gg_iinc (pc := 53) hC dX7_closingOf_53 (y := 0) (j := 5) rfl (z := 1) rfl (Nat.le_of_ble_eq_true rfl) (lv' := [(5, .int (v5 + 1)), (4, .int x3), (0, .ref (A 0)), (1, .int v1), (2, .int v2), (3, .int v3)]) rfl ?_
        refine gg_goto (pc := 56) hC dX7_closingOf_56 (tgt := 18) rfl ?_
        exact gg_lv [2, 3, 4, 5, 1, 0] rfl (ih _ _)
set_option maxHeartbeats 4000000 in
set_option maxRecDepth 100000 in
theorem lX7_closingOf_4 {C : zK} {A : Nat → Nat} {cA : Nat → ClassId} (hC : zOK C (wM A cA) cX7_closingOf RX7 6 4 90) {v1 : Int32} {σ : zS} : ∀ (n : Nat) (v2 : Int32) (v3 : Int32), zG C (wM A cA) 6 (fun q => zW C (wM A cA) 6 77 [(2, .int q)] [] σ) (fX7_closingOf_4 v1 σ n v2 v3) 4 [(0, .ref (A 0)), (1, .int v1), (2, .int v2), (3, .int v3)] [] σ := by
  intro n
  induction n with
  | zero => intro v2 v3; exact gg_none (o := none)
  | succ n ih =>
    intro v2 v3
    rw [fX7_closingOf_4]
    refine gg_iload_n (pc := 4) hC dX7_closingOf_4 (i := 3) rfl 3 rfl ?_
    refine gg_aload_n (pc := 5) hC dX7_closingOf_5 (i := 0) rfl 0 rfl ?_
    refine gg_get (pc := 6) hC dX7_closingOf_6 fX7_194 0 pM_0 (v := .int (zi σ 4)) rfl ?_
    refine gg_icmp_ge (pc := 9) hC dX7_closingOf_9 (tgt := 77) rfl (fun _ => ?_) (fun _ => ?_)
    · exact gg_y (fun h => zW_lv [2] rfl h)
    · refine gg_iconst (pc := 12) hC dX7_closingOf_12 (x := 0) rfl ?_
      refine gg_istore (pc := 13) hC dX7_closingOf_13 (Nat.le_of_ble_eq_true rfl) (lv' := [(4, .int 0), (0, .ref (A 0)), (1, .int v1), (2, .int v2), (3, .int v3)]) rfl ?_
      refine gg_iconst (pc := 15) hC dX7_closingOf_15 (x := 0) rfl ?_
      refine gg_istore (pc := 16) hC dX7_closingOf_16 (Nat.le_of_ble_eq_true rfl) (lv' := [(5, .int 0), (4, .int 0), (0, .ref (A 0)), (1, .int v1), (2, .int v2), (3, .int v3)]) rfl ?_
      refine gg_join1 (E' := (fun q => zW C (wM A cA) 6 59 [(0, .ref (A 0)), (1, .int v1), (2, .int v2), (3, .int v3), (4, .int q)] [] σ)) (gg_lv [2, 3, 4, 5, 1, 0] rfl (lX7_closingOf_18 hC  500 _ _)) (fun x1 => ?_)
      show zG C (wM A cA) 6 _ _ 59 [(0, .ref (A 0)), (1, .int v1), (2, .int v2), (3, .int v3), (4, .int x1)] [] σ
      refine gg_iload (pc := 59) hC dX7_closingOf_59 4 rfl ?_
      refine gg_iload_n (pc := 61) hC dX7_closingOf_61 (i := 1) rfl 1 rfl ?_
      refine gg_join1 (E' := (fun q => zW C (wM A cA) 6 70 [(0, .ref (A 0)), (1, .int v1), (3, .int v3)] [.int q] σ)) ?_ (fun x2 => ?_)
      · refine gg_icmp_ne (pc := 62) hC dX7_closingOf_62 (tgt := 69) rfl (fun _ => ?_) (fun _ => ?_)
        · refine gg_iload_n (pc := 65) hC dX7_closingOf_65 (i := 3) rfl 3 rfl ?_
          refine gg_goto (pc := 66) hC dX7_closingOf_66 (tgt := 70) rfl ?_
          exact gg_y (fun h => zW_lv [0, 1, 3] rfl h)
        · refine gg_iload_n (pc := 69) hC dX7_closingOf_69 (i := 2) rfl 2 rfl ?_
          exact gg_y (fun h => zW_lv [0, 1, 3] rfl h)
      · show zG C (wM A cA) 6 _ _ 70 [(0, .ref (A 0)), (1, .int v1), (3, .int v3)] [.int x2] σ
        refine gg_istore_n (pc := 70) hC dX7_closingOf_70 (i := 2) rfl (Nat.le_of_ble_eq_true rfl) (lv' := [(2, .int x2), (0, .ref (A 0)), (1, .int v1), (3, .int v3)]) rfl ?_
        refine gg_iinc (pc := 71) hC dX7_closingOf_71 (y := 0) (j := 3) rfl (z := 1) rfl (Nat.le_of_ble_eq_true rfl) (lv' := [(3, .int (v3 + 1)), (2, .int x2), (0, .ref (A 0)), (1, .int v1)]) rfl ?_
        refine gg_goto (pc := 74) hC dX7_closingOf_74 (tgt := 4) rfl ?_
        exact gg_lv [2, 3, 1, 0] rfl (ih _ _)
set_option maxHeartbeats 4000000 in
set_option maxRecDepth 100000 in
theorem mX7_closingOf {l : Launch} {D : va_G} {A : Nat → Nat} {cA : Nat → ClassId} {v1 : Int32}  {σ : zS} {r : Int32} (h : fX7_closingOf v1 σ = some r) : zMI l D (wM A cA) yX7_closingOf (zws yX7_closingOf cX7_closingOf 6 (some .int)) 4 90 [.ref (A 0), .int v1] σ (r, σ) := by
  refine zm_Ir (lv := [(0, .ref (A 0)), (1, .int v1)]) rfl sM_ok (Nat.le_of_ble_eq_true rfl) rfl (fun C _ _ hC hR => ?_) h
  unfold fX7_closingOf
  refine gg_iconst (pc := 0) hC dX7_closingOf_0 (x := -1) rfl ?_
  refine gg_istore_n (pc := 1) hC dX7_closingOf_1 (i := 2) rfl (Nat.le_of_ble_eq_true rfl) (lv' := [(2, .int (-1 : Int32)), (0, .ref (A 0)), (1, .int v1)]) rfl ?_
  refine gg_iconst (pc := 2) hC dX7_closingOf_2 (x := 0) rfl ?_
  refine gg_istore_n (pc := 3) hC dX7_closingOf_3 (i := 3) rfl (Nat.le_of_ble_eq_true rfl) (lv' := [(3, .int 0), (2, .int (-1 : Int32)), (0, .ref (A 0)), (1, .int v1)]) rfl ?_
  refine gg_join1 (E' := (fun q => zW C (wM A cA) 6 77 [(2, .int q)] [] σ)) (gg_lv [2, 3, 1, 0] rfl (lX7_closingOf_4 hC  500 _ _)) (fun x1 => ?_)
  show zG C (wM A cA) 6 _ _ 77 [(2, .int x1)] [] σ
  refine gg_iload_n (pc := 77) hC dX7_closingOf_77 (i := 2) rfl 0 rfl ?_
  exact gg_iretr (pc := 78) hR dX7_closingOf_78
def fX7_isGate (v1 : Int32) (σ : zS) : Option (Int32) :=
    zy1 (fX7_in v1 0 ((zi σ 4) - 1) σ) (fun x1 =>
    zg (zz x1) (some x1))
set_option maxHeartbeats 4000000 in
set_option maxRecDepth 100000 in
theorem mX7_isGate {l : Launch} {D : va_G} {A : Nat → Nat} {cA : Nat → ClassId} {v1 : Int32}  {σ : zS} {r : Int32} (h : fX7_isGate v1 σ = some r) : zMI l D (wM A cA) yX7_isGate (zws yX7_isGate cX7_isGate 2 (some .boolean)) 1 22 [.ref (A 0), .int v1] σ (r, σ) := by
  refine zm_Zr (lv := [(0, .ref (A 0)), (1, .int v1)]) rfl sM_ok (Nat.le_of_ble_eq_true rfl) rfl (fun C _ _ hC hR => ?_) h
  unfold fX7_isGate
  refine gg_iload_n (pc := 0) hC dX7_isGate_0 (i := 1) rfl 1 rfl ?_
  refine gg_iconst (pc := 1) hC dX7_isGate_1 (x := 0) rfl ?_
  refine gg_aload_n (pc := 2) hC dX7_isGate_2 (i := 0) rfl 0 rfl ?_
  refine gg_get (pc := 3) hC dX7_isGate_3 fX7_194 0 pM_0 (v := .int (zi σ 4)) rfl ?_
  refine gg_iconst (pc := 6) hC dX7_isGate_6 (x := 1) rfl ?_
  refine gg_isub (pc := 7) hC dX7_isGate_7 ?_
  refine gg_callSIr (pc := 8) hC dX7_isGate_8 cX7_85 (fun _ h => mX7_in h) (Nat.le_of_ble_eq_true rfl) (Nat.le_of_ble_eq_true rfl) (As := [.int v1, .int 0, .int ((zi σ 4) - 1)]) (rest := []) rfl rfl (Nat.le_of_ble_eq_true rfl) (fun x1 => ?_)
  exact gg_zretgr (pc := 11) hR dX7_isGate_11
def fX7_closing (v1 : Int32) (σ : zS) : Option (Int32) :=
    zy1 (fX7_isGate v1 σ) (fun x1 =>
    if x1 = 0 then (some (-2 : Int32)) else
    (zy1 (fX7_closingOf v1 σ) (fun x2 =>
    some x2)))
set_option maxHeartbeats 4000000 in
set_option maxRecDepth 100000 in
theorem mX7_closing {l : Launch} {D : va_G} {A : Nat → Nat} {cA : Nat → ClassId} {v1 : Int32}  {σ : zS} {r : Int32} (h : fX7_closing v1 σ = some r) : zMI l D (wM A cA) yX7_closing (zws yX7_closing cX7_closing 2 (some .int)) 5 115 [.ref (A 0), .int v1] σ (r, σ) := by
  refine zm_Ir (lv := [(0, .ref (A 0)), (1, .int v1)]) rfl sM_ok (Nat.le_of_ble_eq_true rfl) rfl (fun C _ _ hC hR => ?_) h
  unfold fX7_closing
  refine gg_aload_n (pc := 0) hC dX7_closing_0 (i := 0) rfl 0 rfl ?_
  refine gg_iload_n (pc := 1) hC dX7_closing_1 (i := 1) rfl 1 rfl ?_
  refine gg_callVIr (pc := 2) hC dX7_closing_2 vX7_206 (fun _ h => mX7_isGate h) (Nat.le_of_ble_eq_true rfl) (Nat.le_of_ble_eq_true rfl) (As := [.int v1]) (rest := []) rfl rfl (Nat.le_of_ble_eq_true rfl) 0 7 pM_0 rfl (fun x1 => ?_)
  refine gg_if_eq (pc := 5) hC dX7_closing_5 (tgt := 16) rfl (fun _ => ?_) (fun _ => ?_)
  · refine gg_bipush (pc := 16) hC dX7_closing_16 (x := -2) rfl ?_
    exact gg_iretr (pc := 18) hR dX7_closing_18
  · refine gg_aload_n (pc := 8) hC dX7_closing_8 (i := 0) rfl 0 rfl ?_
    refine gg_iload_n (pc := 9) hC dX7_closing_9 (i := 1) rfl 1 rfl ?_
    refine gg_callVIr (pc := 10) hC dX7_closing_10 vX7_220 (fun _ h => mX7_closingOf h) (Nat.le_of_ble_eq_true rfl) (Nat.le_of_ble_eq_true rfl) (As := [.int v1]) (rest := []) rfl rfl (Nat.le_of_ble_eq_true rfl) 0 7 pM_0 rfl (fun x2 => ?_)
    refine gg_goto (pc := 13) hC dX7_closing_13 (tgt := 18) rfl ?_
    exact gg_iretr (pc := 18) hR dX7_closing_18
def fX7_copy_122 (v1 : Int32) (v2 : Int32) (v3 : Int32) (v4 : Int32) (v5 : Int32) : Nat → Int32 → zS → Option (zS)
  | 0, _, _ => none
  | n + 1, v6, σ =>
    if v5 ≤ v6 then (some σ) else
    (zg (zq (((40 * v1) + v2) + v6) 160) (zg (zq v6 40) (zv (wj σ 3 v6.toNatClampNeg (zj σ 2 (((40 * v1) + v2) + v6).toNatClampNeg)) (fun (s1 : zS) =>
    zg (zq (((40 * v1) + v2) + v6) 160) (zg (zq v6 40) (zv (wd s1 1 v6.toNatClampNeg (zd s1 0 (((40 * v1) + v2) + v6).toNatClampNeg)) (fun (s2 : zS) =>
    zg (zq (((40 * v1) + v2) + v6) 160) (zg (zq v6 40) (zv (wa s2 14 v6.toNatClampNeg (vp_nar .boolean (za s2 13 (((40 * v1) + v2) + v6).toNatClampNeg))) (fun (s3 : zS) =>
    fX7_copy_122 v1 v2 v3 v4 v5 n (v6 + 1) s3))))))))))
def fX7_copy_201 (v3 : Int32) (v4 : Int32) (v5 : Int32) : Nat → Int32 → zS → Option (zS)
  | 0, _, _ => none
  | n + 1, v6, σ =>
    if v5 ≤ v6 then (some σ) else
    (zg (zq v6 40) (zg (zq (((40 * v3) + v4) + v6) 160) (zv (wj σ 2 (((40 * v3) + v4) + v6).toNatClampNeg (zj σ 3 v6.toNatClampNeg)) (fun (s1 : zS) =>
    zg (zq v6 40) (zg (zq (((40 * v3) + v4) + v6) 160) (zv (wd s1 0 (((40 * v3) + v4) + v6).toNatClampNeg (zd s1 1 v6.toNatClampNeg)) (fun (s2 : zS) =>
    zg (zq v6 40) (zg (zq (((40 * v3) + v4) + v6) 160) (zv (wa s2 13 (((40 * v3) + v4) + v6).toNatClampNeg (vp_nar .boolean (za s2 14 v6.toNatClampNeg))) (fun (s3 : zS) =>
    fX7_copy_201 v3 v4 v5 n (v6 + 1) s3))))))))))
def fX7_copy (v1 : Int32) (v2 : Int32) (v3 : Int32) (v4 : Int32) (v5 : Int32) (σ : zS) : Option (Int32 × zS) :=
    zy1 (fX7_isSheet v1 σ) (fun x1 =>
    if x1 = 0 then (some ((-2 : Int32), σ)) else
    (zy1 (fX7_isSheet v3 σ) (fun x2 =>
    if x2 = 0 then (some ((-2 : Int32), σ)) else
    (zg (zq v1 4) (if (za σ 11 v1.toNatClampNeg) = (-1 : Int32) then (zy2 (fX7_meets 1 σ) (fun x3 s4 =>
    some (x3, s4))) else
    (zg (zq v3 4) (if (za σ 11 v3.toNatClampNeg) = (-1 : Int32) then (zy2 (fX7_meets 1 σ) (fun x5 s6 =>
    some (x5, s6))) else
    (zg (zq v1 4) (zg (zq v3 4) (if (za σ 11 v1.toNatClampNeg) = (za σ 11 v3.toNatClampNeg) then (if v2 < 0 then (zy2 (fX7_meets 2 σ) (fun x7 s8 =>
    some (x7, s8))) else
    (if v4 < 0 then (zy2 (fX7_meets 2 σ) (fun x9 s10 =>
    some (x9, s10))) else
    (if v5 < 0 then (zy2 (fX7_meets 2 σ) (fun x11 s12 =>
    some (x11, s12))) else
    (zg (zq v1 4) (if ((za σ 12 v1.toNatClampNeg).toInt64) < ((v2.toInt64) + (v5.toInt64)) then (zy2 (fX7_meets 2 σ) (fun x13 s14 =>
    some (x13, s14))) else
    (zg (zq v3 4) (if ((v4.toInt64) + (v5.toInt64)) ≤ ((za σ 12 v3.toNatClampNeg).toInt64) then (zy1 (fX7_copy_122 v1 v2 v3 v4 v5 500 0 σ) (fun (s15 : zS) =>
    zy1 (fX7_copy_201 v3 v4 v5 500 0 s15) (fun (s16 : zS) =>
    some (1, s16)))) else
    (zy2 (fX7_meets 2 σ) (fun x17 s18 =>
    some (x17, s18)))))))))) else
    (zy2 (fX7_meets 4 σ) (fun x19 s20 =>
    some (x19, s20)))))))))))))
set_option maxHeartbeats 4000000 in
set_option maxRecDepth 100000 in
theorem lX7_copy_122 {C : zK} {A : Nat → Nat} {cA : Nat → ClassId} (hC : zOK C (wM A cA) cX7_copy RX7 7 2 42) {v1 : Int32} {v2 : Int32} {v3 : Int32} {v4 : Int32} {v5 : Int32} : ∀ (n : Nat) (v6 : Int32) (σ : zS), zG C (wM A cA) 7 (fun q => zW C (wM A cA) 7 198 [(0, .ref (A 0)), (3, .int v3), (4, .int v4), (5, .int v5)] [] q) (fX7_copy_122 v1 v2 v3 v4 v5 n v6 σ) 122 [(0, .ref (A 0)), (1, .int v1), (2, .int v2), (3, .int v3), (4, .int v4), (5, .int v5), (6, .int v6)] [] σ := by
  intro n
  induction n with
  | zero => intro v6 σ; exact gg_none (o := none)
  | succ n ih =>
    intro v6 σ
    rw [fX7_copy_122]
    refine gg_iload (pc := 122) hC dX7_copy_122 6 rfl ?_
    refine gg_iload (pc := 124) hC dX7_copy_124 5 rfl ?_
    refine gg_icmp_ge (pc := 126) hC dX7_copy_126 (tgt := 198) rfl (fun _ => ?_) (fun _ => ?_)
    · exact gg_y (fun h => zW_lv [0, 3, 4, 5] rfl h)
    · refine gg_aload_n (pc := 129) hC dX7_copy_129 (i := 0) rfl 0 rfl ?_
      refine gg_get (pc := 130) hC dX7_copy_130 fX7_67 0 pM_0 (v := .ref (A 19)) rfl ?_
      refine gg_iload (pc := 133) hC dX7_copy_133 6 rfl ?_
      refine gg_aload_n (pc := 135) hC dX7_copy_135 (i := 0) rfl 0 rfl ?_
      refine gg_get (pc := 136) hC dX7_copy_136 fX7_57 0 pM_0 (v := .ref (A 16)) rfl ?_
      refine gg_bipush (pc := 139) hC dX7_copy_139 (x := 40) rfl ?_
      refine gg_iload_n (pc := 141) hC dX7_copy_141 (i := 1) rfl 1 rfl ?_
      refine gg_imul (pc := 142) hC dX7_copy_142 ?_
      refine gg_iload_n (pc := 143) hC dX7_copy_143 (i := 2) rfl 2 rfl ?_
      refine gg_iadd (pc := 144) hC dX7_copy_144 ?_
      refine gg_iload (pc := 145) hC dX7_copy_145 6 rfl ?_
      refine gg_iadd (pc := 147) hC dX7_copy_147 ?_
      refine gg_lald (pc := 148) hC dX7_copy_148 16 1 pM_16 rfl ?_
      refine gg_last (pc := 149) hC dX7_copy_149 19 1 pM_19 rfl sM_19 ?_
      refine gg_zvs (fun s1 => ?_)
      refine gg_aload_n (pc := 150) hC dX7_copy_150 (i := 0) rfl 0 rfl ?_
      refine gg_get (pc := 151) hC dX7_copy_151 fX7_70 0 pM_0 (v := .ref (A 20)) rfl ?_
      refine gg_iload (pc := 154) hC dX7_copy_154 6 rfl ?_
      refine gg_aload_n (pc := 156) hC dX7_copy_156 (i := 0) rfl 0 rfl ?_
      refine gg_get (pc := 157) hC dX7_copy_157 fX7_60 0 pM_0 (v := .ref (A 17)) rfl ?_
      refine gg_bipush (pc := 160) hC dX7_copy_160 (x := 40) rfl ?_
      refine gg_iload_n (pc := 162) hC dX7_copy_162 (i := 1) rfl 1 rfl ?_
      refine gg_imul (pc := 163) hC dX7_copy_163 ?_
      refine gg_iload_n (pc := 164) hC dX7_copy_164 (i := 2) rfl 2 rfl ?_
      refine gg_iadd (pc := 165) hC dX7_copy_165 ?_
      refine gg_iload (pc := 166) hC dX7_copy_166 6 rfl ?_
      refine gg_iadd (pc := 168) hC dX7_copy_168 ?_
      refine gg_dald (pc := 169) hC dX7_copy_169 17 3 pM_17 rfl ?_
      refine gg_dast (pc := 170) hC dX7_copy_170 20 3 pM_20 rfl sM_20 ?_
      refine gg_zvs (fun s2 => ?_)
      refine gg_aload_n (pc := 171) hC dX7_copy_171 (i := 0) rfl 0 rfl ?_
      refine gg_get (pc := 172) hC dX7_copy_172 fX7_73 0 pM_0 (v := .ref (A 21)) rfl ?_
      refine gg_iload (pc := 175) hC dX7_copy_175 6 rfl ?_
      refine gg_aload_n (pc := 177) hC dX7_copy_177 (i := 0) rfl 0 rfl ?_
      refine gg_get (pc := 178) hC dX7_copy_178 fX7_64 0 pM_0 (v := .ref (A 18)) rfl ?_
      refine gg_bipush (pc := 181) hC dX7_copy_181 (x := 40) rfl ?_
      refine gg_iload_n (pc := 183) hC dX7_copy_183 (i := 1) rfl 1 rfl ?_
      refine gg_imul (pc := 184) hC dX7_copy_184 ?_
      refine gg_iload_n (pc := 185) hC dX7_copy_185 (i := 2) rfl 2 rfl ?_
      refine gg_iadd (pc := 186) hC dX7_copy_186 ?_
      refine gg_iload (pc := 187) hC dX7_copy_187 6 rfl ?_
      refine gg_iadd (pc := 189) hC dX7_copy_189 ?_
      refine gg_zald (pc := 190) hC dX7_copy_190 18 2 pM_18 rfl ?_
      refine gg_zast (pc := 191) hC dX7_copy_191 21 2 pM_21 rfl sM_21 ?_
      refine gg_zvs (fun s3 => ?_)
      refine gg_iinc (pc := 192) hC dX7_copy_192 (y := 0) (j := 6) rfl (z := 1) rfl (Nat.le_of_ble_eq_true rfl) (lv' := [(6, .int (v6 + 1)), (0, .ref (A 0)), (1, .int v1), (2, .int v2), (3, .int v3), (4, .int v4), (5, .int v5)]) rfl ?_
      refine gg_goto (pc := 195) hC dX7_copy_195 (tgt := 122) rfl ?_
      exact gg_lv [1, 2, 3, 4, 5, 6, 0] rfl (ih _ _)
set_option maxHeartbeats 4000000 in
set_option maxRecDepth 100000 in
theorem lX7_copy_201 {C : zK} {A : Nat → Nat} {cA : Nat → ClassId} (hC : zOK C (wM A cA) cX7_copy RX7 7 2 42) {v3 : Int32} {v4 : Int32} {v5 : Int32} : ∀ (n : Nat) (v6 : Int32) (σ : zS), zG C (wM A cA) 7 (fun q => zW C (wM A cA) 7 280 [] [] q) (fX7_copy_201 v3 v4 v5 n v6 σ) 201 [(0, .ref (A 0)), (3, .int v3), (4, .int v4), (5, .int v5), (6, .int v6)] [] σ := by
  intro n
  induction n with
  | zero => intro v6 σ; exact gg_none (o := none)
  | succ n ih =>
    intro v6 σ
    rw [fX7_copy_201]
    refine gg_iload (pc := 201) hC dX7_copy_201 4 rfl ?_
    refine gg_iload (pc := 203) hC dX7_copy_203 3 rfl ?_
    refine gg_icmp_ge (pc := 205) hC dX7_copy_205 (tgt := 280) rfl (fun _ => ?_) (fun _ => ?_)
    · exact gg_y (fun h => zW_lv [] rfl h)
    · refine gg_aload_n (pc := 208) hC dX7_copy_208 (i := 0) rfl 0 rfl ?_
      refine gg_get (pc := 209) hC dX7_copy_209 fX7_57 0 pM_0 (v := .ref (A 16)) rfl ?_
      refine gg_bipush (pc := 212) hC dX7_copy_212 (x := 40) rfl ?_
      refine gg_iload_n (pc := 214) hC dX7_copy_214 (i := 3) rfl 1 rfl ?_
      refine gg_imul (pc := 215) hC dX7_copy_215 ?_
      refine gg_iload (pc := 216) hC dX7_copy_216 2 rfl ?_
      refine gg_iadd (pc := 218) hC dX7_copy_218 ?_
      refine gg_iload (pc := 219) hC dX7_copy_219 4 rfl ?_
      refine gg_iadd (pc := 221) hC dX7_copy_221 ?_
      refine gg_aload_n (pc := 222) hC dX7_copy_222 (i := 0) rfl 0 rfl ?_
      refine gg_get (pc := 223) hC dX7_copy_223 fX7_67 0 pM_0 (v := .ref (A 19)) rfl ?_
      refine gg_iload (pc := 226) hC dX7_copy_226 4 rfl ?_
      refine gg_lald (pc := 228) hC dX7_copy_228 19 1 pM_19 rfl ?_
      refine gg_last (pc := 229) hC dX7_copy_229 16 1 pM_16 rfl sM_16 ?_
      refine gg_zvs (fun s1 => ?_)
      refine gg_aload_n (pc := 230) hC dX7_copy_230 (i := 0) rfl 0 rfl ?_
      refine gg_get (pc := 231) hC dX7_copy_231 fX7_60 0 pM_0 (v := .ref (A 17)) rfl ?_
      refine gg_bipush (pc := 234) hC dX7_copy_234 (x := 40) rfl ?_
      refine gg_iload_n (pc := 236) hC dX7_copy_236 (i := 3) rfl 1 rfl ?_
      refine gg_imul (pc := 237) hC dX7_copy_237 ?_
      refine gg_iload (pc := 238) hC dX7_copy_238 2 rfl ?_
      refine gg_iadd (pc := 240) hC dX7_copy_240 ?_
      refine gg_iload (pc := 241) hC dX7_copy_241 4 rfl ?_
      refine gg_iadd (pc := 243) hC dX7_copy_243 ?_
      refine gg_aload_n (pc := 244) hC dX7_copy_244 (i := 0) rfl 0 rfl ?_
      refine gg_get (pc := 245) hC dX7_copy_245 fX7_70 0 pM_0 (v := .ref (A 20)) rfl ?_
      refine gg_iload (pc := 248) hC dX7_copy_248 4 rfl ?_
      refine gg_dald (pc := 250) hC dX7_copy_250 20 3 pM_20 rfl ?_
      refine gg_dast (pc := 251) hC dX7_copy_251 17 3 pM_17 rfl sM_17 ?_
      refine gg_zvs (fun s2 => ?_)
      refine gg_aload_n (pc := 252) hC dX7_copy_252 (i := 0) rfl 0 rfl ?_
      refine gg_get (pc := 253) hC dX7_copy_253 fX7_64 0 pM_0 (v := .ref (A 18)) rfl ?_
      refine gg_bipush (pc := 256) hC dX7_copy_256 (x := 40) rfl ?_
      refine gg_iload_n (pc := 258) hC dX7_copy_258 (i := 3) rfl 1 rfl ?_
      refine gg_imul (pc := 259) hC dX7_copy_259 ?_
      refine gg_iload (pc := 260) hC dX7_copy_260 2 rfl ?_
      refine gg_iadd (pc := 262) hC dX7_copy_262 ?_
      refine gg_iload (pc := 263) hC dX7_copy_263 4 rfl ?_
      refine gg_iadd (pc := 265) hC dX7_copy_265 ?_
      refine gg_aload_n (pc := 266) hC dX7_copy_266 (i := 0) rfl 0 rfl ?_
      refine gg_get (pc := 267) hC dX7_copy_267 fX7_73 0 pM_0 (v := .ref (A 21)) rfl ?_
      refine gg_iload (pc := 270) hC dX7_copy_270 4 rfl ?_
      refine gg_zald (pc := 272) hC dX7_copy_272 21 2 pM_21 rfl ?_
      refine gg_zast (pc := 273) hC dX7_copy_273 18 2 pM_18 rfl sM_18 ?_
      refine gg_zvs (fun s3 => ?_)
      refine gg_iinc (pc := 274) hC dX7_copy_274 (y := 0) (j := 4) rfl (z := 1) rfl (Nat.le_of_ble_eq_true rfl) (lv' := [(6, .int (v6 + 1)), (0, .ref (A 0)), (3, .int v3), (4, .int v4), (5, .int v5)]) rfl ?_
      refine gg_goto (pc := 277) hC dX7_copy_277 (tgt := 201) rfl ?_
      exact gg_lv [1, 2, 3, 4, 0] rfl (ih _ _)
set_option maxHeartbeats 4000000 in
set_option maxRecDepth 100000 in
theorem mX7_copy {l : Launch} {D : va_G} {A : Nat → Nat} {cA : Nat → ClassId} {v1 : Int32} {v2 : Int32} {v3 : Int32} {v4 : Int32} {v5 : Int32}  {σ : zS} {r : Int32 × zS} (h : fX7_copy v1 v2 v3 v4 v5 σ = some r) : zMI l D (wM A cA) yX7_copy (zws yX7_copy cX7_copy 7 (some .int)) 2 42 [.ref (A 0), .int v1, .int v2, .int v3, .int v4, .int v5] σ r := by
  refine zm_I (lv := [(0, .ref (A 0)), (1, .int v1), (2, .int v2), (3, .int v3), (4, .int v4), (5, .int v5)]) rfl sM_ok (Nat.le_of_ble_eq_true rfl) rfl (fun C _ _ hC hR => ?_) h
  unfold fX7_copy
  refine gg_iload_n (pc := 0) hC dX7_copy_0 (i := 1) rfl 1 rfl ?_
  refine gg_callSIr (pc := 1) hC dX7_copy_1 cX7_281 (fun _ h => mX7_isSheet h) (Nat.le_of_ble_eq_true rfl) (Nat.le_of_ble_eq_true rfl) (As := [.int v1]) (rest := []) rfl rfl (Nat.le_of_ble_eq_true rfl) (fun x1 => ?_)
  refine gg_if_eq (pc := 4) hC dX7_copy_4 (tgt := 14) rfl (fun _ => ?_) (fun _ => ?_)
  · refine gg_bipush (pc := 14) hC dX7_copy_14 (x := -2) rfl ?_
    exact gg_iret (pc := 16) hR dX7_copy_16
  · refine gg_iload_n (pc := 7) hC dX7_copy_7 (i := 3) rfl 3 rfl ?_
    refine gg_callSIr (pc := 8) hC dX7_copy_8 cX7_281 (fun _ h => mX7_isSheet h) (Nat.le_of_ble_eq_true rfl) (Nat.le_of_ble_eq_true rfl) (As := [.int v3]) (rest := []) rfl rfl (Nat.le_of_ble_eq_true rfl) (fun x2 => ?_)
    refine gg_if_ne (pc := 11) hC dX7_copy_11 (tgt := 17) rfl (fun _ => ?_) (fun _ => ?_)
    · refine gg_bipush (pc := 14) hC dX7_copy_14 (x := -2) rfl ?_
      exact gg_iret (pc := 16) hR dX7_copy_16
    · refine gg_aload_n (pc := 17) hC dX7_copy_17 (i := 0) rfl 0 rfl ?_
      refine gg_get (pc := 18) hC dX7_copy_18 fX7_51 0 pM_0 (v := .ref (A 14)) rfl ?_
      refine gg_iload_n (pc := 21) hC dX7_copy_21 (i := 1) rfl 1 rfl ?_
      refine gg_iald (pc := 22) hC dX7_copy_22 14 0 pM_14 rfl ?_
      refine gg_iconst (pc := 23) hC dX7_copy_23 (x := -1) rfl ?_
      refine gg_icmp_eq (pc := 24) hC dX7_copy_24 (tgt := 37) rfl (fun _ => ?_) (fun _ => ?_)
      · refine gg_aload_n (pc := 37) hC dX7_copy_37 (i := 0) rfl 0 rfl ?_
        refine gg_iconst (pc := 38) hC dX7_copy_38 (x := 1) rfl ?_
        refine gg_callVI (pc := 39) hC dX7_copy_39 vX7_284 (fun _ h => mX7_meets h) (Nat.le_of_ble_eq_true rfl) (Nat.le_of_ble_eq_true rfl) (As := [.int 1]) (rest := []) rfl rfl (Nat.le_of_ble_eq_true rfl) 0 7 pM_0 rfl (fun x3 s4 => ?_)
        exact gg_iret (pc := 42) hR dX7_copy_42
      · refine gg_aload_n (pc := 27) hC dX7_copy_27 (i := 0) rfl 0 rfl ?_
        refine gg_get (pc := 28) hC dX7_copy_28 fX7_51 0 pM_0 (v := .ref (A 14)) rfl ?_
        refine gg_iload_n (pc := 31) hC dX7_copy_31 (i := 3) rfl 3 rfl ?_
        refine gg_iald (pc := 32) hC dX7_copy_32 14 0 pM_14 rfl ?_
        refine gg_iconst (pc := 33) hC dX7_copy_33 (x := -1) rfl ?_
        refine gg_icmp_ne (pc := 34) hC dX7_copy_34 (tgt := 43) rfl (fun _ => ?_) (fun _ => ?_)
        · refine gg_aload_n (pc := 37) hC dX7_copy_37 (i := 0) rfl 0 rfl ?_
          refine gg_iconst (pc := 38) hC dX7_copy_38 (x := 1) rfl ?_
          refine gg_callVI (pc := 39) hC dX7_copy_39 vX7_284 (fun _ h => mX7_meets h) (Nat.le_of_ble_eq_true rfl) (Nat.le_of_ble_eq_true rfl) (As := [.int 1]) (rest := []) rfl rfl (Nat.le_of_ble_eq_true rfl) 0 7 pM_0 rfl (fun x5 s6 => ?_)
          exact gg_iret (pc := 42) hR dX7_copy_42
        · refine gg_aload_n (pc := 43) hC dX7_copy_43 (i := 0) rfl 0 rfl ?_
          refine gg_get (pc := 44) hC dX7_copy_44 fX7_51 0 pM_0 (v := .ref (A 14)) rfl ?_
          refine gg_iload_n (pc := 47) hC dX7_copy_47 (i := 1) rfl 1 rfl ?_
          refine gg_iald (pc := 48) hC dX7_copy_48 14 0 pM_14 rfl ?_
          refine gg_aload_n (pc := 49) hC dX7_copy_49 (i := 0) rfl 0 rfl ?_
          refine gg_get (pc := 50) hC dX7_copy_50 fX7_51 0 pM_0 (v := .ref (A 14)) rfl ?_
          refine gg_iload_n (pc := 53) hC dX7_copy_53 (i := 3) rfl 3 rfl ?_
          refine gg_iald (pc := 54) hC dX7_copy_54 14 0 pM_14 rfl ?_
          refine gg_icmp_eq (pc := 55) hC dX7_copy_55 (tgt := 64) rfl (fun _ => ?_) (fun _ => ?_)
          · refine gg_iload_n (pc := 64) hC dX7_copy_64 (i := 2) rfl 2 rfl ?_
            refine gg_if_lt (pc := 65) hC dX7_copy_65 (tgt := 113) rfl (fun _ => ?_) (fun _ => ?_)
            · refine gg_aload_n (pc := 113) hC dX7_copy_113 (i := 0) rfl 0 rfl ?_
              refine gg_iconst (pc := 114) hC dX7_copy_114 (x := 2) rfl ?_
              refine gg_callVI (pc := 115) hC dX7_copy_115 vX7_284 (fun _ h => mX7_meets h) (Nat.le_of_ble_eq_true rfl) (Nat.le_of_ble_eq_true rfl) (As := [.int 2]) (rest := []) rfl rfl (Nat.le_of_ble_eq_true rfl) 0 7 pM_0 rfl (fun x7 s8 => ?_)
              exact gg_iret (pc := 118) hR dX7_copy_118
            · refine gg_iload (pc := 68) hC dX7_copy_68 4 rfl ?_
              refine gg_if_lt (pc := 70) hC dX7_copy_70 (tgt := 113) rfl (fun _ => ?_) (fun _ => ?_)
              · refine gg_aload_n (pc := 113) hC dX7_copy_113 (i := 0) rfl 0 rfl ?_
                refine gg_iconst (pc := 114) hC dX7_copy_114 (x := 2) rfl ?_
                refine gg_callVI (pc := 115) hC dX7_copy_115 vX7_284 (fun _ h => mX7_meets h) (Nat.le_of_ble_eq_true rfl) (Nat.le_of_ble_eq_true rfl) (As := [.int 2]) (rest := []) rfl rfl (Nat.le_of_ble_eq_true rfl) 0 7 pM_0 rfl (fun x9 s10 => ?_)
                exact gg_iret (pc := 118) hR dX7_copy_118
              · refine gg_iload (pc := 73) hC dX7_copy_73 5 rfl ?_
                refine gg_if_lt (pc := 75) hC dX7_copy_75 (tgt := 113) rfl (fun _ => ?_) (fun _ => ?_)
                · refine gg_aload_n (pc := 113) hC dX7_copy_113 (i := 0) rfl 0 rfl ?_
                  refine gg_iconst (pc := 114) hC dX7_copy_114 (x := 2) rfl ?_
                  refine gg_callVI (pc := 115) hC dX7_copy_115 vX7_284 (fun _ h => mX7_meets h) (Nat.le_of_ble_eq_true rfl) (Nat.le_of_ble_eq_true rfl) (As := [.int 2]) (rest := []) rfl rfl (Nat.le_of_ble_eq_true rfl) 0 7 pM_0 rfl (fun x11 s12 => ?_)
                  exact gg_iret (pc := 118) hR dX7_copy_118
                · refine gg_iload_n (pc := 78) hC dX7_copy_78 (i := 2) rfl 2 rfl ?_
                  refine gg_i2l (pc := 79) hC dX7_copy_79 ?_
                  refine gg_iload (pc := 80) hC dX7_copy_80 5 rfl ?_
                  refine gg_i2l (pc := 82) hC dX7_copy_82 ?_
                  refine gg_ladd (pc := 83) hC dX7_copy_83 ?_
                  refine gg_aload_n (pc := 84) hC dX7_copy_84 (i := 0) rfl 0 rfl ?_
                  refine gg_get (pc := 85) hC dX7_copy_85 fX7_54 0 pM_0 (v := .ref (A 15)) rfl ?_
                  refine gg_iload_n (pc := 88) hC dX7_copy_88 (i := 1) rfl 1 rfl ?_
                  refine gg_iald (pc := 89) hC dX7_copy_89 15 0 pM_15 rfl ?_
                  refine gg_i2l (pc := 90) hC dX7_copy_90 ?_
                  refine gg_lcmp_gt (pc := 91) hC dX7_copy_91 dX7_copy_92 (tgt := 113) rfl (fun _ => ?_) (fun _ => ?_)
                  · refine gg_aload_n (pc := 113) hC dX7_copy_113 (i := 0) rfl 0 rfl ?_
                    refine gg_iconst (pc := 114) hC dX7_copy_114 (x := 2) rfl ?_
                    refine gg_callVI (pc := 115) hC dX7_copy_115 vX7_284 (fun _ h => mX7_meets h) (Nat.le_of_ble_eq_true rfl) (Nat.le_of_ble_eq_true rfl) (As := [.int 2]) (rest := []) rfl rfl (Nat.le_of_ble_eq_true rfl) 0 7 pM_0 rfl (fun x13 s14 => ?_)
                    exact gg_iret (pc := 118) hR dX7_copy_118
                  · refine gg_iload (pc := 95) hC dX7_copy_95 4 rfl ?_
                    refine gg_i2l (pc := 97) hC dX7_copy_97 ?_
                    refine gg_iload (pc := 98) hC dX7_copy_98 5 rfl ?_
                    refine gg_i2l (pc := 100) hC dX7_copy_100 ?_
                    refine gg_ladd (pc := 101) hC dX7_copy_101 ?_
                    refine gg_aload_n (pc := 102) hC dX7_copy_102 (i := 0) rfl 0 rfl ?_
                    refine gg_get (pc := 103) hC dX7_copy_103 fX7_54 0 pM_0 (v := .ref (A 15)) rfl ?_
                    refine gg_iload_n (pc := 106) hC dX7_copy_106 (i := 3) rfl 3 rfl ?_
                    refine gg_iald (pc := 107) hC dX7_copy_107 15 0 pM_15 rfl ?_
                    refine gg_i2l (pc := 108) hC dX7_copy_108 ?_
                    refine gg_lcmp_le (pc := 109) hC dX7_copy_109 dX7_copy_110 (tgt := 119) rfl (fun _ => ?_) (fun _ => ?_)
                    · refine gg_iconst (pc := 119) hC dX7_copy_119 (x := 0) rfl ?_
                      refine gg_istore (pc := 120) hC dX7_copy_120 (Nat.le_of_ble_eq_true rfl) (lv' := [(6, .int 0), (0, .ref (A 0)), (1, .int v1), (2, .int v2), (3, .int v3), (4, .int v4), (5, .int v5)]) rfl ?_
                      refine gg_join1 (E' := (fun q => zW C (wM A cA) 7 198 [(0, .ref (A 0)), (3, .int v3), (4, .int v4), (5, .int v5)] [] q)) (gg_lv [1, 2, 3, 4, 5, 6, 0] rfl (lX7_copy_122 hC  500 _ _)) (fun s15 => ?_)
                      show zG C (wM A cA) 7 _ _ 198 [(0, .ref (A 0)), (3, .int v3), (4, .int v4), (5, .int v5)] [] s15
                      refine gg_iconst (pc := 198) hC dX7_copy_198 (x := 0) rfl ?_
                      refine gg_istore (pc := 199) hC dX7_copy_199 (Nat.le_of_ble_eq_true rfl) (lv' := [(6, .int 0), (0, .ref (A 0)), (3, .int v3), (4, .int v4), (5, .int v5)]) rfl ?_
                      refine gg_join1 (E' := (fun q => zW C (wM A cA) 7 280 [] [] q)) (gg_lv [1, 2, 3, 4, 0] rfl (lX7_copy_201 hC  500 _ _)) (fun s16 => ?_)
                      show zG C (wM A cA) 7 _ _ 280 [] [] s16
                      refine gg_iconst (pc := 280) hC dX7_copy_280 (x := 1) rfl ?_
                      exact gg_iret (pc := 281) hR dX7_copy_281
                    · refine gg_aload_n (pc := 113) hC dX7_copy_113 (i := 0) rfl 0 rfl ?_
                      refine gg_iconst (pc := 114) hC dX7_copy_114 (x := 2) rfl ?_
                      refine gg_callVI (pc := 115) hC dX7_copy_115 vX7_284 (fun _ h => mX7_meets h) (Nat.le_of_ble_eq_true rfl) (Nat.le_of_ble_eq_true rfl) (As := [.int 2]) (rest := []) rfl rfl (Nat.le_of_ble_eq_true rfl) 0 7 pM_0 rfl (fun x17 s18 => ?_)
                      exact gg_iret (pc := 118) hR dX7_copy_118
          · refine gg_aload_n (pc := 58) hC dX7_copy_58 (i := 0) rfl 0 rfl ?_
            refine gg_iconst (pc := 59) hC dX7_copy_59 (x := 4) rfl ?_
            refine gg_callVI (pc := 60) hC dX7_copy_60 vX7_284 (fun _ h => mX7_meets h) (Nat.le_of_ble_eq_true rfl) (Nat.le_of_ble_eq_true rfl) (As := [.int 4]) (rest := []) rfl rfl (Nat.le_of_ble_eq_true rfl) 0 7 pM_0 rfl (fun x19 s20 => ?_)
            exact gg_iret (pc := 63) hR dX7_copy_63
def fX7_lostNow_8 (σ : zS) : Nat → Int32 → Int32 → Option (Int32)
  | 0, _, _ => none
  | n + 1, v1, v2 =>
    if (zi σ 0) ≤ v2 then (some v1) else
    (zg (zq v2 32) (zv (v1 + (za σ 7 v2.toNatClampNeg)) (fun (x1 : Int32) =>
    fX7_lostNow_8 σ n x1 (v2 + 1))))
def fX7_lostNow  (σ : zS) : Option (Int32 × zS) :=
    zy1 (fX7_finds σ) (fun s1 =>
    zy1 (fX7_lostNow_8 s1 500 0 0) (fun (x2 : Int32) =>
    some (x2, s1)))
set_option maxHeartbeats 4000000 in
set_option maxRecDepth 100000 in
theorem lX7_lostNow_8 {C : zK} {A : Nat → Nat} {cA : Nat → ClassId} (hC : zOK C (wM A cA) cX7_lostNow RX7 3 3 72) {σ : zS} : ∀ (n : Nat) (v1 : Int32) (v2 : Int32), zG C (wM A cA) 3 (fun q => zW C (wM A cA) 3 31 [(1, .int q)] [] σ) (fX7_lostNow_8 σ n v1 v2) 8 [(0, .ref (A 0)), (1, .int v1), (2, .int v2)] [] σ := by
  intro n
  induction n with
  | zero => intro v1 v2; exact gg_none (o := none)
  | succ n ih =>
    intro v1 v2
    rw [fX7_lostNow_8]
    refine gg_iload_n (pc := 8) hC dX7_lostNow_8 (i := 2) rfl 2 rfl ?_
    refine gg_aload_n (pc := 9) hC dX7_lostNow_9 (i := 0) rfl 0 rfl ?_
    refine gg_get (pc := 10) hC dX7_lostNow_10 fX7_81 0 pM_0 (v := .int (zi σ 0)) rfl ?_
    refine gg_icmp_ge (pc := 13) hC dX7_lostNow_13 (tgt := 31) rfl (fun _ => ?_) (fun _ => ?_)
    · exact gg_y (fun h => zW_lv [1] rfl h)
    · refine gg_iload_n (pc := 16) hC dX7_lostNow_16 (i := 1) rfl 1 rfl ?_
      refine gg_aload_n (pc := 17) hC dX7_lostNow_17 (i := 0) rfl 0 rfl ?_
      refine gg_get (pc := 18) hC dX7_lostNow_18 fX7_36 0 pM_0 (v := .ref (A 9)) rfl ?_
      refine gg_iload_n (pc := 21) hC dX7_lostNow_21 (i := 2) rfl 2 rfl ?_
      refine gg_iald (pc := 22) hC dX7_lostNow_22 9 0 pM_9 rfl ?_
      refine gg_iadd (pc := 23) hC dX7_lostNow_23 ?_
      refine gg_zvi (fun x1 => ?_)
      refine gg_istore_n (pc := 24) hC dX7_lostNow_24 (i := 1) rfl (Nat.le_of_ble_eq_true rfl) (lv' := [(1, .int x1), (0, .ref (A 0)), (2, .int v2)]) rfl ?_
      refine gg_iinc (pc := 25) hC dX7_lostNow_25 (y := 0) (j := 2) rfl (z := 1) rfl (Nat.le_of_ble_eq_true rfl) (lv' := [(2, .int (v2 + 1)), (1, .int x1), (0, .ref (A 0))]) rfl ?_
      refine gg_goto (pc := 28) hC dX7_lostNow_28 (tgt := 8) rfl ?_
      exact gg_lv [2, 1, 0] rfl (ih _ _)
set_option maxHeartbeats 4000000 in
set_option maxRecDepth 100000 in
theorem mX7_lostNow {l : Launch} {D : va_G} {A : Nat → Nat} {cA : Nat → ClassId}   {σ : zS} {r : Int32 × zS} (h : fX7_lostNow  σ = some r) : zMI l D (wM A cA) yX7_lostNow (zws yX7_lostNow cX7_lostNow 3 (some .int)) 3 72 [.ref (A 0)] σ r := by
  refine zm_I (lv := [(0, .ref (A 0))]) rfl sM_ok (Nat.le_of_ble_eq_true rfl) rfl (fun C _ _ hC hR => ?_) h
  unfold fX7_lostNow
  refine gg_aload_n (pc := 0) hC dX7_lostNow_0 (i := 0) rfl 0 rfl ?_
  refine gg_callVV (pc := 1) hC dX7_lostNow_1 vX7_178 (fun _ h => mX7_finds h) (Nat.le_of_ble_eq_true rfl) (Nat.le_of_ble_eq_true rfl) (As := []) (rest := []) rfl rfl (Nat.le_of_ble_eq_true rfl) 0 7 pM_0 rfl (fun s1 => ?_)
  refine gg_iconst (pc := 4) hC dX7_lostNow_4 (x := 0) rfl ?_
  refine gg_istore_n (pc := 5) hC dX7_lostNow_5 (i := 1) rfl (Nat.le_of_ble_eq_true rfl) (lv' := [(1, .int 0), (0, .ref (A 0))]) rfl ?_
  refine gg_iconst (pc := 6) hC dX7_lostNow_6 (x := 0) rfl ?_
  refine gg_istore_n (pc := 7) hC dX7_lostNow_7 (i := 2) rfl (Nat.le_of_ble_eq_true rfl) (lv' := [(2, .int 0), (1, .int 0), (0, .ref (A 0))]) rfl ?_
  refine gg_join1 (E' := (fun q => zW C (wM A cA) 3 31 [(1, .int q)] [] s1)) (gg_lv [2, 1, 0] rfl (lX7_lostNow_8 hC  500 _ _)) (fun x2 => ?_)
  show zG C (wM A cA) 3 _ _ 31 [(1, .int x2)] [] s1
  refine gg_iload_n (pc := 31) hC dX7_lostNow_31 (i := 1) rfl 0 rfl ?_
  exact gg_iret (pc := 32) hR dX7_lostNow_32
def fX7_ranked  (σ : zS) : Option (Int32) :=
    if 3 ≤ (zi σ 0) then (if (((zi σ 0) - 1) / 2) ≤ 15 then (some (((zi σ 0) - 1) / 2)) else
    (some 15)) else
    (some 0)
set_option maxHeartbeats 4000000 in
set_option maxRecDepth 100000 in
theorem mX7_ranked {l : Launch} {D : va_G} {A : Nat → Nat} {cA : Nat → ClassId}   {σ : zS} {r : Int32} (h : fX7_ranked  σ = some r) : zMI l D (wM A cA) yX7_ranked (zws yX7_ranked cX7_ranked 1 (some .int)) 0 0 [.ref (A 0)] σ (r, σ) := by
  refine zm_Ir (lv := [(0, .ref (A 0))]) rfl sM_ok (Nat.le_of_ble_eq_true rfl) rfl (fun C _ _ hC hR => ?_) h
  unfold fX7_ranked
  refine gg_aload_n (pc := 0) hC dX7_ranked_0 (i := 0) rfl 0 rfl ?_
  refine gg_get (pc := 1) hC dX7_ranked_1 fX7_81 0 pM_0 (v := .int (zi σ 0)) rfl ?_
  refine gg_iconst (pc := 4) hC dX7_ranked_4 (x := 3) rfl ?_
  refine gg_icmp_ge (pc := 5) hC dX7_ranked_5 (tgt := 12) rfl (fun _ => ?_) (fun _ => ?_)
  · refine gg_aload_n (pc := 12) hC dX7_ranked_12 (i := 0) rfl 0 rfl ?_
    refine gg_get (pc := 13) hC dX7_ranked_13 fX7_81 0 pM_0 (v := .int (zi σ 0)) rfl ?_
    refine gg_iconst (pc := 16) hC dX7_ranked_16 (x := 1) rfl ?_
    refine gg_isub (pc := 17) hC dX7_ranked_17 ?_
    refine gg_iconst (pc := 18) hC dX7_ranked_18 (x := 2) rfl ?_
    refine gg_idiv (pc := 19) hC dX7_ranked_19 (by decide) ?_
    refine gg_bipush (pc := 20) hC dX7_ranked_20 (x := 15) rfl ?_
    refine gg_icmp_le (pc := 22) hC dX7_ranked_22 (tgt := 30) rfl (fun _ => ?_) (fun _ => ?_)
    · refine gg_aload_n (pc := 30) hC dX7_ranked_30 (i := 0) rfl 0 rfl ?_
      refine gg_get (pc := 31) hC dX7_ranked_31 fX7_81 0 pM_0 (v := .int (zi σ 0)) rfl ?_
      refine gg_iconst (pc := 34) hC dX7_ranked_34 (x := 1) rfl ?_
      refine gg_isub (pc := 35) hC dX7_ranked_35 ?_
      refine gg_iconst (pc := 36) hC dX7_ranked_36 (x := 2) rfl ?_
      refine gg_idiv (pc := 37) hC dX7_ranked_37 (by decide) ?_
      exact gg_iretr (pc := 38) hR dX7_ranked_38
    · refine gg_bipush (pc := 25) hC dX7_ranked_25 (x := 15) rfl ?_
      refine gg_goto (pc := 27) hC dX7_ranked_27 (tgt := 38) rfl ?_
      exact gg_iretr (pc := 38) hR dX7_ranked_38
  · refine gg_iconst (pc := 8) hC dX7_ranked_8 (x := 0) rfl ?_
    refine gg_goto (pc := 9) hC dX7_ranked_9 (tgt := 38) rfl ?_
    exact gg_iretr (pc := 38) hR dX7_ranked_38
def fX7_count (v1 : Int32) (σ : zS) : Option (Int32 × zS) :=
    if v1 = 0 then (some ((zi σ 0), σ)) else
    if v1 = 1 then (zy1 (fX7_bins σ) (fun x2 =>
    some (x2, σ))) else
    if v1 = 2 then (zy1 (fX7_allHits σ) (fun x4 =>
    some (x4, σ))) else
    if v1 = 3 then (some ((zi σ 4), σ)) else
    if v1 = 4 then (zy2 (fX7_lostNow σ) (fun x7 s8 =>
    some (x7, s8))) else
    if v1 = 5 then (zy2 (fX7_breaksNow σ) (fun x10 s11 =>
    some (x10, s11))) else
    if v1 = 6 then (zy1 (fX7_ranked σ) (fun x13 =>
    some (x13, σ))) else
    if v1 = 7 then (some ((zi σ 1), σ)) else
    if v1 = 8 then (some ((zi σ 5), σ)) else
    (some ((-2 : Int32), σ))
set_option maxHeartbeats 4000000 in
set_option maxRecDepth 100000 in
theorem mX7_count {l : Launch} {D : va_G} {A : Nat → Nat} {cA : Nat → ClassId} {v1 : Int32}  {σ : zS} {r : Int32 × zS} (h : fX7_count v1 σ = some r) : zMI l D (wM A cA) yX7_count (zws yX7_count cX7_count 2 (some .int)) 4 94 [.ref (A 0), .int v1] σ r := by
  refine zm_I (lv := [(0, .ref (A 0)), (1, .int v1)]) rfl sM_ok (Nat.le_of_ble_eq_true rfl) rfl (fun C _ _ hC hR => ?_) h
  unfold fX7_count
  refine gg_iload_n (pc := 0) hC dX7_count_0 (i := 1) rfl 1 rfl ?_
  refine gg_ite (fun hc1 => ?_) (fun hc1 => ?_)
  · refine gg_tabIn (pc := 1) hC dX7_count_1 (by rw [hc1]; decide) (by rw [hc1]; decide) (off := 51) (by rw [hc1]; rfl) (tgt := 52) rfl ?_
    refine gg_aload_n (pc := 52) hC dX7_count_52 (i := 0) rfl 0 rfl ?_
    refine gg_get (pc := 53) hC dX7_count_53 fX7_81 0 pM_0 (v := .int (zi σ 0)) rfl ?_
    exact gg_iret (pc := 56) hR dX7_count_56
  · skip
    refine gg_ite (fun hc3 => ?_) (fun hc3 => ?_)
    · refine gg_tabIn (pc := 1) hC dX7_count_1 (by rw [hc3]; decide) (by rw [hc3]; decide) (off := 56) (by rw [hc3]; rfl) (tgt := 57) rfl ?_
      refine gg_aload_n (pc := 57) hC dX7_count_57 (i := 0) rfl 0 rfl ?_
      refine gg_callVIr (pc := 58) hC dX7_count_58 vX7_107 (fun _ h => mX7_bins h) (Nat.le_of_ble_eq_true rfl) (Nat.le_of_ble_eq_true rfl) (As := []) (rest := []) rfl rfl (Nat.le_of_ble_eq_true rfl) 0 7 pM_0 rfl (fun x2 => ?_)
      exact gg_iret (pc := 61) hR dX7_count_61
    · skip
      refine gg_ite (fun hc5 => ?_) (fun hc5 => ?_)
      · refine gg_tabIn (pc := 1) hC dX7_count_1 (by rw [hc5]; decide) (by rw [hc5]; decide) (off := 61) (by rw [hc5]; rfl) (tgt := 62) rfl ?_
        refine gg_aload_n (pc := 62) hC dX7_count_62 (i := 0) rfl 0 rfl ?_
        refine gg_callVIr (pc := 63) hC dX7_count_63 vX7_103 (fun _ h => mX7_allHits h) (Nat.le_of_ble_eq_true rfl) (Nat.le_of_ble_eq_true rfl) (As := []) (rest := []) rfl rfl (Nat.le_of_ble_eq_true rfl) 0 7 pM_0 rfl (fun x4 => ?_)
        exact gg_iret (pc := 66) hR dX7_count_66
      · skip
        refine gg_ite (fun hc6 => ?_) (fun hc6 => ?_)
        · refine gg_tabIn (pc := 1) hC dX7_count_1 (by rw [hc6]; decide) (by rw [hc6]; decide) (off := 66) (by rw [hc6]; rfl) (tgt := 67) rfl ?_
          refine gg_aload_n (pc := 67) hC dX7_count_67 (i := 0) rfl 0 rfl ?_
          refine gg_get (pc := 68) hC dX7_count_68 fX7_194 0 pM_0 (v := .int (zi σ 4)) rfl ?_
          exact gg_iret (pc := 71) hR dX7_count_71
        · skip
          refine gg_ite (fun hc9 => ?_) (fun hc9 => ?_)
          · refine gg_tabIn (pc := 1) hC dX7_count_1 (by rw [hc9]; decide) (by rw [hc9]; decide) (off := 71) (by rw [hc9]; rfl) (tgt := 72) rfl ?_
            refine gg_aload_n (pc := 72) hC dX7_count_72 (i := 0) rfl 0 rfl ?_
            refine gg_callVI (pc := 73) hC dX7_count_73 vX7_305 (fun _ h => mX7_lostNow h) (Nat.le_of_ble_eq_true rfl) (Nat.le_of_ble_eq_true rfl) (As := []) (rest := []) rfl rfl (Nat.le_of_ble_eq_true rfl) 0 7 pM_0 rfl (fun x7 s8 => ?_)
            exact gg_iret (pc := 76) hR dX7_count_76
          · skip
            refine gg_ite (fun hc12 => ?_) (fun hc12 => ?_)
            · refine gg_tabIn (pc := 1) hC dX7_count_1 (by rw [hc12]; decide) (by rw [hc12]; decide) (off := 76) (by rw [hc12]; rfl) (tgt := 77) rfl ?_
              refine gg_aload_n (pc := 77) hC dX7_count_77 (i := 0) rfl 0 rfl ?_
              refine gg_callVI (pc := 78) hC dX7_count_78 vX7_308 (fun _ h => mX7_breaksNow h) (Nat.le_of_ble_eq_true rfl) (Nat.le_of_ble_eq_true rfl) (As := []) (rest := []) rfl rfl (Nat.le_of_ble_eq_true rfl) 0 7 pM_0 rfl (fun x10 s11 => ?_)
              exact gg_iret (pc := 81) hR dX7_count_81
            · skip
              refine gg_ite (fun hc14 => ?_) (fun hc14 => ?_)
              · refine gg_tabIn (pc := 1) hC dX7_count_1 (by rw [hc14]; decide) (by rw [hc14]; decide) (off := 81) (by rw [hc14]; rfl) (tgt := 82) rfl ?_
                refine gg_aload_n (pc := 82) hC dX7_count_82 (i := 0) rfl 0 rfl ?_
                refine gg_callVIr (pc := 83) hC dX7_count_83 vX7_269 (fun _ h => mX7_ranked h) (Nat.le_of_ble_eq_true rfl) (Nat.le_of_ble_eq_true rfl) (As := []) (rest := []) rfl rfl (Nat.le_of_ble_eq_true rfl) 0 7 pM_0 rfl (fun x13 => ?_)
                exact gg_iret (pc := 86) hR dX7_count_86
              · skip
                refine gg_ite (fun hc15 => ?_) (fun hc15 => ?_)
                · refine gg_tabIn (pc := 1) hC dX7_count_1 (by rw [hc15]; decide) (by rw [hc15]; decide) (off := 86) (by rw [hc15]; rfl) (tgt := 87) rfl ?_
                  refine gg_aload_n (pc := 87) hC dX7_count_87 (i := 0) rfl 0 rfl ?_
                  refine gg_get (pc := 88) hC dX7_count_88 fX7_143 0 pM_0 (v := .int (zi σ 1)) rfl ?_
                  exact gg_iret (pc := 91) hR dX7_count_91
                · skip
                  refine gg_ite (fun hc16 => ?_) (fun hc16 => ?_)
                  · refine gg_tabIn (pc := 1) hC dX7_count_1 (by rw [hc16]; decide) (by rw [hc16]; decide) (off := 91) (by rw [hc16]; rfl) (tgt := 92) rfl ?_
                    refine gg_aload_n (pc := 92) hC dX7_count_92 (i := 0) rfl 0 rfl ?_
                    refine gg_get (pc := 93) hC dX7_count_93 fX7_278 0 pM_0 (v := .int (zi σ 5)) rfl ?_
                    exact gg_iret (pc := 96) hR dX7_count_96
                  · skip
                    refine gg_tabOut (pc := 1) hC dX7_count_1 (zsw_out (n := 8) (Nat.le_of_ble_eq_true rfl) (fun k hk => by
                    match k, hk with
                    | 0, _ => exact hc1
                    | 1, _ => exact hc3
                    | 2, _ => exact hc5
                    | 3, _ => exact hc6
                    | 4, _ => exact hc9
                    | 5, _ => exact hc12
                    | 6, _ => exact hc14
                    | 7, _ => exact hc15
                    | 8, _ => exact hc16)) (tgt := 97) rfl ?_
                    refine gg_bipush (pc := 97) hC dX7_count_97 (x := -2) rfl ?_
                    exact gg_iret (pc := 99) hR dX7_count_99
def fX7_forgets_7 (v1 : Int32) : Nat → Int32 → zS → Option (zS)
  | 0, _, _ => none
  | n + 1, v2, σ =>
    if 12 ≤ v2 then (some σ) else
    (zg (zq v2 12) (zv (wa σ 2 v2.toNatClampNeg 0) (fun (s1 : zS) =>
    fX7_forgets_7 v1 n (v2 + 1) s1)))
def fX7_forgets  (σ : zS) : Option (Int32 × zS) :=
    zy1 (fX7_allHits σ) (fun x1 =>
    zy1 (fX7_forgets_7 x1 500 0 σ) (fun (s2 : zS) =>
    some (x1, s2)))
set_option maxHeartbeats 4000000 in
set_option maxRecDepth 100000 in
theorem lX7_forgets_7 {C : zK} {A : Nat → Nat} {cA : Nat → ClassId} (hC : zOK C (wM A cA) cX7_forgets RX7 3 1 22) {v1 : Int32} : ∀ (n : Nat) (v2 : Int32) (σ : zS), zG C (wM A cA) 3 (fun q => zW C (wM A cA) 3 26 [(1, .int v1)] [] q) (fX7_forgets_7 v1 n v2 σ) 7 [(0, .ref (A 0)), (1, .int v1), (2, .int v2)] [] σ := by
  intro n
  induction n with
  | zero => intro v2 σ; exact gg_none (o := none)
  | succ n ih =>
    intro v2 σ
    rw [fX7_forgets_7]
    refine gg_iload_n (pc := 7) hC dX7_forgets_7 (i := 2) rfl 2 rfl ?_
    refine gg_bipush (pc := 8) hC dX7_forgets_8 (x := 12) rfl ?_
    refine gg_icmp_ge (pc := 10) hC dX7_forgets_10 (tgt := 26) rfl (fun _ => ?_) (fun _ => ?_)
    · exact gg_y (fun h => zW_lv [1] rfl h)
    · refine gg_aload_n (pc := 13) hC dX7_forgets_13 (i := 0) rfl 0 rfl ?_
      refine gg_get (pc := 14) hC dX7_forgets_14 fX7_17 0 pM_0 (v := .ref (A 3)) rfl ?_
      refine gg_iload_n (pc := 17) hC dX7_forgets_17 (i := 2) rfl 2 rfl ?_
      refine gg_iconst (pc := 18) hC dX7_forgets_18 (x := 0) rfl ?_
      refine gg_iast (pc := 19) hC dX7_forgets_19 3 0 pM_3 rfl sM_3 ?_
      refine gg_zvs (fun s1 => ?_)
      refine gg_iinc (pc := 20) hC dX7_forgets_20 (y := 0) (j := 2) rfl (z := 1) rfl (Nat.le_of_ble_eq_true rfl) (lv' := [(2, .int (v2 + 1)), (0, .ref (A 0)), (1, .int v1)]) rfl ?_
      refine gg_goto (pc := 23) hC dX7_forgets_23 (tgt := 7) rfl ?_
      exact gg_lv [1, 2, 0] rfl (ih _ _)
set_option maxHeartbeats 4000000 in
set_option maxRecDepth 100000 in
theorem mX7_forgets {l : Launch} {D : va_G} {A : Nat → Nat} {cA : Nat → ClassId}   {σ : zS} {r : Int32 × zS} (h : fX7_forgets  σ = some r) : zMI l D (wM A cA) yX7_forgets (zws yX7_forgets cX7_forgets 3 (some .int)) 1 22 [.ref (A 0)] σ r := by
  refine zm_I (lv := [(0, .ref (A 0))]) rfl sM_ok (Nat.le_of_ble_eq_true rfl) rfl (fun C _ _ hC hR => ?_) h
  unfold fX7_forgets
  refine gg_aload_n (pc := 0) hC dX7_forgets_0 (i := 0) rfl 0 rfl ?_
  refine gg_callVIr (pc := 1) hC dX7_forgets_1 vX7_103 (fun _ h => mX7_allHits h) (Nat.le_of_ble_eq_true rfl) (Nat.le_of_ble_eq_true rfl) (As := []) (rest := []) rfl rfl (Nat.le_of_ble_eq_true rfl) 0 7 pM_0 rfl (fun x1 => ?_)
  refine gg_istore_n (pc := 4) hC dX7_forgets_4 (i := 1) rfl (Nat.le_of_ble_eq_true rfl) (lv' := [(1, .int x1), (0, .ref (A 0))]) rfl ?_
  refine gg_iconst (pc := 5) hC dX7_forgets_5 (x := 0) rfl ?_
  refine gg_istore_n (pc := 6) hC dX7_forgets_6 (i := 2) rfl (Nat.le_of_ble_eq_true rfl) (lv' := [(2, .int 0), (1, .int x1), (0, .ref (A 0))]) rfl ?_
  refine gg_join1 (E' := (fun q => zW C (wM A cA) 3 26 [(1, .int x1)] [] q)) (gg_lv [2, 1, 0] rfl (lX7_forgets_7 hC  500 _ _)) (fun s2 => ?_)
  show zG C (wM A cA) 3 _ _ 26 [(1, .int x1)] [] s2
  refine gg_iload_n (pc := 26) hC dX7_forgets_26 (i := 1) rfl 0 rfl ?_
  exact gg_iret (pc := 27) hR dX7_forgets_27
def fX7_learns_4 : Nat → Int32 → Int32 → zS → Option (Int32 × zS)
  | 0, _, _, _ => none
  | n + 1, v1, v2, σ =>
    if 60 ≤ v2 then (some (v1, σ)) else
    (zg (zq v2 60) (zy1 (if (za σ 1 v2.toNatClampNeg) = 0 then (some 0) else
    (some 1)) (fun (x1 : Int32) =>
    zv (v1 + x1) (fun (x2 : Int32) =>
    zg (zq v2 60) (zv (wa σ 3 v2.toNatClampNeg x2) (fun (s3 : zS) =>
    zy1 (if v2 = 0 then (some v2) else
    (zg (zq v2 60) (if (za s3 1 v2.toNatClampNeg) = 0 then (zg (zq x2 14) (some (za s3 4 x2.toNatClampNeg))) else
    (some v2)))) (fun (x4 : Int32) =>
    zg (zq x2 14) (zv (wa s3 4 x2.toNatClampNeg x4) (fun (s5 : zS) =>
    fX7_learns_4  n x2 (v2 + 1) s5)))))))))
def fX7_learns  (σ : zS) : Option (zS) :=
    zy2 (fX7_learns_4  500 0 0 σ) (fun (x1 : Int32) (s2 : zS) =>
    zg (zq (x1 + 1) 14) (zv (wa s2 4 (x1 + 1).toNatClampNeg 60) (fun (s3 : zS) =>
    some s3)))
set_option maxHeartbeats 4000000 in
set_option maxRecDepth 100000 in
theorem lX7_learns_4 {C : zK} {A : Nat → Nat} {cA : Nat → ClassId} (hC : zOK C (wM A cA) cX7_learns RX7 3 0 0) : ∀ (n : Nat) (v1 : Int32) (v2 : Int32) (σ : zS), zG C (wM A cA) 3 (fun q => zW C (wM A cA) 3 69 [(0, .ref (A 0)), (1, .int q.1)] [] q.2) (fX7_learns_4  n v1 v2 σ) 4 [(0, .ref (A 0)), (1, .int v1), (2, .int v2)] [] σ := by
  intro n
  induction n with
  | zero => intro v1 v2 σ; exact gg_none (o := none)
  | succ n ih =>
    intro v1 v2 σ
    rw [fX7_learns_4]
    refine gg_iload_n (pc := 4) hC dX7_learns_4 (i := 2) rfl 2 rfl ?_
    refine gg_bipush (pc := 5) hC dX7_learns_5 (x := 60) rfl ?_
    refine gg_icmp_ge (pc := 7) hC dX7_learns_7 (tgt := 69) rfl (fun _ => ?_) (fun _ => ?_)
    · exact gg_y (fun h => zW_lv [0, 1] rfl h)
    · refine gg_iload_n (pc := 10) hC dX7_learns_10 (i := 1) rfl 1 rfl ?_
      refine gg_aload_n (pc := 11) hC dX7_learns_11 (i := 0) rfl 0 rfl ?_
      refine gg_get (pc := 12) hC dX7_learns_12 fX7_13 0 pM_0 (v := .ref (A 2)) rfl ?_
      refine gg_iload_n (pc := 15) hC dX7_learns_15 (i := 2) rfl 2 rfl ?_
      refine gg_zald (pc := 16) hC dX7_learns_16 2 2 pM_2 rfl ?_
      refine gg_join1 (E' := (fun q => zW C (wM A cA) 3 25 [(0, .ref (A 0)), (2, .int v2)] [.int q, .int v1] σ)) ?_ (fun x1 => ?_)
      · refine gg_if_eq (pc := 17) hC dX7_learns_17 (tgt := 24) rfl (fun _ => ?_) (fun _ => ?_)
        · refine gg_iconst (pc := 24) hC dX7_learns_24 (x := 0) rfl ?_
          exact gg_y (fun h => zW_lv [0, 2] rfl h)
        · refine gg_iconst (pc := 20) hC dX7_learns_20 (x := 1) rfl ?_
          refine gg_goto (pc := 21) hC dX7_learns_21 (tgt := 25) rfl ?_
          exact gg_y (fun h => zW_lv [0, 2] rfl h)
      · show zG C (wM A cA) 3 _ _ 25 [(0, .ref (A 0)), (2, .int v2)] [.int x1, .int v1] σ
        refine gg_iadd (pc := 25) hC dX7_learns_25 ?_
        refine gg_zvi (fun x2 => ?_)
        refine gg_istore_n (pc := 26) hC dX7_learns_26 (i := 1) rfl (Nat.le_of_ble_eq_true rfl) (lv' := [(1, .int x2), (0, .ref (A 0)), (2, .int v2)]) rfl ?_
        refine gg_aload_n (pc := 27) hC dX7_learns_27 (i := 0) rfl 1 rfl ?_
        refine gg_get (pc := 28) hC dX7_learns_28 fX7_20 0 pM_0 (v := .ref (A 4)) rfl ?_
        refine gg_iload_n (pc := 31) hC dX7_learns_31 (i := 2) rfl 2 rfl ?_
        refine gg_iload_n (pc := 32) hC dX7_learns_32 (i := 1) rfl 0 rfl ?_
        refine gg_iast (pc := 33) hC dX7_learns_33 4 0 pM_4 rfl sM_4 ?_
        refine gg_zvs (fun s3 => ?_)
        refine gg_aload_n (pc := 34) hC dX7_learns_34 (i := 0) rfl 1 rfl ?_
        refine gg_get (pc := 35) hC dX7_learns_35 fX7_23 0 pM_0 (v := .ref (A 5)) rfl ?_
        refine gg_iload_n (pc := 38) hC dX7_learns_38 (i := 1) rfl 0 rfl ?_
        refine gg_iload_n (pc := 39) hC dX7_learns_39 (i := 2) rfl 2 rfl ?_
        refine gg_join1 (E' := (fun q => zW C (wM A cA) 3 62 [(0, .ref (A 0)), (1, .int x2), (2, .int v2)] [.int q, .int x2, .ref (A 5)] s3)) ?_ (fun x4 => ?_)
        · refine gg_if_eq (pc := 40) hC dX7_learns_40 (tgt := 52) rfl (fun _ => ?_) (fun _ => ?_)
          · refine gg_iload_n (pc := 52) hC dX7_learns_52 (i := 2) rfl 2 rfl ?_
            refine gg_goto (pc := 53) hC dX7_learns_53 (tgt := 62) rfl ?_
            exact gg_y (fun h => zW_lv [1, 0, 2] rfl h)
          · refine gg_aload_n (pc := 43) hC dX7_learns_43 (i := 0) rfl 1 rfl ?_
            refine gg_get (pc := 44) hC dX7_learns_44 fX7_13 0 pM_0 (v := .ref (A 2)) rfl ?_
            refine gg_iload_n (pc := 47) hC dX7_learns_47 (i := 2) rfl 2 rfl ?_
            refine gg_zald (pc := 48) hC dX7_learns_48 2 2 pM_2 rfl ?_
            refine gg_if_eq (pc := 49) hC dX7_learns_49 (tgt := 56) rfl (fun _ => ?_) (fun _ => ?_)
            · refine gg_aload_n (pc := 56) hC dX7_learns_56 (i := 0) rfl 1 rfl ?_
              refine gg_get (pc := 57) hC dX7_learns_57 fX7_23 0 pM_0 (v := .ref (A 5)) rfl ?_
              refine gg_iload_n (pc := 60) hC dX7_learns_60 (i := 1) rfl 0 rfl ?_
              refine gg_iald (pc := 61) hC dX7_learns_61 5 0 pM_5 rfl ?_
              exact gg_y (fun h => zW_lv [1, 0, 2] rfl h)
            · refine gg_iload_n (pc := 52) hC dX7_learns_52 (i := 2) rfl 2 rfl ?_
              refine gg_goto (pc := 53) hC dX7_learns_53 (tgt := 62) rfl ?_
              exact gg_y (fun h => zW_lv [1, 0, 2] rfl h)
        · show zG C (wM A cA) 3 _ _ 62 [(0, .ref (A 0)), (1, .int x2), (2, .int v2)] [.int x4, .int x2, .ref (A 5)] s3
          refine gg_iast (pc := 62) hC dX7_learns_62 5 0 pM_5 rfl sM_5 ?_
          refine gg_zvs (fun s5 => ?_)
          refine gg_iinc (pc := 63) hC dX7_learns_63 (y := 0) (j := 2) rfl (z := 1) rfl (Nat.le_of_ble_eq_true rfl) (lv' := [(2, .int (v2 + 1)), (0, .ref (A 0)), (1, .int x2)]) rfl ?_
          refine gg_goto (pc := 66) hC dX7_learns_66 (tgt := 4) rfl ?_
          exact gg_lv [1, 2, 0] rfl (ih _ _ _)
set_option maxHeartbeats 4000000 in
set_option maxRecDepth 100000 in
theorem mX7_learns {l : Launch} {D : va_G} {A : Nat → Nat} {cA : Nat → ClassId}   {σ : zS} {r : zS} (h : fX7_learns  σ = some r) : zMV l D (wM A cA) yX7_learns (zws yX7_learns cX7_learns 3 none) 0 0 [.ref (A 0)] σ r := by
  refine zm_V (lv := [(0, .ref (A 0))]) rfl sM_ok (Nat.le_of_ble_eq_true rfl) rfl (fun C _ _ hC hR => ?_) h
  unfold fX7_learns
  refine gg_iconst (pc := 0) hC dX7_learns_0 (x := 0) rfl ?_
  refine gg_istore_n (pc := 1) hC dX7_learns_1 (i := 1) rfl (Nat.le_of_ble_eq_true rfl) (lv' := [(1, .int 0), (0, .ref (A 0))]) rfl ?_
  refine gg_iconst (pc := 2) hC dX7_learns_2 (x := 0) rfl ?_
  refine gg_istore_n (pc := 3) hC dX7_learns_3 (i := 2) rfl (Nat.le_of_ble_eq_true rfl) (lv' := [(2, .int 0), (1, .int 0), (0, .ref (A 0))]) rfl ?_
  refine gg_join2 (E' := (fun q => zW C (wM A cA) 3 69 [(0, .ref (A 0)), (1, .int q.1)] [] q.2)) (gg_lv [2, 1, 0] rfl (lX7_learns_4 hC  500 _ _ _)) (fun x1 s2 => ?_)
  show zG C (wM A cA) 3 _ _ 69 [(0, .ref (A 0)), (1, .int x1)] [] s2
  refine gg_aload_n (pc := 69) hC dX7_learns_69 (i := 0) rfl 0 rfl ?_
  refine gg_get (pc := 70) hC dX7_learns_70 fX7_23 0 pM_0 (v := .ref (A 5)) rfl ?_
  refine gg_iload_n (pc := 73) hC dX7_learns_73 (i := 1) rfl 1 rfl ?_
  refine gg_iconst (pc := 74) hC dX7_learns_74 (x := 1) rfl ?_
  refine gg_iadd (pc := 75) hC dX7_learns_75 ?_
  refine gg_bipush (pc := 76) hC dX7_learns_76 (x := 60) rfl ?_
  refine gg_iast (pc := 78) hC dX7_learns_78 5 0 pM_5 rfl sM_5 ?_
  refine gg_zvs (fun s3 => ?_)
  exact gg_vret (pc := 79) hR dX7_learns_79
def fX7_cut (v1 : Int32) (σ : zS) : Option (Int32 × zS) :=
    zy1 (fX7_in v1 1 59 σ) (fun x1 =>
    if x1 = 0 then (some ((-2 : Int32), σ)) else
    (zg (zq v1 60) (if (za σ 1 v1.toNatClampNeg) = 0 then (zy1 (fX7_bins σ) (fun x2 =>
    if x2 = 12 then (some ((-4 : Int32), σ)) else
    (zg (zq v1 60) (zy1 (if (za σ 1 v1.toNatClampNeg) = 0 then (some 1) else
    (some 0)) (fun (x3 : Int32) =>
    zg (zq v1 60) (zv (wa σ 1 v1.toNatClampNeg (vp_nar .boolean x3)) (fun (s4 : zS) =>
    zy1 (fX7_learns s4) (fun s5 =>
    zy2 (fX7_forgets s5) (fun x6 s7 =>
    zy1 (fX7_bins s7) (fun x8 =>
    some (x8, s7))))))))))) else
    (zg (zq v1 60) (zy1 (if (za σ 1 v1.toNatClampNeg) = 0 then (some 1) else
    (some 0)) (fun (x9 : Int32) =>
    zg (zq v1 60) (zv (wa σ 1 v1.toNatClampNeg (vp_nar .boolean x9)) (fun (s10 : zS) =>
    zy1 (fX7_learns s10) (fun s11 =>
    zy2 (fX7_forgets s11) (fun x12 s13 =>
    zy1 (fX7_bins s13) (fun x14 =>
    some (x14, s13))))))))))))
set_option maxHeartbeats 4000000 in
set_option maxRecDepth 100000 in
theorem mX7_cut {l : Launch} {D : va_G} {A : Nat → Nat} {cA : Nat → ClassId} {v1 : Int32}  {σ : zS} {r : Int32 × zS} (h : fX7_cut v1 σ = some r) : zMI l D (wM A cA) yX7_cut (zws yX7_cut cX7_cut 2 (some .int)) 2 44 [.ref (A 0), .int v1] σ r := by
  refine zm_I (lv := [(0, .ref (A 0)), (1, .int v1)]) rfl sM_ok (Nat.le_of_ble_eq_true rfl) rfl (fun C _ _ hC hR => ?_) h
  unfold fX7_cut
  refine gg_iload_n (pc := 0) hC dX7_cut_0 (i := 1) rfl 1 rfl ?_
  refine gg_iconst (pc := 1) hC dX7_cut_1 (x := 1) rfl ?_
  refine gg_bipush (pc := 2) hC dX7_cut_2 (x := 59) rfl ?_
  refine gg_callSIr (pc := 4) hC dX7_cut_4 cX7_85 (fun _ h => mX7_in h) (Nat.le_of_ble_eq_true rfl) (Nat.le_of_ble_eq_true rfl) (As := [.int v1, .int 1, .int 59]) (rest := []) rfl rfl (Nat.le_of_ble_eq_true rfl) (fun x1 => ?_)
  refine gg_if_ne (pc := 7) hC dX7_cut_7 (tgt := 13) rfl (fun _ => ?_) (fun _ => ?_)
  · refine gg_bipush (pc := 10) hC dX7_cut_10 (x := -2) rfl ?_
    exact gg_iret (pc := 12) hR dX7_cut_12
  · refine gg_aload_n (pc := 13) hC dX7_cut_13 (i := 0) rfl 0 rfl ?_
    refine gg_get (pc := 14) hC dX7_cut_14 fX7_13 0 pM_0 (v := .ref (A 2)) rfl ?_
    refine gg_iload_n (pc := 17) hC dX7_cut_17 (i := 1) rfl 1 rfl ?_
    refine gg_zald (pc := 18) hC dX7_cut_18 2 2 pM_2 rfl ?_
    refine gg_if_ne (pc := 19) hC dX7_cut_19 (tgt := 34) rfl (fun _ => ?_) (fun _ => ?_)
    · refine gg_aload_n (pc := 22) hC dX7_cut_22 (i := 0) rfl 0 rfl ?_
      refine gg_callVIr (pc := 23) hC dX7_cut_23 vX7_107 (fun _ h => mX7_bins h) (Nat.le_of_ble_eq_true rfl) (Nat.le_of_ble_eq_true rfl) (As := []) (rest := []) rfl rfl (Nat.le_of_ble_eq_true rfl) 0 7 pM_0 rfl (fun x2 => ?_)
      refine gg_bipush (pc := 26) hC dX7_cut_26 (x := 12) rfl ?_
      refine gg_icmp_ne (pc := 28) hC dX7_cut_28 (tgt := 34) rfl (fun _ => ?_) (fun _ => ?_)
      · refine gg_bipush (pc := 31) hC dX7_cut_31 (x := -4) rfl ?_
        exact gg_iret (pc := 33) hR dX7_cut_33
      · refine gg_aload_n (pc := 34) hC dX7_cut_34 (i := 0) rfl 0 rfl ?_
        refine gg_get (pc := 35) hC dX7_cut_35 fX7_13 0 pM_0 (v := .ref (A 2)) rfl ?_
        refine gg_iload_n (pc := 38) hC dX7_cut_38 (i := 1) rfl 1 rfl ?_
        refine gg_aload_n (pc := 39) hC dX7_cut_39 (i := 0) rfl 0 rfl ?_
        refine gg_get (pc := 40) hC dX7_cut_40 fX7_13 0 pM_0 (v := .ref (A 2)) rfl ?_
        refine gg_iload_n (pc := 43) hC dX7_cut_43 (i := 1) rfl 1 rfl ?_
        refine gg_zald (pc := 44) hC dX7_cut_44 2 2 pM_2 rfl ?_
        refine gg_join1 (E' := (fun q => zW C (wM A cA) 2 53 [(0, .ref (A 0))] [.int q, .int v1, .ref (A 2)] σ)) ?_ (fun x3 => ?_)
        · refine gg_if_ne (pc := 45) hC dX7_cut_45 (tgt := 52) rfl (fun _ => ?_) (fun _ => ?_)
          · refine gg_iconst (pc := 48) hC dX7_cut_48 (x := 1) rfl ?_
            refine gg_goto (pc := 49) hC dX7_cut_49 (tgt := 53) rfl ?_
            exact gg_y (fun h => zW_lv [0] rfl h)
          · refine gg_iconst (pc := 52) hC dX7_cut_52 (x := 0) rfl ?_
            exact gg_y (fun h => zW_lv [0] rfl h)
        · show zG C (wM A cA) 2 _ _ 53 [(0, .ref (A 0))] [.int x3, .int v1, .ref (A 2)] σ
          refine gg_zast (pc := 53) hC dX7_cut_53 2 2 pM_2 rfl sM_2 ?_
          refine gg_zvs (fun s4 => ?_)
          refine gg_aload_n (pc := 54) hC dX7_cut_54 (i := 0) rfl 0 rfl ?_
          refine gg_callVV (pc := 55) hC dX7_cut_55 vX7_76 (fun _ h => mX7_learns h) (Nat.le_of_ble_eq_true rfl) (Nat.le_of_ble_eq_true rfl) (As := []) (rest := []) rfl rfl (Nat.le_of_ble_eq_true rfl) 0 7 pM_0 rfl (fun s5 => ?_)
          refine gg_aload_n (pc := 58) hC dX7_cut_58 (i := 0) rfl 0 rfl ?_
          refine gg_callVI (pc := 59) hC dX7_cut_59 vX7_110 (fun _ h => mX7_forgets h) (Nat.le_of_ble_eq_true rfl) (Nat.le_of_ble_eq_true rfl) (As := []) (rest := []) rfl rfl (Nat.le_of_ble_eq_true rfl) 0 7 pM_0 rfl (fun x6 s7 => ?_)
          refine gg_pop (pc := 62) hC dX7_cut_62 rfl ?_
          refine gg_aload_n (pc := 63) hC dX7_cut_63 (i := 0) rfl 0 rfl ?_
          refine gg_callVIr (pc := 64) hC dX7_cut_64 vX7_107 (fun _ h => mX7_bins h) (Nat.le_of_ble_eq_true rfl) (Nat.le_of_ble_eq_true rfl) (As := []) (rest := []) rfl rfl (Nat.le_of_ble_eq_true rfl) 0 7 pM_0 rfl (fun x8 => ?_)
          exact gg_iret (pc := 67) hR dX7_cut_67
    · refine gg_aload_n (pc := 34) hC dX7_cut_34 (i := 0) rfl 0 rfl ?_
      refine gg_get (pc := 35) hC dX7_cut_35 fX7_13 0 pM_0 (v := .ref (A 2)) rfl ?_
      refine gg_iload_n (pc := 38) hC dX7_cut_38 (i := 1) rfl 1 rfl ?_
      refine gg_aload_n (pc := 39) hC dX7_cut_39 (i := 0) rfl 0 rfl ?_
      refine gg_get (pc := 40) hC dX7_cut_40 fX7_13 0 pM_0 (v := .ref (A 2)) rfl ?_
      refine gg_iload_n (pc := 43) hC dX7_cut_43 (i := 1) rfl 1 rfl ?_
      refine gg_zald (pc := 44) hC dX7_cut_44 2 2 pM_2 rfl ?_
      refine gg_join1 (E' := (fun q => zW C (wM A cA) 2 53 [(0, .ref (A 0))] [.int q, .int v1, .ref (A 2)] σ)) ?_ (fun x9 => ?_)
      · refine gg_if_ne (pc := 45) hC dX7_cut_45 (tgt := 52) rfl (fun _ => ?_) (fun _ => ?_)
        · refine gg_iconst (pc := 48) hC dX7_cut_48 (x := 1) rfl ?_
          refine gg_goto (pc := 49) hC dX7_cut_49 (tgt := 53) rfl ?_
          exact gg_y (fun h => zW_lv [0] rfl h)
        · refine gg_iconst (pc := 52) hC dX7_cut_52 (x := 0) rfl ?_
          exact gg_y (fun h => zW_lv [0] rfl h)
      · show zG C (wM A cA) 2 _ _ 53 [(0, .ref (A 0))] [.int x9, .int v1, .ref (A 2)] σ
        refine gg_zast (pc := 53) hC dX7_cut_53 2 2 pM_2 rfl sM_2 ?_
        refine gg_zvs (fun s10 => ?_)
        refine gg_aload_n (pc := 54) hC dX7_cut_54 (i := 0) rfl 0 rfl ?_
        refine gg_callVV (pc := 55) hC dX7_cut_55 vX7_76 (fun _ h => mX7_learns h) (Nat.le_of_ble_eq_true rfl) (Nat.le_of_ble_eq_true rfl) (As := []) (rest := []) rfl rfl (Nat.le_of_ble_eq_true rfl) 0 7 pM_0 rfl (fun s11 => ?_)
        refine gg_aload_n (pc := 58) hC dX7_cut_58 (i := 0) rfl 0 rfl ?_
        refine gg_callVI (pc := 59) hC dX7_cut_59 vX7_110 (fun _ h => mX7_forgets h) (Nat.le_of_ble_eq_true rfl) (Nat.le_of_ble_eq_true rfl) (As := []) (rest := []) rfl rfl (Nat.le_of_ble_eq_true rfl) 0 7 pM_0 rfl (fun x12 s13 => ?_)
        refine gg_pop (pc := 62) hC dX7_cut_62 rfl ?_
        refine gg_aload_n (pc := 63) hC dX7_cut_63 (i := 0) rfl 0 rfl ?_
        refine gg_callVIr (pc := 64) hC dX7_cut_64 vX7_107 (fun _ h => mX7_bins h) (Nat.le_of_ble_eq_true rfl) (Nat.le_of_ble_eq_true rfl) (As := []) (rest := []) rfl rfl (Nat.le_of_ble_eq_true rfl) 0 7 pM_0 rfl (fun x14 => ?_)
        exact gg_iret (pc := 67) hR dX7_cut_67
def fX7_dense (v1 : Int32) (v2 : Int32) (σ : zS) : Option (Int64) :=
    zy1 (fX7_isBin v1 σ) (fun x1 =>
    if x1 = 0 then (zy1 (fX7_no (-2 : Int32) σ) (fun x2 =>
    some x2)) else
    (zy1 (fX7_in v2 0 1 σ) (fun x3 =>
    if x3 = 0 then (zy1 (fX7_no (-2 : Int32) σ) (fun x4 =>
    some x4)) else
    (zy1 (fX7_denseOf v1 v2 σ) (fun x5 =>
    some x5)))))
set_option maxHeartbeats 4000000 in
set_option maxRecDepth 100000 in
theorem mX7_dense {l : Launch} {D : va_G} {A : Nat → Nat} {cA : Nat → ClassId} {v1 : Int32} {v2 : Int32}  {σ : zS} {r : Int64} (h : fX7_dense v1 v2 σ = some r) : zML l D (wM A cA) yX7_dense (zws yX7_dense cX7_dense 3 (some .long)) 2 52 [.ref (A 0), .int v1, .int v2] σ (r, σ) := by
  refine zm_Lr (lv := [(0, .ref (A 0)), (1, .int v1), (2, .int v2)]) rfl sM_ok (Nat.le_of_ble_eq_true rfl) rfl (fun C _ _ hC hR => ?_) h
  unfold fX7_dense
  refine gg_aload_n (pc := 0) hC dX7_dense_0 (i := 0) rfl 0 rfl ?_
  refine gg_iload_n (pc := 1) hC dX7_dense_1 (i := 1) rfl 1 rfl ?_
  refine gg_callVIr (pc := 2) hC dX7_dense_2 vX7_119 (fun _ h => mX7_isBin h) (Nat.le_of_ble_eq_true rfl) (Nat.le_of_ble_eq_true rfl) (As := [.int v1]) (rest := []) rfl rfl (Nat.le_of_ble_eq_true rfl) 0 7 pM_0 rfl (fun x1 => ?_)
  refine gg_if_eq (pc := 5) hC dX7_dense_5 (tgt := 26) rfl (fun _ => ?_) (fun _ => ?_)
  · refine gg_bipush (pc := 26) hC dX7_dense_26 (x := -2) rfl ?_
    refine gg_callSLr (pc := 28) hC dX7_dense_28 cX7_126 (fun _ h => mX7_no h) (Nat.le_of_ble_eq_true rfl) (Nat.le_of_ble_eq_true rfl) (As := [.int (-2 : Int32)]) (rest := []) rfl rfl (Nat.le_of_ble_eq_true rfl) (fun x2 => ?_)
    exact gg_lretr (pc := 31) hR dX7_dense_31
  · refine gg_iload_n (pc := 8) hC dX7_dense_8 (i := 2) rfl 2 rfl ?_
    refine gg_iconst (pc := 9) hC dX7_dense_9 (x := 0) rfl ?_
    refine gg_iconst (pc := 10) hC dX7_dense_10 (x := 1) rfl ?_
    refine gg_callSIr (pc := 11) hC dX7_dense_11 cX7_85 (fun _ h => mX7_in h) (Nat.le_of_ble_eq_true rfl) (Nat.le_of_ble_eq_true rfl) (As := [.int v2, .int 0, .int 1]) (rest := []) rfl rfl (Nat.le_of_ble_eq_true rfl) (fun x3 => ?_)
    refine gg_if_eq (pc := 14) hC dX7_dense_14 (tgt := 26) rfl (fun _ => ?_) (fun _ => ?_)
    · refine gg_bipush (pc := 26) hC dX7_dense_26 (x := -2) rfl ?_
      refine gg_callSLr (pc := 28) hC dX7_dense_28 cX7_126 (fun _ h => mX7_no h) (Nat.le_of_ble_eq_true rfl) (Nat.le_of_ble_eq_true rfl) (As := [.int (-2 : Int32)]) (rest := []) rfl rfl (Nat.le_of_ble_eq_true rfl) (fun x4 => ?_)
      exact gg_lretr (pc := 31) hR dX7_dense_31
    · refine gg_aload_n (pc := 17) hC dX7_dense_17 (i := 0) rfl 0 rfl ?_
      refine gg_iload_n (pc := 18) hC dX7_dense_18 (i := 1) rfl 1 rfl ?_
      refine gg_iload_n (pc := 19) hC dX7_dense_19 (i := 2) rfl 2 rfl ?_
      refine gg_callVLr (pc := 20) hC dX7_dense_20 vX7_136 (fun _ h => mX7_denseOf h) (Nat.le_of_ble_eq_true rfl) (Nat.le_of_ble_eq_true rfl) (As := [.int v1, .int v2]) (rest := []) rfl rfl (Nat.le_of_ble_eq_true rfl) 0 7 pM_0 rfl (fun x5 => ?_)
      refine gg_goto (pc := 23) hC dX7_dense_23 (tgt := 31) rfl ?_
      exact gg_lretr (pc := 31) hR dX7_dense_31

def ok_edge (Rel : zS → zS → Prop) : Prop := ∀ (σ τ : zS) (a1 : Int32), Rel σ τ → ∃ (r : Int32) (σ' : zS) (τ' : zS), fX6_edge a1 σ = some (r, σ') ∧ fX7_edge a1 τ = some (r, τ') ∧ Rel σ' τ'
set_option maxHeartbeats 4000000 in
set_option maxRecDepth 100000 in
theorem law_edge {α : Type} {C : zK} {A B : Nat → Nat} {cA : Nat → ClassId} {E : α → Prop} {o : Option α} {b L i : Nat} {xs : Nat → Int32} (hC : zOK C (wL A B cA) cL_law RL 4 13 494) (hz : zScr C b L xs) (hi : i + 6 ≤ L) (hL : L ≤ 3072) {Rel : zS → zS → Prop} (hok : ok_edge Rel) {σ τ : zS} (hR : Rel σ τ) (hN : ∀ σ τ, Rel σ τ → zG C (wL A B cA) 4 E o 1377 [(0, .ref b), (1, .ref (A 0)), (2, .ref (B 0)), (3, .int (Int32.ofNat i))] [] (σ, τ)) : zG C (wL A B cA) 4 E o 208 [(0, .ref b), (1, .ref (A 0)), (2, .ref (B 0)), (3, .int (Int32.ofNat i))] [] (σ, τ) := by
  obtain ⟨r, σ', τ', hX, hM, hR'⟩ := hok σ τ (xs (Int32.ofNat i + 1).toNatClampNeg) hR
  refine gg_aload_n (pc := 208) hC dL_law_208 (i := 1) rfl 1 rfl ?_
  refine gg_aload_n (pc := 209) hC dL_law_209 (i := 0) rfl 0 rfl ?_
  refine gg_iload_n (pc := 210) hC dL_law_210 (i := 3) rfl 3 rfl ?_
  refine gg_iconst (pc := 211) hC dL_law_211 (x := 1) rfl ?_
  refine gg_iadd (pc := 212) hC dL_law_212 ?_
  refine gg_sld (pc := 213) hC hz dL_law_213 (zin 1 (by omega) hi hL) ?_
  refine gg_lawXI (pc := 214) hC dL_law_214 vL_13 (mX6_edge hX) (Nat.le_of_ble_eq_true rfl) (Nat.le_of_ble_eq_true rfl) (As := [.int (xs (Int32.ofNat i + 1).toNatClampNeg)]) (rest := []) rfl rfl (Nat.le_of_ble_eq_true rfl) ?_
  refine gg_aload_n (pc := 217) hC dL_law_217 (i := 2) rfl 2 rfl ?_
  refine gg_aload_n (pc := 218) hC dL_law_218 (i := 0) rfl 0 rfl ?_
  refine gg_iload_n (pc := 219) hC dL_law_219 (i := 3) rfl 3 rfl ?_
  refine gg_iconst (pc := 220) hC dL_law_220 (x := 1) rfl ?_
  refine gg_iadd (pc := 221) hC dL_law_221 ?_
  refine gg_sld (pc := 222) hC hz dL_law_222 (zin 1 (by omega) hi hL) ?_
  refine gg_lawMI (pc := 223) hC dL_law_223 vL_17 (mX7_edge hM) (Nat.le_of_ble_eq_true rfl) (Nat.le_of_ble_eq_true rfl) (As := [.int (xs (Int32.ofNat i + 1).toNatClampNeg)]) (rest := [.int r]) rfl rfl (Nat.le_of_ble_eq_true rfl) ?_
  refine gg_prog (o' := if r = r then o else none) (if_pos rfl).symm ?_
  refine gg_icmp_eq (pc := 226) hC dL_law_226 (tgt := 1377) rfl (fun _ => ?_) (fun h => absurd rfl h)
  exact hN _ _ hR'
def ok_edges (Rel : zS → zS → Prop) : Prop := ∀ (σ τ : zS) (a1 a2 a3 : Int32), Rel σ τ → ∃ (r : Int32) (σ' : zS) (τ' : zS), fX6_edges a1 a2 a3 σ = some (r, σ') ∧ fX7_edges a1 a2 a3 τ = some (r, τ') ∧ Rel σ' τ'
set_option maxHeartbeats 4000000 in
set_option maxRecDepth 100000 in
theorem law_edges {α : Type} {C : zK} {A B : Nat → Nat} {cA : Nat → ClassId} {E : α → Prop} {o : Option α} {b L i : Nat} {xs : Nat → Int32} (hC : zOK C (wL A B cA) cL_law RL 4 13 494) (hz : zScr C b L xs) (hi : i + 6 ≤ L) (hL : L ≤ 3072) {Rel : zS → zS → Prop} (hok : ok_edges Rel) {σ τ : zS} (hR : Rel σ τ) (hN : ∀ σ τ, Rel σ τ → zG C (wL A B cA) 4 E o 1377 [(0, .ref b), (1, .ref (A 0)), (2, .ref (B 0)), (3, .int (Int32.ofNat i))] [] (σ, τ)) : zG C (wL A B cA) 4 E o 231 [(0, .ref b), (1, .ref (A 0)), (2, .ref (B 0)), (3, .int (Int32.ofNat i))] [] (σ, τ) := by
  obtain ⟨r, σ', τ', hX, hM, hR'⟩ := hok σ τ (xs (Int32.ofNat i + 1).toNatClampNeg) (xs (Int32.ofNat i + 2).toNatClampNeg) (xs (Int32.ofNat i + 3).toNatClampNeg) hR
  refine gg_aload_n (pc := 231) hC dL_law_231 (i := 1) rfl 1 rfl ?_
  refine gg_aload_n (pc := 232) hC dL_law_232 (i := 0) rfl 0 rfl ?_
  refine gg_iload_n (pc := 233) hC dL_law_233 (i := 3) rfl 3 rfl ?_
  refine gg_iconst (pc := 234) hC dL_law_234 (x := 1) rfl ?_
  refine gg_iadd (pc := 235) hC dL_law_235 ?_
  refine gg_sld (pc := 236) hC hz dL_law_236 (zin 1 (by omega) hi hL) ?_
  refine gg_aload_n (pc := 237) hC dL_law_237 (i := 0) rfl 0 rfl ?_
  refine gg_iload_n (pc := 238) hC dL_law_238 (i := 3) rfl 3 rfl ?_
  refine gg_iconst (pc := 239) hC dL_law_239 (x := 2) rfl ?_
  refine gg_iadd (pc := 240) hC dL_law_240 ?_
  refine gg_sld (pc := 241) hC hz dL_law_241 (zin 2 (by omega) hi hL) ?_
  refine gg_aload_n (pc := 242) hC dL_law_242 (i := 0) rfl 0 rfl ?_
  refine gg_iload_n (pc := 243) hC dL_law_243 (i := 3) rfl 3 rfl ?_
  refine gg_iconst (pc := 244) hC dL_law_244 (x := 3) rfl ?_
  refine gg_iadd (pc := 245) hC dL_law_245 ?_
  refine gg_sld (pc := 246) hC hz dL_law_246 (zin 3 (by omega) hi hL) ?_
  refine gg_lawXI (pc := 247) hC dL_law_247 vL_18 (mX6_edges hX) (Nat.le_of_ble_eq_true rfl) (Nat.le_of_ble_eq_true rfl) (As := [.int (xs (Int32.ofNat i + 1).toNatClampNeg), .int (xs (Int32.ofNat i + 2).toNatClampNeg), .int (xs (Int32.ofNat i + 3).toNatClampNeg)]) (rest := []) rfl rfl (Nat.le_of_ble_eq_true rfl) ?_
  refine gg_aload_n (pc := 250) hC dL_law_250 (i := 2) rfl 2 rfl ?_
  refine gg_aload_n (pc := 251) hC dL_law_251 (i := 0) rfl 0 rfl ?_
  refine gg_iload_n (pc := 252) hC dL_law_252 (i := 3) rfl 3 rfl ?_
  refine gg_iconst (pc := 253) hC dL_law_253 (x := 1) rfl ?_
  refine gg_iadd (pc := 254) hC dL_law_254 ?_
  refine gg_sld (pc := 255) hC hz dL_law_255 (zin 1 (by omega) hi hL) ?_
  refine gg_aload_n (pc := 256) hC dL_law_256 (i := 0) rfl 0 rfl ?_
  refine gg_iload_n (pc := 257) hC dL_law_257 (i := 3) rfl 3 rfl ?_
  refine gg_iconst (pc := 258) hC dL_law_258 (x := 2) rfl ?_
  refine gg_iadd (pc := 259) hC dL_law_259 ?_
  refine gg_sld (pc := 260) hC hz dL_law_260 (zin 2 (by omega) hi hL) ?_
  refine gg_aload_n (pc := 261) hC dL_law_261 (i := 0) rfl 0 rfl ?_
  refine gg_iload_n (pc := 262) hC dL_law_262 (i := 3) rfl 3 rfl ?_
  refine gg_iconst (pc := 263) hC dL_law_263 (x := 3) rfl ?_
  refine gg_iadd (pc := 264) hC dL_law_264 ?_
  refine gg_sld (pc := 265) hC hz dL_law_265 (zin 3 (by omega) hi hL) ?_
  refine gg_lawMI (pc := 266) hC dL_law_266 vL_22 (mX7_edges hM) (Nat.le_of_ble_eq_true rfl) (Nat.le_of_ble_eq_true rfl) (As := [.int (xs (Int32.ofNat i + 1).toNatClampNeg), .int (xs (Int32.ofNat i + 2).toNatClampNeg), .int (xs (Int32.ofNat i + 3).toNatClampNeg)]) (rest := [.int r]) rfl rfl (Nat.le_of_ble_eq_true rfl) ?_
  refine gg_prog (o' := if r = r then o else none) (if_pos rfl).symm ?_
  refine gg_icmp_eq (pc := 269) hC dL_law_269 (tgt := 1377) rfl (fun _ => ?_) (fun h => absurd rfl h)
  exact hN _ _ hR'
def ok_gone (Rel : zS → zS → Prop) : Prop := ∀ (σ τ : zS) (a1 : Int32), Rel σ τ → ∃ (r : Int32) (σ' : zS) (τ' : zS), fX6_gone a1 σ = some (r, σ') ∧ fX7_gone a1 τ = some (r, τ') ∧ Rel σ' τ'
set_option maxHeartbeats 4000000 in
set_option maxRecDepth 100000 in
theorem law_gone {α : Type} {C : zK} {A B : Nat → Nat} {cA : Nat → ClassId} {E : α → Prop} {o : Option α} {b L i : Nat} {xs : Nat → Int32} (hC : zOK C (wL A B cA) cL_law RL 4 13 494) (hz : zScr C b L xs) (hi : i + 6 ≤ L) (hL : L ≤ 3072) {Rel : zS → zS → Prop} (hok : ok_gone Rel) {σ τ : zS} (hR : Rel σ τ) (hN : ∀ σ τ, Rel σ τ → zG C (wL A B cA) 4 E o 1377 [(0, .ref b), (1, .ref (A 0)), (2, .ref (B 0)), (3, .int (Int32.ofNat i))] [] (σ, τ)) : zG C (wL A B cA) 4 E o 274 [(0, .ref b), (1, .ref (A 0)), (2, .ref (B 0)), (3, .int (Int32.ofNat i))] [] (σ, τ) := by
  obtain ⟨r, σ', τ', hX, hM, hR'⟩ := hok σ τ (xs (Int32.ofNat i + 1).toNatClampNeg) hR
  refine gg_aload_n (pc := 274) hC dL_law_274 (i := 1) rfl 1 rfl ?_
  refine gg_aload_n (pc := 275) hC dL_law_275 (i := 0) rfl 0 rfl ?_
  refine gg_iload_n (pc := 276) hC dL_law_276 (i := 3) rfl 3 rfl ?_
  refine gg_iconst (pc := 277) hC dL_law_277 (x := 1) rfl ?_
  refine gg_iadd (pc := 278) hC dL_law_278 ?_
  refine gg_sld (pc := 279) hC hz dL_law_279 (zin 1 (by omega) hi hL) ?_
  refine gg_lawXI (pc := 280) hC dL_law_280 vL_23 (mX6_gone hX) (Nat.le_of_ble_eq_true rfl) (Nat.le_of_ble_eq_true rfl) (As := [.int (xs (Int32.ofNat i + 1).toNatClampNeg)]) (rest := []) rfl rfl (Nat.le_of_ble_eq_true rfl) ?_
  refine gg_aload_n (pc := 283) hC dL_law_283 (i := 2) rfl 2 rfl ?_
  refine gg_aload_n (pc := 284) hC dL_law_284 (i := 0) rfl 0 rfl ?_
  refine gg_iload_n (pc := 285) hC dL_law_285 (i := 3) rfl 3 rfl ?_
  refine gg_iconst (pc := 286) hC dL_law_286 (x := 1) rfl ?_
  refine gg_iadd (pc := 287) hC dL_law_287 ?_
  refine gg_sld (pc := 288) hC hz dL_law_288 (zin 1 (by omega) hi hL) ?_
  refine gg_lawMI (pc := 289) hC dL_law_289 vL_26 (mX7_gone hM) (Nat.le_of_ble_eq_true rfl) (Nat.le_of_ble_eq_true rfl) (As := [.int (xs (Int32.ofNat i + 1).toNatClampNeg)]) (rest := [.int r]) rfl rfl (Nat.le_of_ble_eq_true rfl) ?_
  refine gg_prog (o' := if r = r then o else none) (if_pos rfl).symm ?_
  refine gg_icmp_eq (pc := 292) hC dL_law_292 (tgt := 1377) rfl (fun _ => ?_) (fun h => absurd rfl h)
  exact hN _ _ hR'
def ok_clear (Rel : zS → zS → Prop) : Prop := ∀ (σ τ : zS), Rel σ τ → ∃ (r : Int32) (σ' : zS) (τ' : zS), fX6_clear  σ = some (r, σ') ∧ fX7_clear  τ = some (r, τ') ∧ Rel σ' τ'
set_option maxHeartbeats 4000000 in
set_option maxRecDepth 100000 in
theorem law_clear {α : Type} {C : zK} {A B : Nat → Nat} {cA : Nat → ClassId} {E : α → Prop} {o : Option α} {b L i : Nat} {xs : Nat → Int32} (hC : zOK C (wL A B cA) cL_law RL 4 13 494) (hz : zScr C b L xs) (hi : i + 6 ≤ L) (hL : L ≤ 3072) {Rel : zS → zS → Prop} (hok : ok_clear Rel) {σ τ : zS} (hR : Rel σ τ) (hN : ∀ σ τ, Rel σ τ → zG C (wL A B cA) 4 E o 1377 [(0, .ref b), (1, .ref (A 0)), (2, .ref (B 0)), (3, .int (Int32.ofNat i))] [] (σ, τ)) : zG C (wL A B cA) 4 E o 297 [(0, .ref b), (1, .ref (A 0)), (2, .ref (B 0)), (3, .int (Int32.ofNat i))] [] (σ, τ) := by
  obtain ⟨r, σ', τ', hX, hM, hR'⟩ := hok σ τ  hR
  refine gg_aload_n (pc := 297) hC dL_law_297 (i := 1) rfl 1 rfl ?_
  refine gg_lawXI (pc := 298) hC dL_law_298 vL_27 (mX6_clear hX) (Nat.le_of_ble_eq_true rfl) (Nat.le_of_ble_eq_true rfl) (As := []) (rest := []) rfl rfl (Nat.le_of_ble_eq_true rfl) ?_
  refine gg_aload_n (pc := 301) hC dL_law_301 (i := 2) rfl 2 rfl ?_
  refine gg_lawMI (pc := 302) hC dL_law_302 vL_31 (mX7_clear hM) (Nat.le_of_ble_eq_true rfl) (Nat.le_of_ble_eq_true rfl) (As := []) (rest := [.int r]) rfl rfl (Nat.le_of_ble_eq_true rfl) ?_
  refine gg_prog (o' := if r = r then o else none) (if_pos rfl).symm ?_
  refine gg_icmp_eq (pc := 305) hC dL_law_305 (tgt := 1377) rfl (fun _ => ?_) (fun h => absurd rfl h)
  exact hN _ _ hR'
def ok_cut (Rel : zS → zS → Prop) : Prop := ∀ (σ τ : zS) (a1 : Int32), Rel σ τ → ∃ (r : Int32) (σ' : zS) (τ' : zS), fX6_cut a1 σ = some (r, σ') ∧ fX7_cut a1 τ = some (r, τ') ∧ Rel σ' τ'
set_option maxHeartbeats 4000000 in
set_option maxRecDepth 100000 in
theorem law_cut {α : Type} {C : zK} {A B : Nat → Nat} {cA : Nat → ClassId} {E : α → Prop} {o : Option α} {b L i : Nat} {xs : Nat → Int32} (hC : zOK C (wL A B cA) cL_law RL 4 13 494) (hz : zScr C b L xs) (hi : i + 6 ≤ L) (hL : L ≤ 3072) {Rel : zS → zS → Prop} (hok : ok_cut Rel) {σ τ : zS} (hR : Rel σ τ) (hN : ∀ σ τ, Rel σ τ → zG C (wL A B cA) 4 E o 1377 [(0, .ref b), (1, .ref (A 0)), (2, .ref (B 0)), (3, .int (Int32.ofNat i))] [] (σ, τ)) : zG C (wL A B cA) 4 E o 310 [(0, .ref b), (1, .ref (A 0)), (2, .ref (B 0)), (3, .int (Int32.ofNat i))] [] (σ, τ) := by
  obtain ⟨r, σ', τ', hX, hM, hR'⟩ := hok σ τ (xs (Int32.ofNat i + 1).toNatClampNeg) hR
  refine gg_aload_n (pc := 310) hC dL_law_310 (i := 1) rfl 1 rfl ?_
  refine gg_aload_n (pc := 311) hC dL_law_311 (i := 0) rfl 0 rfl ?_
  refine gg_iload_n (pc := 312) hC dL_law_312 (i := 3) rfl 3 rfl ?_
  refine gg_iconst (pc := 313) hC dL_law_313 (x := 1) rfl ?_
  refine gg_iadd (pc := 314) hC dL_law_314 ?_
  refine gg_sld (pc := 315) hC hz dL_law_315 (zin 1 (by omega) hi hL) ?_
  refine gg_lawXI (pc := 316) hC dL_law_316 vL_32 (mX6_cut hX) (Nat.le_of_ble_eq_true rfl) (Nat.le_of_ble_eq_true rfl) (As := [.int (xs (Int32.ofNat i + 1).toNatClampNeg)]) (rest := []) rfl rfl (Nat.le_of_ble_eq_true rfl) ?_
  refine gg_aload_n (pc := 319) hC dL_law_319 (i := 2) rfl 2 rfl ?_
  refine gg_aload_n (pc := 320) hC dL_law_320 (i := 0) rfl 0 rfl ?_
  refine gg_iload_n (pc := 321) hC dL_law_321 (i := 3) rfl 3 rfl ?_
  refine gg_iconst (pc := 322) hC dL_law_322 (x := 1) rfl ?_
  refine gg_iadd (pc := 323) hC dL_law_323 ?_
  refine gg_sld (pc := 324) hC hz dL_law_324 (zin 1 (by omega) hi hL) ?_
  refine gg_lawMI (pc := 325) hC dL_law_325 vL_35 (mX7_cut hM) (Nat.le_of_ble_eq_true rfl) (Nat.le_of_ble_eq_true rfl) (As := [.int (xs (Int32.ofNat i + 1).toNatClampNeg)]) (rest := [.int r]) rfl rfl (Nat.le_of_ble_eq_true rfl) ?_
  refine gg_prog (o' := if r = r then o else none) (if_pos rfl).symm ?_
  refine gg_icmp_eq (pc := 328) hC dL_law_328 (tgt := 1377) rfl (fun _ => ?_) (fun h => absurd rfl h)
  exact hN _ _ hR'
def ok_hit (Rel : zS → zS → Prop) : Prop := ∀ (σ τ : zS) (a1 a2 : Int32), Rel σ τ → ∃ (r : Int32) (σ' : zS) (τ' : zS), fX6_hit a1 a2 σ = some (r, σ') ∧ fX7_hit a1 a2 τ = some (r, τ') ∧ Rel σ' τ'
set_option maxHeartbeats 4000000 in
set_option maxRecDepth 100000 in
theorem law_hit {α : Type} {C : zK} {A B : Nat → Nat} {cA : Nat → ClassId} {E : α → Prop} {o : Option α} {b L i : Nat} {xs : Nat → Int32} (hC : zOK C (wL A B cA) cL_law RL 4 13 494) (hz : zScr C b L xs) (hi : i + 6 ≤ L) (hL : L ≤ 3072) {Rel : zS → zS → Prop} (hok : ok_hit Rel) {σ τ : zS} (hR : Rel σ τ) (hN : ∀ σ τ, Rel σ τ → zG C (wL A B cA) 4 E o 1377 [(0, .ref b), (1, .ref (A 0)), (2, .ref (B 0)), (3, .int (Int32.ofNat i))] [] (σ, τ)) : zG C (wL A B cA) 4 E o 333 [(0, .ref b), (1, .ref (A 0)), (2, .ref (B 0)), (3, .int (Int32.ofNat i))] [] (σ, τ) := by
  obtain ⟨r, σ', τ', hX, hM, hR'⟩ := hok σ τ (xs (Int32.ofNat i + 1).toNatClampNeg) (xs (Int32.ofNat i + 2).toNatClampNeg) hR
  refine gg_aload_n (pc := 333) hC dL_law_333 (i := 1) rfl 1 rfl ?_
  refine gg_aload_n (pc := 334) hC dL_law_334 (i := 0) rfl 0 rfl ?_
  refine gg_iload_n (pc := 335) hC dL_law_335 (i := 3) rfl 3 rfl ?_
  refine gg_iconst (pc := 336) hC dL_law_336 (x := 1) rfl ?_
  refine gg_iadd (pc := 337) hC dL_law_337 ?_
  refine gg_sld (pc := 338) hC hz dL_law_338 (zin 1 (by omega) hi hL) ?_
  refine gg_aload_n (pc := 339) hC dL_law_339 (i := 0) rfl 0 rfl ?_
  refine gg_iload_n (pc := 340) hC dL_law_340 (i := 3) rfl 3 rfl ?_
  refine gg_iconst (pc := 341) hC dL_law_341 (x := 2) rfl ?_
  refine gg_iadd (pc := 342) hC dL_law_342 ?_
  refine gg_sld (pc := 343) hC hz dL_law_343 (zin 2 (by omega) hi hL) ?_
  refine gg_lawXI (pc := 344) hC dL_law_344 vL_36 (mX6_hit hX) (Nat.le_of_ble_eq_true rfl) (Nat.le_of_ble_eq_true rfl) (As := [.int (xs (Int32.ofNat i + 1).toNatClampNeg), .int (xs (Int32.ofNat i + 2).toNatClampNeg)]) (rest := []) rfl rfl (Nat.le_of_ble_eq_true rfl) ?_
  refine gg_aload_n (pc := 347) hC dL_law_347 (i := 2) rfl 2 rfl ?_
  refine gg_aload_n (pc := 348) hC dL_law_348 (i := 0) rfl 0 rfl ?_
  refine gg_iload_n (pc := 349) hC dL_law_349 (i := 3) rfl 3 rfl ?_
  refine gg_iconst (pc := 350) hC dL_law_350 (x := 1) rfl ?_
  refine gg_iadd (pc := 351) hC dL_law_351 ?_
  refine gg_sld (pc := 352) hC hz dL_law_352 (zin 1 (by omega) hi hL) ?_
  refine gg_aload_n (pc := 353) hC dL_law_353 (i := 0) rfl 0 rfl ?_
  refine gg_iload_n (pc := 354) hC dL_law_354 (i := 3) rfl 3 rfl ?_
  refine gg_iconst (pc := 355) hC dL_law_355 (x := 2) rfl ?_
  refine gg_iadd (pc := 356) hC dL_law_356 ?_
  refine gg_sld (pc := 357) hC hz dL_law_357 (zin 2 (by omega) hi hL) ?_
  refine gg_lawMI (pc := 358) hC dL_law_358 vL_40 (mX7_hit hM) (Nat.le_of_ble_eq_true rfl) (Nat.le_of_ble_eq_true rfl) (As := [.int (xs (Int32.ofNat i + 1).toNatClampNeg), .int (xs (Int32.ofNat i + 2).toNatClampNeg)]) (rest := [.int r]) rfl rfl (Nat.le_of_ble_eq_true rfl) ?_
  refine gg_prog (o' := if r = r then o else none) (if_pos rfl).symm ?_
  refine gg_icmp_eq (pc := 361) hC dL_law_361 (tgt := 1377) rfl (fun _ => ?_) (fun h => absurd rfl h)
  exact hN _ _ hR'
def ok_sweep (Rel : zS → zS → Prop) : Prop := ∀ (σ τ : zS) (a1 a2 : Int32), Rel σ τ → ∃ (r : Int32) (σ' : zS) (τ' : zS), fX6_sweep a1 a2 σ = some (r, σ') ∧ fX7_sweep a1 a2 τ = some (r, τ') ∧ Rel σ' τ'
set_option maxHeartbeats 4000000 in
set_option maxRecDepth 100000 in
theorem law_sweep {α : Type} {C : zK} {A B : Nat → Nat} {cA : Nat → ClassId} {E : α → Prop} {o : Option α} {b L i : Nat} {xs : Nat → Int32} (hC : zOK C (wL A B cA) cL_law RL 4 13 494) (hz : zScr C b L xs) (hi : i + 6 ≤ L) (hL : L ≤ 3072) {Rel : zS → zS → Prop} (hok : ok_sweep Rel) {σ τ : zS} (hR : Rel σ τ) (hN : ∀ σ τ, Rel σ τ → zG C (wL A B cA) 4 E o 1377 [(0, .ref b), (1, .ref (A 0)), (2, .ref (B 0)), (3, .int (Int32.ofNat i))] [] (σ, τ)) : zG C (wL A B cA) 4 E o 366 [(0, .ref b), (1, .ref (A 0)), (2, .ref (B 0)), (3, .int (Int32.ofNat i))] [] (σ, τ) := by
  obtain ⟨r, σ', τ', hX, hM, hR'⟩ := hok σ τ (xs (Int32.ofNat i + 1).toNatClampNeg) (xs (Int32.ofNat i + 2).toNatClampNeg) hR
  refine gg_aload_n (pc := 366) hC dL_law_366 (i := 1) rfl 1 rfl ?_
  refine gg_aload_n (pc := 367) hC dL_law_367 (i := 0) rfl 0 rfl ?_
  refine gg_iload_n (pc := 368) hC dL_law_368 (i := 3) rfl 3 rfl ?_
  refine gg_iconst (pc := 369) hC dL_law_369 (x := 1) rfl ?_
  refine gg_iadd (pc := 370) hC dL_law_370 ?_
  refine gg_sld (pc := 371) hC hz dL_law_371 (zin 1 (by omega) hi hL) ?_
  refine gg_aload_n (pc := 372) hC dL_law_372 (i := 0) rfl 0 rfl ?_
  refine gg_iload_n (pc := 373) hC dL_law_373 (i := 3) rfl 3 rfl ?_
  refine gg_iconst (pc := 374) hC dL_law_374 (x := 2) rfl ?_
  refine gg_iadd (pc := 375) hC dL_law_375 ?_
  refine gg_sld (pc := 376) hC hz dL_law_376 (zin 2 (by omega) hi hL) ?_
  refine gg_lawXI (pc := 377) hC dL_law_377 vL_41 (mX6_sweep hX) (Nat.le_of_ble_eq_true rfl) (Nat.le_of_ble_eq_true rfl) (As := [.int (xs (Int32.ofNat i + 1).toNatClampNeg), .int (xs (Int32.ofNat i + 2).toNatClampNeg)]) (rest := []) rfl rfl (Nat.le_of_ble_eq_true rfl) ?_
  refine gg_aload_n (pc := 380) hC dL_law_380 (i := 2) rfl 2 rfl ?_
  refine gg_aload_n (pc := 381) hC dL_law_381 (i := 0) rfl 0 rfl ?_
  refine gg_iload_n (pc := 382) hC dL_law_382 (i := 3) rfl 3 rfl ?_
  refine gg_iconst (pc := 383) hC dL_law_383 (x := 1) rfl ?_
  refine gg_iadd (pc := 384) hC dL_law_384 ?_
  refine gg_sld (pc := 385) hC hz dL_law_385 (zin 1 (by omega) hi hL) ?_
  refine gg_aload_n (pc := 386) hC dL_law_386 (i := 0) rfl 0 rfl ?_
  refine gg_iload_n (pc := 387) hC dL_law_387 (i := 3) rfl 3 rfl ?_
  refine gg_iconst (pc := 388) hC dL_law_388 (x := 2) rfl ?_
  refine gg_iadd (pc := 389) hC dL_law_389 ?_
  refine gg_sld (pc := 390) hC hz dL_law_390 (zin 2 (by omega) hi hL) ?_
  refine gg_lawMI (pc := 391) hC dL_law_391 vL_44 (mX7_sweep hM) (Nat.le_of_ble_eq_true rfl) (Nat.le_of_ble_eq_true rfl) (As := [.int (xs (Int32.ofNat i + 1).toNatClampNeg), .int (xs (Int32.ofNat i + 2).toNatClampNeg)]) (rest := [.int r]) rfl rfl (Nat.le_of_ble_eq_true rfl) ?_
  refine gg_prog (o' := if r = r then o else none) (if_pos rfl).symm ?_
  refine gg_icmp_eq (pc := 394) hC dL_law_394 (tgt := 1377) rfl (fun _ => ?_) (fun h => absurd rfl h)
  exact hN _ _ hR'
def ok_fresh (Rel : zS → zS → Prop) : Prop := ∀ (σ τ : zS), Rel σ τ → ∃ (r : Int32) (σ' : zS) (τ' : zS), fX6_fresh  σ = some (r, σ') ∧ fX7_fresh  τ = some (r, τ') ∧ Rel σ' τ'
set_option maxHeartbeats 4000000 in
set_option maxRecDepth 100000 in
theorem law_fresh {α : Type} {C : zK} {A B : Nat → Nat} {cA : Nat → ClassId} {E : α → Prop} {o : Option α} {b L i : Nat} {xs : Nat → Int32} (hC : zOK C (wL A B cA) cL_law RL 4 13 494) (hz : zScr C b L xs) (hi : i + 6 ≤ L) (hL : L ≤ 3072) {Rel : zS → zS → Prop} (hok : ok_fresh Rel) {σ τ : zS} (hR : Rel σ τ) (hN : ∀ σ τ, Rel σ τ → zG C (wL A B cA) 4 E o 1377 [(0, .ref b), (1, .ref (A 0)), (2, .ref (B 0)), (3, .int (Int32.ofNat i))] [] (σ, τ)) : zG C (wL A B cA) 4 E o 399 [(0, .ref b), (1, .ref (A 0)), (2, .ref (B 0)), (3, .int (Int32.ofNat i))] [] (σ, τ) := by
  obtain ⟨r, σ', τ', hX, hM, hR'⟩ := hok σ τ  hR
  refine gg_aload_n (pc := 399) hC dL_law_399 (i := 1) rfl 1 rfl ?_
  refine gg_lawXI (pc := 400) hC dL_law_400 vL_45 (mX6_fresh hX) (Nat.le_of_ble_eq_true rfl) (Nat.le_of_ble_eq_true rfl) (As := []) (rest := []) rfl rfl (Nat.le_of_ble_eq_true rfl) ?_
  refine gg_aload_n (pc := 403) hC dL_law_403 (i := 2) rfl 2 rfl ?_
  refine gg_lawMI (pc := 404) hC dL_law_404 vL_48 (mX7_fresh hM) (Nat.le_of_ble_eq_true rfl) (Nat.le_of_ble_eq_true rfl) (As := []) (rest := [.int r]) rfl rfl (Nat.le_of_ble_eq_true rfl) ?_
  refine gg_prog (o' := if r = r then o else none) (if_pos rfl).symm ?_
  refine gg_icmp_eq (pc := 407) hC dL_law_407 (tgt := 1377) rfl (fun _ => ?_) (fun h => absurd rfl h)
  exact hN _ _ hR'
def ok_bin (Rel : zS → zS → Prop) : Prop := ∀ (σ τ : zS) (a1 a2 : Int32), Rel σ τ → ∃ (r : Int32), fX6_bin a1 a2 σ = some r ∧ fX7_bin a1 a2 τ = some r ∧ Rel σ τ
set_option maxHeartbeats 4000000 in
set_option maxRecDepth 100000 in
theorem law_bin {α : Type} {C : zK} {A B : Nat → Nat} {cA : Nat → ClassId} {E : α → Prop} {o : Option α} {b L i : Nat} {xs : Nat → Int32} (hC : zOK C (wL A B cA) cL_law RL 4 13 494) (hz : zScr C b L xs) (hi : i + 6 ≤ L) (hL : L ≤ 3072) {Rel : zS → zS → Prop} (hok : ok_bin Rel) {σ τ : zS} (hR : Rel σ τ) (hN : ∀ σ τ, Rel σ τ → zG C (wL A B cA) 4 E o 1377 [(0, .ref b), (1, .ref (A 0)), (2, .ref (B 0)), (3, .int (Int32.ofNat i))] [] (σ, τ)) : zG C (wL A B cA) 4 E o 412 [(0, .ref b), (1, .ref (A 0)), (2, .ref (B 0)), (3, .int (Int32.ofNat i))] [] (σ, τ) := by
  obtain ⟨r, hX, hM, hR'⟩ := hok σ τ (xs (Int32.ofNat i + 1).toNatClampNeg) (xs (Int32.ofNat i + 2).toNatClampNeg) hR
  refine gg_aload_n (pc := 412) hC dL_law_412 (i := 1) rfl 1 rfl ?_
  refine gg_aload_n (pc := 413) hC dL_law_413 (i := 0) rfl 0 rfl ?_
  refine gg_iload_n (pc := 414) hC dL_law_414 (i := 3) rfl 3 rfl ?_
  refine gg_iconst (pc := 415) hC dL_law_415 (x := 1) rfl ?_
  refine gg_iadd (pc := 416) hC dL_law_416 ?_
  refine gg_sld (pc := 417) hC hz dL_law_417 (zin 1 (by omega) hi hL) ?_
  refine gg_aload_n (pc := 418) hC dL_law_418 (i := 0) rfl 0 rfl ?_
  refine gg_iload_n (pc := 419) hC dL_law_419 (i := 3) rfl 3 rfl ?_
  refine gg_iconst (pc := 420) hC dL_law_420 (x := 2) rfl ?_
  refine gg_iadd (pc := 421) hC dL_law_421 ?_
  refine gg_sld (pc := 422) hC hz dL_law_422 (zin 2 (by omega) hi hL) ?_
  refine gg_lawXI (pc := 423) hC dL_law_423 vL_49 (mX6_bin hX) (Nat.le_of_ble_eq_true rfl) (Nat.le_of_ble_eq_true rfl) (As := [.int (xs (Int32.ofNat i + 1).toNatClampNeg), .int (xs (Int32.ofNat i + 2).toNatClampNeg)]) (rest := []) rfl rfl (Nat.le_of_ble_eq_true rfl) ?_
  refine gg_aload_n (pc := 426) hC dL_law_426 (i := 2) rfl 2 rfl ?_
  refine gg_aload_n (pc := 427) hC dL_law_427 (i := 0) rfl 0 rfl ?_
  refine gg_iload_n (pc := 428) hC dL_law_428 (i := 3) rfl 3 rfl ?_
  refine gg_iconst (pc := 429) hC dL_law_429 (x := 1) rfl ?_
  refine gg_iadd (pc := 430) hC dL_law_430 ?_
  refine gg_sld (pc := 431) hC hz dL_law_431 (zin 1 (by omega) hi hL) ?_
  refine gg_aload_n (pc := 432) hC dL_law_432 (i := 0) rfl 0 rfl ?_
  refine gg_iload_n (pc := 433) hC dL_law_433 (i := 3) rfl 3 rfl ?_
  refine gg_iconst (pc := 434) hC dL_law_434 (x := 2) rfl ?_
  refine gg_iadd (pc := 435) hC dL_law_435 ?_
  refine gg_sld (pc := 436) hC hz dL_law_436 (zin 2 (by omega) hi hL) ?_
  refine gg_lawMI (pc := 437) hC dL_law_437 vL_52 (mX7_bin hM) (Nat.le_of_ble_eq_true rfl) (Nat.le_of_ble_eq_true rfl) (As := [.int (xs (Int32.ofNat i + 1).toNatClampNeg), .int (xs (Int32.ofNat i + 2).toNatClampNeg)]) (rest := [.int r]) rfl rfl (Nat.le_of_ble_eq_true rfl) ?_
  refine gg_prog (o' := if r = r then o else none) (if_pos rfl).symm ?_
  refine gg_icmp_eq (pc := 440) hC dL_law_440 (tgt := 1377) rfl (fun _ => ?_) (fun h => absurd rfl h)
  exact hN _ _ hR'
def ok_dense (Rel : zS → zS → Prop) : Prop := ∀ (σ τ : zS) (a1 a2 : Int32), Rel σ τ → ∃ (r : Int64), fX6_dense a1 a2 σ = some r ∧ fX7_dense a1 a2 τ = some r ∧ Rel σ τ
set_option maxHeartbeats 4000000 in
set_option maxRecDepth 100000 in
theorem law_dense {α : Type} {C : zK} {A B : Nat → Nat} {cA : Nat → ClassId} {E : α → Prop} {o : Option α} {b L i : Nat} {xs : Nat → Int32} (hC : zOK C (wL A B cA) cL_law RL 4 13 494) (hz : zScr C b L xs) (hi : i + 6 ≤ L) (hL : L ≤ 3072) {Rel : zS → zS → Prop} (hok : ok_dense Rel) {σ τ : zS} (hR : Rel σ τ) (hN : ∀ σ τ, Rel σ τ → zG C (wL A B cA) 4 E o 1377 [(0, .ref b), (1, .ref (A 0)), (2, .ref (B 0)), (3, .int (Int32.ofNat i))] [] (σ, τ)) : zG C (wL A B cA) 4 E o 445 [(0, .ref b), (1, .ref (A 0)), (2, .ref (B 0)), (3, .int (Int32.ofNat i))] [] (σ, τ) := by
  obtain ⟨r, hX, hM, hR'⟩ := hok σ τ (xs (Int32.ofNat i + 1).toNatClampNeg) (xs (Int32.ofNat i + 2).toNatClampNeg) hR
  refine gg_aload_n (pc := 445) hC dL_law_445 (i := 1) rfl 1 rfl ?_
  refine gg_aload_n (pc := 446) hC dL_law_446 (i := 0) rfl 0 rfl ?_
  refine gg_iload_n (pc := 447) hC dL_law_447 (i := 3) rfl 3 rfl ?_
  refine gg_iconst (pc := 448) hC dL_law_448 (x := 1) rfl ?_
  refine gg_iadd (pc := 449) hC dL_law_449 ?_
  refine gg_sld (pc := 450) hC hz dL_law_450 (zin 1 (by omega) hi hL) ?_
  refine gg_aload_n (pc := 451) hC dL_law_451 (i := 0) rfl 0 rfl ?_
  refine gg_iload_n (pc := 452) hC dL_law_452 (i := 3) rfl 3 rfl ?_
  refine gg_iconst (pc := 453) hC dL_law_453 (x := 2) rfl ?_
  refine gg_iadd (pc := 454) hC dL_law_454 ?_
  refine gg_sld (pc := 455) hC hz dL_law_455 (zin 2 (by omega) hi hL) ?_
  refine gg_lawXL (pc := 456) hC dL_law_456 vL_53 (mX6_dense hX) (Nat.le_of_ble_eq_true rfl) (Nat.le_of_ble_eq_true rfl) (As := [.int (xs (Int32.ofNat i + 1).toNatClampNeg), .int (xs (Int32.ofNat i + 2).toNatClampNeg)]) (rest := []) rfl rfl (Nat.le_of_ble_eq_true rfl) ?_
  refine gg_aload_n (pc := 459) hC dL_law_459 (i := 2) rfl 2 rfl ?_
  refine gg_aload_n (pc := 460) hC dL_law_460 (i := 0) rfl 0 rfl ?_
  refine gg_iload_n (pc := 461) hC dL_law_461 (i := 3) rfl 3 rfl ?_
  refine gg_iconst (pc := 462) hC dL_law_462 (x := 1) rfl ?_
  refine gg_iadd (pc := 463) hC dL_law_463 ?_
  refine gg_sld (pc := 464) hC hz dL_law_464 (zin 1 (by omega) hi hL) ?_
  refine gg_aload_n (pc := 465) hC dL_law_465 (i := 0) rfl 0 rfl ?_
  refine gg_iload_n (pc := 466) hC dL_law_466 (i := 3) rfl 3 rfl ?_
  refine gg_iconst (pc := 467) hC dL_law_467 (x := 2) rfl ?_
  refine gg_iadd (pc := 468) hC dL_law_468 ?_
  refine gg_sld (pc := 469) hC hz dL_law_469 (zin 2 (by omega) hi hL) ?_
  refine gg_lawML (pc := 470) hC dL_law_470 vL_57 (mX7_dense hM) (Nat.le_of_ble_eq_true rfl) (Nat.le_of_ble_eq_true rfl) (As := [.int (xs (Int32.ofNat i + 1).toNatClampNeg), .int (xs (Int32.ofNat i + 2).toNatClampNeg)]) (rest := [.long r]) rfl rfl (Nat.le_of_ble_eq_true rfl) ?_
  refine gg_prog (o' := if r = r then o else none) (if_pos rfl).symm ?_
  refine gg_lcmp_eq (pc := 473) hC dL_law_473 dL_law_474 (tgt := 1377) rfl (fun _ => ?_) (fun h => absurd rfl h)
  exact hN _ _ hR'
def ok_worst (Rel : zS → zS → Prop) : Prop := ∀ (σ τ : zS), Rel σ τ → ∃ (r : Int32), fX6_worst  σ = some r ∧ fX7_worst  τ = some r ∧ Rel σ τ
set_option maxHeartbeats 4000000 in
set_option maxRecDepth 100000 in
theorem law_worst {α : Type} {C : zK} {A B : Nat → Nat} {cA : Nat → ClassId} {E : α → Prop} {o : Option α} {b L i : Nat} {xs : Nat → Int32} (hC : zOK C (wL A B cA) cL_law RL 4 13 494) (hz : zScr C b L xs) (hi : i + 6 ≤ L) (hL : L ≤ 3072) {Rel : zS → zS → Prop} (hok : ok_worst Rel) {σ τ : zS} (hR : Rel σ τ) (hN : ∀ σ τ, Rel σ τ → zG C (wL A B cA) 4 E o 1377 [(0, .ref b), (1, .ref (A 0)), (2, .ref (B 0)), (3, .int (Int32.ofNat i))] [] (σ, τ)) : zG C (wL A B cA) 4 E o 479 [(0, .ref b), (1, .ref (A 0)), (2, .ref (B 0)), (3, .int (Int32.ofNat i))] [] (σ, τ) := by
  obtain ⟨r, hX, hM, hR'⟩ := hok σ τ  hR
  refine gg_aload_n (pc := 479) hC dL_law_479 (i := 1) rfl 1 rfl ?_
  refine gg_lawXI (pc := 480) hC dL_law_480 vL_58 (mX6_worst hX) (Nat.le_of_ble_eq_true rfl) (Nat.le_of_ble_eq_true rfl) (As := []) (rest := []) rfl rfl (Nat.le_of_ble_eq_true rfl) ?_
  refine gg_aload_n (pc := 483) hC dL_law_483 (i := 2) rfl 2 rfl ?_
  refine gg_lawMI (pc := 484) hC dL_law_484 vL_61 (mX7_worst hM) (Nat.le_of_ble_eq_true rfl) (Nat.le_of_ble_eq_true rfl) (As := []) (rest := [.int r]) rfl rfl (Nat.le_of_ble_eq_true rfl) ?_
  refine gg_prog (o' := if r = r then o else none) (if_pos rfl).symm ?_
  refine gg_icmp_eq (pc := 487) hC dL_law_487 (tgt := 1377) rfl (fun _ => ?_) (fun h => absurd rfl h)
  exact hN _ _ hR'
def ok_type (Rel : zS → zS → Prop) : Prop := ∀ (σ τ : zS) (a1 : Int32), Rel σ τ → ∃ (r : Int32) (σ' : zS) (τ' : zS), fX6_type a1 σ = some (r, σ') ∧ fX7_type a1 τ = some (r, τ') ∧ Rel σ' τ'
set_option maxHeartbeats 4000000 in
set_option maxRecDepth 100000 in
theorem law_type {α : Type} {C : zK} {A B : Nat → Nat} {cA : Nat → ClassId} {E : α → Prop} {o : Option α} {b L i : Nat} {xs : Nat → Int32} (hC : zOK C (wL A B cA) cL_law RL 4 13 494) (hz : zScr C b L xs) (hi : i + 6 ≤ L) (hL : L ≤ 3072) {Rel : zS → zS → Prop} (hok : ok_type Rel) {σ τ : zS} (hR : Rel σ τ) (hN : ∀ σ τ, Rel σ τ → zG C (wL A B cA) 4 E o 1377 [(0, .ref b), (1, .ref (A 0)), (2, .ref (B 0)), (3, .int (Int32.ofNat i))] [] (σ, τ)) : zG C (wL A B cA) 4 E o 492 [(0, .ref b), (1, .ref (A 0)), (2, .ref (B 0)), (3, .int (Int32.ofNat i))] [] (σ, τ) := by
  obtain ⟨r, σ', τ', hX, hM, hR'⟩ := hok σ τ (xs (Int32.ofNat i + 1).toNatClampNeg) hR
  refine gg_aload_n (pc := 492) hC dL_law_492 (i := 1) rfl 1 rfl ?_
  refine gg_aload_n (pc := 493) hC dL_law_493 (i := 0) rfl 0 rfl ?_
  refine gg_iload_n (pc := 494) hC dL_law_494 (i := 3) rfl 3 rfl ?_
  refine gg_iconst (pc := 495) hC dL_law_495 (x := 1) rfl ?_
  refine gg_iadd (pc := 496) hC dL_law_496 ?_
  refine gg_sld (pc := 497) hC hz dL_law_497 (zin 1 (by omega) hi hL) ?_
  refine gg_lawXI (pc := 498) hC dL_law_498 vL_62 (mX6_type hX) (Nat.le_of_ble_eq_true rfl) (Nat.le_of_ble_eq_true rfl) (As := [.int (xs (Int32.ofNat i + 1).toNatClampNeg)]) (rest := []) rfl rfl (Nat.le_of_ble_eq_true rfl) ?_
  refine gg_aload_n (pc := 501) hC dL_law_501 (i := 2) rfl 2 rfl ?_
  refine gg_aload_n (pc := 502) hC dL_law_502 (i := 0) rfl 0 rfl ?_
  refine gg_iload_n (pc := 503) hC dL_law_503 (i := 3) rfl 3 rfl ?_
  refine gg_iconst (pc := 504) hC dL_law_504 (x := 1) rfl ?_
  refine gg_iadd (pc := 505) hC dL_law_505 ?_
  refine gg_sld (pc := 506) hC hz dL_law_506 (zin 1 (by omega) hi hL) ?_
  refine gg_lawMI (pc := 507) hC dL_law_507 vL_65 (mX7_type hM) (Nat.le_of_ble_eq_true rfl) (Nat.le_of_ble_eq_true rfl) (As := [.int (xs (Int32.ofNat i + 1).toNatClampNeg)]) (rest := [.int r]) rfl rfl (Nat.le_of_ble_eq_true rfl) ?_
  refine gg_prog (o' := if r = r then o else none) (if_pos rfl).symm ?_
  refine gg_icmp_eq (pc := 510) hC dL_law_510 (tgt := 1377) rfl (fun _ => ?_) (fun h => absurd rfl h)
  exact hN _ _ hR'
def ok_wipe (Rel : zS → zS → Prop) : Prop := ∀ (σ τ : zS), Rel σ τ → ∃ (r : Int32) (σ' : zS) (τ' : zS), fX6_wipe  σ = some (r, σ') ∧ fX7_wipe  τ = some (r, τ') ∧ Rel σ' τ'
set_option maxHeartbeats 4000000 in
set_option maxRecDepth 100000 in
theorem law_wipe {α : Type} {C : zK} {A B : Nat → Nat} {cA : Nat → ClassId} {E : α → Prop} {o : Option α} {b L i : Nat} {xs : Nat → Int32} (hC : zOK C (wL A B cA) cL_law RL 4 13 494) (hz : zScr C b L xs) (hi : i + 6 ≤ L) (hL : L ≤ 3072) {Rel : zS → zS → Prop} (hok : ok_wipe Rel) {σ τ : zS} (hR : Rel σ τ) (hN : ∀ σ τ, Rel σ τ → zG C (wL A B cA) 4 E o 1377 [(0, .ref b), (1, .ref (A 0)), (2, .ref (B 0)), (3, .int (Int32.ofNat i))] [] (σ, τ)) : zG C (wL A B cA) 4 E o 515 [(0, .ref b), (1, .ref (A 0)), (2, .ref (B 0)), (3, .int (Int32.ofNat i))] [] (σ, τ) := by
  obtain ⟨r, σ', τ', hX, hM, hR'⟩ := hok σ τ  hR
  refine gg_aload_n (pc := 515) hC dL_law_515 (i := 1) rfl 1 rfl ?_
  refine gg_lawXI (pc := 516) hC dL_law_516 vL_66 (mX6_wipe hX) (Nat.le_of_ble_eq_true rfl) (Nat.le_of_ble_eq_true rfl) (As := []) (rest := []) rfl rfl (Nat.le_of_ble_eq_true rfl) ?_
  refine gg_aload_n (pc := 519) hC dL_law_519 (i := 2) rfl 2 rfl ?_
  refine gg_lawMI (pc := 520) hC dL_law_520 vL_69 (mX7_wipe hM) (Nat.le_of_ble_eq_true rfl) (Nat.le_of_ble_eq_true rfl) (As := []) (rest := [.int r]) rfl rfl (Nat.le_of_ble_eq_true rfl) ?_
  refine gg_prog (o' := if r = r then o else none) (if_pos rfl).symm ?_
  refine gg_icmp_eq (pc := 523) hC dL_law_523 (tgt := 1377) rfl (fun _ => ?_) (fun h => absurd rfl h)
  exact hN _ _ hR'
def ok_mode (Rel : zS → zS → Prop) : Prop := ∀ (σ τ : zS), Rel σ τ → ∃ (r : Int32), fX6_mode  σ = some r ∧ fX7_mode  τ = some r ∧ Rel σ τ
set_option maxHeartbeats 4000000 in
set_option maxRecDepth 100000 in
theorem law_mode {α : Type} {C : zK} {A B : Nat → Nat} {cA : Nat → ClassId} {E : α → Prop} {o : Option α} {b L i : Nat} {xs : Nat → Int32} (hC : zOK C (wL A B cA) cL_law RL 4 13 494) (hz : zScr C b L xs) (hi : i + 6 ≤ L) (hL : L ≤ 3072) {Rel : zS → zS → Prop} (hok : ok_mode Rel) {σ τ : zS} (hR : Rel σ τ) (hN : ∀ σ τ, Rel σ τ → zG C (wL A B cA) 4 E o 1377 [(0, .ref b), (1, .ref (A 0)), (2, .ref (B 0)), (3, .int (Int32.ofNat i))] [] (σ, τ)) : zG C (wL A B cA) 4 E o 528 [(0, .ref b), (1, .ref (A 0)), (2, .ref (B 0)), (3, .int (Int32.ofNat i))] [] (σ, τ) := by
  obtain ⟨r, hX, hM, hR'⟩ := hok σ τ  hR
  refine gg_aload_n (pc := 528) hC dL_law_528 (i := 1) rfl 1 rfl ?_
  refine gg_lawXI (pc := 529) hC dL_law_529 vL_70 (mX6_mode hX) (Nat.le_of_ble_eq_true rfl) (Nat.le_of_ble_eq_true rfl) (As := []) (rest := []) rfl rfl (Nat.le_of_ble_eq_true rfl) ?_
  refine gg_aload_n (pc := 532) hC dL_law_532 (i := 2) rfl 2 rfl ?_
  refine gg_lawMI (pc := 533) hC dL_law_533 vL_73 (mX7_mode hM) (Nat.le_of_ble_eq_true rfl) (Nat.le_of_ble_eq_true rfl) (As := []) (rest := [.int r]) rfl rfl (Nat.le_of_ble_eq_true rfl) ?_
  refine gg_prog (o' := if r = r then o else none) (if_pos rfl).symm ?_
  refine gg_icmp_eq (pc := 536) hC dL_law_536 (tgt := 1377) rfl (fun _ => ?_) (fun h => absurd rfl h)
  exact hN _ _ hR'
def ok_nominal (Rel : zS → zS → Prop) : Prop := ∀ (σ τ : zS) (a1 : Int32), Rel σ τ → ∃ (r : Int32) (σ' : zS) (τ' : zS), fX6_nominal a1 σ = some (r, σ') ∧ fX7_nominal a1 τ = some (r, τ') ∧ Rel σ' τ'
set_option maxHeartbeats 4000000 in
set_option maxRecDepth 100000 in
theorem law_nominal {α : Type} {C : zK} {A B : Nat → Nat} {cA : Nat → ClassId} {E : α → Prop} {o : Option α} {b L i : Nat} {xs : Nat → Int32} (hC : zOK C (wL A B cA) cL_law RL 4 13 494) (hz : zScr C b L xs) (hi : i + 6 ≤ L) (hL : L ≤ 3072) {Rel : zS → zS → Prop} (hok : ok_nominal Rel) {σ τ : zS} (hR : Rel σ τ) (hN : ∀ σ τ, Rel σ τ → zG C (wL A B cA) 4 E o 1377 [(0, .ref b), (1, .ref (A 0)), (2, .ref (B 0)), (3, .int (Int32.ofNat i))] [] (σ, τ)) : zG C (wL A B cA) 4 E o 541 [(0, .ref b), (1, .ref (A 0)), (2, .ref (B 0)), (3, .int (Int32.ofNat i))] [] (σ, τ) := by
  obtain ⟨r, σ', τ', hX, hM, hR'⟩ := hok σ τ (xs (Int32.ofNat i + 1).toNatClampNeg) hR
  refine gg_aload_n (pc := 541) hC dL_law_541 (i := 1) rfl 1 rfl ?_
  refine gg_aload_n (pc := 542) hC dL_law_542 (i := 0) rfl 0 rfl ?_
  refine gg_iload_n (pc := 543) hC dL_law_543 (i := 3) rfl 3 rfl ?_
  refine gg_iconst (pc := 544) hC dL_law_544 (x := 1) rfl ?_
  refine gg_iadd (pc := 545) hC dL_law_545 ?_
  refine gg_sld (pc := 546) hC hz dL_law_546 (zin 1 (by omega) hi hL) ?_
  refine gg_lawXI (pc := 547) hC dL_law_547 vL_74 (mX6_nominal hX) (Nat.le_of_ble_eq_true rfl) (Nat.le_of_ble_eq_true rfl) (As := [.int (xs (Int32.ofNat i + 1).toNatClampNeg)]) (rest := []) rfl rfl (Nat.le_of_ble_eq_true rfl) ?_
  refine gg_aload_n (pc := 550) hC dL_law_550 (i := 2) rfl 2 rfl ?_
  refine gg_aload_n (pc := 551) hC dL_law_551 (i := 0) rfl 0 rfl ?_
  refine gg_iload_n (pc := 552) hC dL_law_552 (i := 3) rfl 3 rfl ?_
  refine gg_iconst (pc := 553) hC dL_law_553 (x := 1) rfl ?_
  refine gg_iadd (pc := 554) hC dL_law_554 ?_
  refine gg_sld (pc := 555) hC hz dL_law_555 (zin 1 (by omega) hi hL) ?_
  refine gg_lawMI (pc := 556) hC dL_law_556 vL_77 (mX7_nominal hM) (Nat.le_of_ble_eq_true rfl) (Nat.le_of_ble_eq_true rfl) (As := [.int (xs (Int32.ofNat i + 1).toNatClampNeg)]) (rest := [.int r]) rfl rfl (Nat.le_of_ble_eq_true rfl) ?_
  refine gg_prog (o' := if r = r then o else none) (if_pos rfl).symm ?_
  refine gg_icmp_eq (pc := 559) hC dL_law_559 (tgt := 1377) rfl (fun _ => ?_) (fun h => absurd rfl h)
  exact hN _ _ hR'
def ok_mend (Rel : zS → zS → Prop) : Prop := ∀ (σ τ : zS) (a1 : Int32), Rel σ τ → ∃ (r : Int32) (σ' : zS) (τ' : zS), fX6_mend a1 σ = some (r, σ') ∧ fX7_mend a1 τ = some (r, τ') ∧ Rel σ' τ'
set_option maxHeartbeats 4000000 in
set_option maxRecDepth 100000 in
theorem law_mend {α : Type} {C : zK} {A B : Nat → Nat} {cA : Nat → ClassId} {E : α → Prop} {o : Option α} {b L i : Nat} {xs : Nat → Int32} (hC : zOK C (wL A B cA) cL_law RL 4 13 494) (hz : zScr C b L xs) (hi : i + 6 ≤ L) (hL : L ≤ 3072) {Rel : zS → zS → Prop} (hok : ok_mend Rel) {σ τ : zS} (hR : Rel σ τ) (hN : ∀ σ τ, Rel σ τ → zG C (wL A B cA) 4 E o 1377 [(0, .ref b), (1, .ref (A 0)), (2, .ref (B 0)), (3, .int (Int32.ofNat i))] [] (σ, τ)) : zG C (wL A B cA) 4 E o 564 [(0, .ref b), (1, .ref (A 0)), (2, .ref (B 0)), (3, .int (Int32.ofNat i))] [] (σ, τ) := by
  obtain ⟨r, σ', τ', hX, hM, hR'⟩ := hok σ τ (xs (Int32.ofNat i + 1).toNatClampNeg) hR
  refine gg_aload_n (pc := 564) hC dL_law_564 (i := 1) rfl 1 rfl ?_
  refine gg_aload_n (pc := 565) hC dL_law_565 (i := 0) rfl 0 rfl ?_
  refine gg_iload_n (pc := 566) hC dL_law_566 (i := 3) rfl 3 rfl ?_
  refine gg_iconst (pc := 567) hC dL_law_567 (x := 1) rfl ?_
  refine gg_iadd (pc := 568) hC dL_law_568 ?_
  refine gg_sld (pc := 569) hC hz dL_law_569 (zin 1 (by omega) hi hL) ?_
  refine gg_lawXI (pc := 570) hC dL_law_570 vL_78 (mX6_mend hX) (Nat.le_of_ble_eq_true rfl) (Nat.le_of_ble_eq_true rfl) (As := [.int (xs (Int32.ofNat i + 1).toNatClampNeg)]) (rest := []) rfl rfl (Nat.le_of_ble_eq_true rfl) ?_
  refine gg_aload_n (pc := 573) hC dL_law_573 (i := 2) rfl 2 rfl ?_
  refine gg_aload_n (pc := 574) hC dL_law_574 (i := 0) rfl 0 rfl ?_
  refine gg_iload_n (pc := 575) hC dL_law_575 (i := 3) rfl 3 rfl ?_
  refine gg_iconst (pc := 576) hC dL_law_576 (x := 1) rfl ?_
  refine gg_iadd (pc := 577) hC dL_law_577 ?_
  refine gg_sld (pc := 578) hC hz dL_law_578 (zin 1 (by omega) hi hL) ?_
  refine gg_lawMI (pc := 579) hC dL_law_579 vL_81 (mX7_mend hM) (Nat.le_of_ble_eq_true rfl) (Nat.le_of_ble_eq_true rfl) (As := [.int (xs (Int32.ofNat i + 1).toNatClampNeg)]) (rest := [.int r]) rfl rfl (Nat.le_of_ble_eq_true rfl) ?_
  refine gg_prog (o' := if r = r then o else none) (if_pos rfl).symm ?_
  refine gg_icmp_eq (pc := 582) hC dL_law_582 (tgt := 1377) rfl (fun _ => ?_) (fun h => absurd rfl h)
  exact hN _ _ hR'
def ok_seen (Rel : zS → zS → Prop) : Prop := ∀ (σ τ : zS) (a1 a2 : Int32), Rel σ τ → ∃ (r : Int32) (σ' : zS) (τ' : zS), fX6_seen a1 a2 σ = some (r, σ') ∧ fX7_seen a1 a2 τ = some (r, τ') ∧ Rel σ' τ'
set_option maxHeartbeats 4000000 in
set_option maxRecDepth 100000 in
theorem law_seen {α : Type} {C : zK} {A B : Nat → Nat} {cA : Nat → ClassId} {E : α → Prop} {o : Option α} {b L i : Nat} {xs : Nat → Int32} (hC : zOK C (wL A B cA) cL_law RL 4 13 494) (hz : zScr C b L xs) (hi : i + 6 ≤ L) (hL : L ≤ 3072) {Rel : zS → zS → Prop} (hok : ok_seen Rel) {σ τ : zS} (hR : Rel σ τ) (hN : ∀ σ τ, Rel σ τ → zG C (wL A B cA) 4 E o 1377 [(0, .ref b), (1, .ref (A 0)), (2, .ref (B 0)), (3, .int (Int32.ofNat i))] [] (σ, τ)) : zG C (wL A B cA) 4 E o 587 [(0, .ref b), (1, .ref (A 0)), (2, .ref (B 0)), (3, .int (Int32.ofNat i))] [] (σ, τ) := by
  obtain ⟨r, σ', τ', hX, hM, hR'⟩ := hok σ τ (xs (Int32.ofNat i + 1).toNatClampNeg) (xs (Int32.ofNat i + 2).toNatClampNeg) hR
  refine gg_aload_n (pc := 587) hC dL_law_587 (i := 1) rfl 1 rfl ?_
  refine gg_aload_n (pc := 588) hC dL_law_588 (i := 0) rfl 0 rfl ?_
  refine gg_iload_n (pc := 589) hC dL_law_589 (i := 3) rfl 3 rfl ?_
  refine gg_iconst (pc := 590) hC dL_law_590 (x := 1) rfl ?_
  refine gg_iadd (pc := 591) hC dL_law_591 ?_
  refine gg_sld (pc := 592) hC hz dL_law_592 (zin 1 (by omega) hi hL) ?_
  refine gg_aload_n (pc := 593) hC dL_law_593 (i := 0) rfl 0 rfl ?_
  refine gg_iload_n (pc := 594) hC dL_law_594 (i := 3) rfl 3 rfl ?_
  refine gg_iconst (pc := 595) hC dL_law_595 (x := 2) rfl ?_
  refine gg_iadd (pc := 596) hC dL_law_596 ?_
  refine gg_sld (pc := 597) hC hz dL_law_597 (zin 2 (by omega) hi hL) ?_
  refine gg_lawXI (pc := 598) hC dL_law_598 vL_82 (mX6_seen hX) (Nat.le_of_ble_eq_true rfl) (Nat.le_of_ble_eq_true rfl) (As := [.int (xs (Int32.ofNat i + 1).toNatClampNeg), .int (xs (Int32.ofNat i + 2).toNatClampNeg)]) (rest := []) rfl rfl (Nat.le_of_ble_eq_true rfl) ?_
  refine gg_aload_n (pc := 601) hC dL_law_601 (i := 2) rfl 2 rfl ?_
  refine gg_aload_n (pc := 602) hC dL_law_602 (i := 0) rfl 0 rfl ?_
  refine gg_iload_n (pc := 603) hC dL_law_603 (i := 3) rfl 3 rfl ?_
  refine gg_iconst (pc := 604) hC dL_law_604 (x := 1) rfl ?_
  refine gg_iadd (pc := 605) hC dL_law_605 ?_
  refine gg_sld (pc := 606) hC hz dL_law_606 (zin 1 (by omega) hi hL) ?_
  refine gg_aload_n (pc := 607) hC dL_law_607 (i := 0) rfl 0 rfl ?_
  refine gg_iload_n (pc := 608) hC dL_law_608 (i := 3) rfl 3 rfl ?_
  refine gg_iconst (pc := 609) hC dL_law_609 (x := 2) rfl ?_
  refine gg_iadd (pc := 610) hC dL_law_610 ?_
  refine gg_sld (pc := 611) hC hz dL_law_611 (zin 2 (by omega) hi hL) ?_
  refine gg_lawMI (pc := 612) hC dL_law_612 vL_85 (mX7_seen hM) (Nat.le_of_ble_eq_true rfl) (Nat.le_of_ble_eq_true rfl) (As := [.int (xs (Int32.ofNat i + 1).toNatClampNeg), .int (xs (Int32.ofNat i + 2).toNatClampNeg)]) (rest := [.int r]) rfl rfl (Nat.le_of_ble_eq_true rfl) ?_
  refine gg_prog (o' := if r = r then o else none) (if_pos rfl).symm ?_
  refine gg_icmp_eq (pc := 615) hC dL_law_615 (tgt := 1377) rfl (fun _ => ?_) (fun h => absurd rfl h)
  exact hN _ _ hR'
def ok_stamp (Rel : zS → zS → Prop) : Prop := ∀ (σ τ : zS) (a1 a2 : Int32), Rel σ τ → ∃ (r : Int64) (σ' : zS) (τ' : zS), fX6_stamp a1 a2 σ = some (r, σ') ∧ fX7_stamp a1 a2 τ = some (r, τ') ∧ Rel σ' τ'
set_option maxHeartbeats 4000000 in
set_option maxRecDepth 100000 in
theorem law_stamp {α : Type} {C : zK} {A B : Nat → Nat} {cA : Nat → ClassId} {E : α → Prop} {o : Option α} {b L i : Nat} {xs : Nat → Int32} (hC : zOK C (wL A B cA) cL_law RL 4 13 494) (hz : zScr C b L xs) (hi : i + 6 ≤ L) (hL : L ≤ 3072) {Rel : zS → zS → Prop} (hok : ok_stamp Rel) {σ τ : zS} (hR : Rel σ τ) (hN : ∀ σ τ, Rel σ τ → zG C (wL A B cA) 4 E o 1377 [(0, .ref b), (1, .ref (A 0)), (2, .ref (B 0)), (3, .int (Int32.ofNat i))] [] (σ, τ)) : zG C (wL A B cA) 4 E o 620 [(0, .ref b), (1, .ref (A 0)), (2, .ref (B 0)), (3, .int (Int32.ofNat i))] [] (σ, τ) := by
  obtain ⟨r, σ', τ', hX, hM, hR'⟩ := hok σ τ (xs (Int32.ofNat i + 1).toNatClampNeg) (xs (Int32.ofNat i + 2).toNatClampNeg) hR
  refine gg_aload_n (pc := 620) hC dL_law_620 (i := 1) rfl 1 rfl ?_
  refine gg_aload_n (pc := 621) hC dL_law_621 (i := 0) rfl 0 rfl ?_
  refine gg_iload_n (pc := 622) hC dL_law_622 (i := 3) rfl 3 rfl ?_
  refine gg_iconst (pc := 623) hC dL_law_623 (x := 1) rfl ?_
  refine gg_iadd (pc := 624) hC dL_law_624 ?_
  refine gg_sld (pc := 625) hC hz dL_law_625 (zin 1 (by omega) hi hL) ?_
  refine gg_aload_n (pc := 626) hC dL_law_626 (i := 0) rfl 0 rfl ?_
  refine gg_iload_n (pc := 627) hC dL_law_627 (i := 3) rfl 3 rfl ?_
  refine gg_iconst (pc := 628) hC dL_law_628 (x := 2) rfl ?_
  refine gg_iadd (pc := 629) hC dL_law_629 ?_
  refine gg_sld (pc := 630) hC hz dL_law_630 (zin 2 (by omega) hi hL) ?_
  refine gg_lawXL (pc := 631) hC dL_law_631 vL_86 (mX6_stamp hX) (Nat.le_of_ble_eq_true rfl) (Nat.le_of_ble_eq_true rfl) (As := [.int (xs (Int32.ofNat i + 1).toNatClampNeg), .int (xs (Int32.ofNat i + 2).toNatClampNeg)]) (rest := []) rfl rfl (Nat.le_of_ble_eq_true rfl) ?_
  refine gg_aload_n (pc := 634) hC dL_law_634 (i := 2) rfl 2 rfl ?_
  refine gg_aload_n (pc := 635) hC dL_law_635 (i := 0) rfl 0 rfl ?_
  refine gg_iload_n (pc := 636) hC dL_law_636 (i := 3) rfl 3 rfl ?_
  refine gg_iconst (pc := 637) hC dL_law_637 (x := 1) rfl ?_
  refine gg_iadd (pc := 638) hC dL_law_638 ?_
  refine gg_sld (pc := 639) hC hz dL_law_639 (zin 1 (by omega) hi hL) ?_
  refine gg_aload_n (pc := 640) hC dL_law_640 (i := 0) rfl 0 rfl ?_
  refine gg_iload_n (pc := 641) hC dL_law_641 (i := 3) rfl 3 rfl ?_
  refine gg_iconst (pc := 642) hC dL_law_642 (x := 2) rfl ?_
  refine gg_iadd (pc := 643) hC dL_law_643 ?_
  refine gg_sld (pc := 644) hC hz dL_law_644 (zin 2 (by omega) hi hL) ?_
  refine gg_lawML (pc := 645) hC dL_law_645 vL_89 (mX7_stamp hM) (Nat.le_of_ble_eq_true rfl) (Nat.le_of_ble_eq_true rfl) (As := [.int (xs (Int32.ofNat i + 1).toNatClampNeg), .int (xs (Int32.ofNat i + 2).toNatClampNeg)]) (rest := [.long r]) rfl rfl (Nat.le_of_ble_eq_true rfl) ?_
  refine gg_prog (o' := if r = r then o else none) (if_pos rfl).symm ?_
  refine gg_lcmp_eq (pc := 648) hC dL_law_648 dL_law_649 (tgt := 1377) rfl (fun _ => ?_) (fun h => absurd rfl h)
  exact hN _ _ hR'
def ok_reference (Rel : zS → zS → Prop) : Prop := ∀ (σ τ : zS) (a1 : Int32), Rel σ τ → ∃ (r : Int64) (σ' : zS) (τ' : zS), fX6_reference a1 σ = some (r, σ') ∧ fX7_reference a1 τ = some (r, τ') ∧ Rel σ' τ'
set_option maxHeartbeats 4000000 in
set_option maxRecDepth 100000 in
theorem law_reference {α : Type} {C : zK} {A B : Nat → Nat} {cA : Nat → ClassId} {E : α → Prop} {o : Option α} {b L i : Nat} {xs : Nat → Int32} (hC : zOK C (wL A B cA) cL_law RL 4 13 494) (hz : zScr C b L xs) (hi : i + 6 ≤ L) (hL : L ≤ 3072) {Rel : zS → zS → Prop} (hok : ok_reference Rel) {σ τ : zS} (hR : Rel σ τ) (hN : ∀ σ τ, Rel σ τ → zG C (wL A B cA) 4 E o 1377 [(0, .ref b), (1, .ref (A 0)), (2, .ref (B 0)), (3, .int (Int32.ofNat i))] [] (σ, τ)) : zG C (wL A B cA) 4 E o 654 [(0, .ref b), (1, .ref (A 0)), (2, .ref (B 0)), (3, .int (Int32.ofNat i))] [] (σ, τ) := by
  obtain ⟨r, σ', τ', hX, hM, hR'⟩ := hok σ τ (xs (Int32.ofNat i + 1).toNatClampNeg) hR
  refine gg_aload_n (pc := 654) hC dL_law_654 (i := 1) rfl 1 rfl ?_
  refine gg_aload_n (pc := 655) hC dL_law_655 (i := 0) rfl 0 rfl ?_
  refine gg_iload_n (pc := 656) hC dL_law_656 (i := 3) rfl 3 rfl ?_
  refine gg_iconst (pc := 657) hC dL_law_657 (x := 1) rfl ?_
  refine gg_iadd (pc := 658) hC dL_law_658 ?_
  refine gg_sld (pc := 659) hC hz dL_law_659 (zin 1 (by omega) hi hL) ?_
  refine gg_lawXL (pc := 660) hC dL_law_660 vL_90 (mX6_reference hX) (Nat.le_of_ble_eq_true rfl) (Nat.le_of_ble_eq_true rfl) (As := [.int (xs (Int32.ofNat i + 1).toNatClampNeg)]) (rest := []) rfl rfl (Nat.le_of_ble_eq_true rfl) ?_
  refine gg_aload_n (pc := 663) hC dL_law_663 (i := 2) rfl 2 rfl ?_
  refine gg_aload_n (pc := 664) hC dL_law_664 (i := 0) rfl 0 rfl ?_
  refine gg_iload_n (pc := 665) hC dL_law_665 (i := 3) rfl 3 rfl ?_
  refine gg_iconst (pc := 666) hC dL_law_666 (x := 1) rfl ?_
  refine gg_iadd (pc := 667) hC dL_law_667 ?_
  refine gg_sld (pc := 668) hC hz dL_law_668 (zin 1 (by omega) hi hL) ?_
  refine gg_lawML (pc := 669) hC dL_law_669 vL_94 (mX7_reference hM) (Nat.le_of_ble_eq_true rfl) (Nat.le_of_ble_eq_true rfl) (As := [.int (xs (Int32.ofNat i + 1).toNatClampNeg)]) (rest := [.long r]) rfl rfl (Nat.le_of_ble_eq_true rfl) ?_
  refine gg_prog (o' := if r = r then o else none) (if_pos rfl).symm ?_
  refine gg_lcmp_eq (pc := 672) hC dL_law_672 dL_law_673 (tgt := 1377) rfl (fun _ => ?_) (fun h => absurd rfl h)
  exact hN _ _ hR'
def ok_gate (Rel : zS → zS → Prop) : Prop := ∀ (σ τ : zS) (a1 a2 : Int32), Rel σ τ → ∃ (r : Int32) (σ' : zS) (τ' : zS), fX6_gate a1 a2 σ = some (r, σ') ∧ fX7_gate a1 a2 τ = some (r, τ') ∧ Rel σ' τ'
set_option maxHeartbeats 4000000 in
set_option maxRecDepth 100000 in
theorem law_gate {α : Type} {C : zK} {A B : Nat → Nat} {cA : Nat → ClassId} {E : α → Prop} {o : Option α} {b L i : Nat} {xs : Nat → Int32} (hC : zOK C (wL A B cA) cL_law RL 4 13 494) (hz : zScr C b L xs) (hi : i + 6 ≤ L) (hL : L ≤ 3072) {Rel : zS → zS → Prop} (hok : ok_gate Rel) {σ τ : zS} (hR : Rel σ τ) (hN : ∀ σ τ, Rel σ τ → zG C (wL A B cA) 4 E o 1377 [(0, .ref b), (1, .ref (A 0)), (2, .ref (B 0)), (3, .int (Int32.ofNat i))] [] (σ, τ)) : zG C (wL A B cA) 4 E o 678 [(0, .ref b), (1, .ref (A 0)), (2, .ref (B 0)), (3, .int (Int32.ofNat i))] [] (σ, τ) := by
  obtain ⟨r, σ', τ', hX, hM, hR'⟩ := hok σ τ (xs (Int32.ofNat i + 1).toNatClampNeg) (xs (Int32.ofNat i + 2).toNatClampNeg) hR
  refine gg_aload_n (pc := 678) hC dL_law_678 (i := 1) rfl 1 rfl ?_
  refine gg_aload_n (pc := 679) hC dL_law_679 (i := 0) rfl 0 rfl ?_
  refine gg_iload_n (pc := 680) hC dL_law_680 (i := 3) rfl 3 rfl ?_
  refine gg_iconst (pc := 681) hC dL_law_681 (x := 1) rfl ?_
  refine gg_iadd (pc := 682) hC dL_law_682 ?_
  refine gg_sld (pc := 683) hC hz dL_law_683 (zin 1 (by omega) hi hL) ?_
  refine gg_aload_n (pc := 684) hC dL_law_684 (i := 0) rfl 0 rfl ?_
  refine gg_iload_n (pc := 685) hC dL_law_685 (i := 3) rfl 3 rfl ?_
  refine gg_iconst (pc := 686) hC dL_law_686 (x := 2) rfl ?_
  refine gg_iadd (pc := 687) hC dL_law_687 ?_
  refine gg_sld (pc := 688) hC hz dL_law_688 (zin 2 (by omega) hi hL) ?_
  refine gg_lawXI (pc := 689) hC dL_law_689 vL_95 (mX6_gate hX) (Nat.le_of_ble_eq_true rfl) (Nat.le_of_ble_eq_true rfl) (As := [.int (xs (Int32.ofNat i + 1).toNatClampNeg), .int (xs (Int32.ofNat i + 2).toNatClampNeg)]) (rest := []) rfl rfl (Nat.le_of_ble_eq_true rfl) ?_
  refine gg_aload_n (pc := 692) hC dL_law_692 (i := 2) rfl 2 rfl ?_
  refine gg_aload_n (pc := 693) hC dL_law_693 (i := 0) rfl 0 rfl ?_
  refine gg_iload_n (pc := 694) hC dL_law_694 (i := 3) rfl 3 rfl ?_
  refine gg_iconst (pc := 695) hC dL_law_695 (x := 1) rfl ?_
  refine gg_iadd (pc := 696) hC dL_law_696 ?_
  refine gg_sld (pc := 697) hC hz dL_law_697 (zin 1 (by omega) hi hL) ?_
  refine gg_aload_n (pc := 698) hC dL_law_698 (i := 0) rfl 0 rfl ?_
  refine gg_iload_n (pc := 699) hC dL_law_699 (i := 3) rfl 3 rfl ?_
  refine gg_iconst (pc := 700) hC dL_law_700 (x := 2) rfl ?_
  refine gg_iadd (pc := 701) hC dL_law_701 ?_
  refine gg_sld (pc := 702) hC hz dL_law_702 (zin 2 (by omega) hi hL) ?_
  refine gg_lawMI (pc := 703) hC dL_law_703 vL_98 (mX7_gate hM) (Nat.le_of_ble_eq_true rfl) (Nat.le_of_ble_eq_true rfl) (As := [.int (xs (Int32.ofNat i + 1).toNatClampNeg), .int (xs (Int32.ofNat i + 2).toNatClampNeg)]) (rest := [.int r]) rfl rfl (Nat.le_of_ble_eq_true rfl) ?_
  refine gg_prog (o' := if r = r then o else none) (if_pos rfl).symm ?_
  refine gg_icmp_eq (pc := 706) hC dL_law_706 (tgt := 1377) rfl (fun _ => ?_) (fun h => absurd rfl h)
  exact hN _ _ hR'
def ok_back (Rel : zS → zS → Prop) : Prop := ∀ (σ τ : zS), Rel σ τ → ∃ (r : Int32) (σ' : zS) (τ' : zS), fX6_back  σ = some (r, σ') ∧ fX7_back  τ = some (r, τ') ∧ Rel σ' τ'
set_option maxHeartbeats 4000000 in
set_option maxRecDepth 100000 in
theorem law_back {α : Type} {C : zK} {A B : Nat → Nat} {cA : Nat → ClassId} {E : α → Prop} {o : Option α} {b L i : Nat} {xs : Nat → Int32} (hC : zOK C (wL A B cA) cL_law RL 4 13 494) (hz : zScr C b L xs) (hi : i + 6 ≤ L) (hL : L ≤ 3072) {Rel : zS → zS → Prop} (hok : ok_back Rel) {σ τ : zS} (hR : Rel σ τ) (hN : ∀ σ τ, Rel σ τ → zG C (wL A B cA) 4 E o 1377 [(0, .ref b), (1, .ref (A 0)), (2, .ref (B 0)), (3, .int (Int32.ofNat i))] [] (σ, τ)) : zG C (wL A B cA) 4 E o 711 [(0, .ref b), (1, .ref (A 0)), (2, .ref (B 0)), (3, .int (Int32.ofNat i))] [] (σ, τ) := by
  obtain ⟨r, σ', τ', hX, hM, hR'⟩ := hok σ τ  hR
  refine gg_aload_n (pc := 711) hC dL_law_711 (i := 1) rfl 1 rfl ?_
  refine gg_lawXI (pc := 712) hC dL_law_712 vL_99 (mX6_back hX) (Nat.le_of_ble_eq_true rfl) (Nat.le_of_ble_eq_true rfl) (As := []) (rest := []) rfl rfl (Nat.le_of_ble_eq_true rfl) ?_
  refine gg_aload_n (pc := 715) hC dL_law_715 (i := 2) rfl 2 rfl ?_
  refine gg_lawMI (pc := 716) hC dL_law_716 vL_102 (mX7_back hM) (Nat.le_of_ble_eq_true rfl) (Nat.le_of_ble_eq_true rfl) (As := []) (rest := [.int r]) rfl rfl (Nat.le_of_ble_eq_true rfl) ?_
  refine gg_prog (o' := if r = r then o else none) (if_pos rfl).symm ?_
  refine gg_icmp_eq (pc := 719) hC dL_law_719 (tgt := 1377) rfl (fun _ => ?_) (fun h => absurd rfl h)
  exact hN _ _ hR'
def ok_where (Rel : zS → zS → Prop) : Prop := ∀ (σ τ : zS) (a1 a2 : Int32), Rel σ τ → ∃ (r : Int32) (σ' : zS) (τ' : zS), fX6_where a1 a2 σ = some (r, σ') ∧ fX7_where a1 a2 τ = some (r, τ') ∧ Rel σ' τ'
set_option maxHeartbeats 4000000 in
set_option maxRecDepth 100000 in
theorem law_where {α : Type} {C : zK} {A B : Nat → Nat} {cA : Nat → ClassId} {E : α → Prop} {o : Option α} {b L i : Nat} {xs : Nat → Int32} (hC : zOK C (wL A B cA) cL_law RL 4 13 494) (hz : zScr C b L xs) (hi : i + 6 ≤ L) (hL : L ≤ 3072) {Rel : zS → zS → Prop} (hok : ok_where Rel) {σ τ : zS} (hR : Rel σ τ) (hN : ∀ σ τ, Rel σ τ → zG C (wL A B cA) 4 E o 1377 [(0, .ref b), (1, .ref (A 0)), (2, .ref (B 0)), (3, .int (Int32.ofNat i))] [] (σ, τ)) : zG C (wL A B cA) 4 E o 724 [(0, .ref b), (1, .ref (A 0)), (2, .ref (B 0)), (3, .int (Int32.ofNat i))] [] (σ, τ) := by
  obtain ⟨r, σ', τ', hX, hM, hR'⟩ := hok σ τ (xs (Int32.ofNat i + 1).toNatClampNeg) (xs (Int32.ofNat i + 2).toNatClampNeg) hR
  refine gg_aload_n (pc := 724) hC dL_law_724 (i := 1) rfl 1 rfl ?_
  refine gg_aload_n (pc := 725) hC dL_law_725 (i := 0) rfl 0 rfl ?_
  refine gg_iload_n (pc := 726) hC dL_law_726 (i := 3) rfl 3 rfl ?_
  refine gg_iconst (pc := 727) hC dL_law_727 (x := 1) rfl ?_
  refine gg_iadd (pc := 728) hC dL_law_728 ?_
  refine gg_sld (pc := 729) hC hz dL_law_729 (zin 1 (by omega) hi hL) ?_
  refine gg_aload_n (pc := 730) hC dL_law_730 (i := 0) rfl 0 rfl ?_
  refine gg_iload_n (pc := 731) hC dL_law_731 (i := 3) rfl 3 rfl ?_
  refine gg_iconst (pc := 732) hC dL_law_732 (x := 2) rfl ?_
  refine gg_iadd (pc := 733) hC dL_law_733 ?_
  refine gg_sld (pc := 734) hC hz dL_law_734 (zin 2 (by omega) hi hL) ?_
  refine gg_lawXI (pc := 735) hC dL_law_735 vL_103 (mX6_where hX) (Nat.le_of_ble_eq_true rfl) (Nat.le_of_ble_eq_true rfl) (As := [.int (xs (Int32.ofNat i + 1).toNatClampNeg), .int (xs (Int32.ofNat i + 2).toNatClampNeg)]) (rest := []) rfl rfl (Nat.le_of_ble_eq_true rfl) ?_
  refine gg_aload_n (pc := 738) hC dL_law_738 (i := 2) rfl 2 rfl ?_
  refine gg_aload_n (pc := 739) hC dL_law_739 (i := 0) rfl 0 rfl ?_
  refine gg_iload_n (pc := 740) hC dL_law_740 (i := 3) rfl 3 rfl ?_
  refine gg_iconst (pc := 741) hC dL_law_741 (x := 1) rfl ?_
  refine gg_iadd (pc := 742) hC dL_law_742 ?_
  refine gg_sld (pc := 743) hC hz dL_law_743 (zin 1 (by omega) hi hL) ?_
  refine gg_aload_n (pc := 744) hC dL_law_744 (i := 0) rfl 0 rfl ?_
  refine gg_iload_n (pc := 745) hC dL_law_745 (i := 3) rfl 3 rfl ?_
  refine gg_iconst (pc := 746) hC dL_law_746 (x := 2) rfl ?_
  refine gg_iadd (pc := 747) hC dL_law_747 ?_
  refine gg_sld (pc := 748) hC hz dL_law_748 (zin 2 (by omega) hi hL) ?_
  refine gg_lawMI (pc := 749) hC dL_law_749 vL_106 (mX7_where hM) (Nat.le_of_ble_eq_true rfl) (Nat.le_of_ble_eq_true rfl) (As := [.int (xs (Int32.ofNat i + 1).toNatClampNeg), .int (xs (Int32.ofNat i + 2).toNatClampNeg)]) (rest := [.int r]) rfl rfl (Nat.le_of_ble_eq_true rfl) ?_
  refine gg_prog (o' := if r = r then o else none) (if_pos rfl).symm ?_
  refine gg_icmp_eq (pc := 752) hC dL_law_752 (tgt := 1377) rfl (fun _ => ?_) (fun h => absurd rfl h)
  exact hN _ _ hR'
def ok_frequency (Rel : zS → zS → Prop) : Prop := ∀ (σ τ : zS) (a1 a2 a3 : Int32), Rel σ τ → ∃ (r : Int64) (σ' : zS) (τ' : zS), fX6_frequency a1 a2 a3 σ = some (r, σ') ∧ fX7_frequency a1 a2 a3 τ = some (r, τ') ∧ Rel σ' τ'
set_option maxHeartbeats 4000000 in
set_option maxRecDepth 100000 in
theorem law_frequency {α : Type} {C : zK} {A B : Nat → Nat} {cA : Nat → ClassId} {E : α → Prop} {o : Option α} {b L i : Nat} {xs : Nat → Int32} (hC : zOK C (wL A B cA) cL_law RL 4 13 494) (hz : zScr C b L xs) (hi : i + 6 ≤ L) (hL : L ≤ 3072) {Rel : zS → zS → Prop} (hok : ok_frequency Rel) {σ τ : zS} (hR : Rel σ τ) (hN : ∀ σ τ, Rel σ τ → zG C (wL A B cA) 4 E o 1377 [(0, .ref b), (1, .ref (A 0)), (2, .ref (B 0)), (3, .int (Int32.ofNat i))] [] (σ, τ)) : zG C (wL A B cA) 4 E o 757 [(0, .ref b), (1, .ref (A 0)), (2, .ref (B 0)), (3, .int (Int32.ofNat i))] [] (σ, τ) := by
  obtain ⟨r, σ', τ', hX, hM, hR'⟩ := hok σ τ (xs (Int32.ofNat i + 1).toNatClampNeg) (xs (Int32.ofNat i + 2).toNatClampNeg) (xs (Int32.ofNat i + 3).toNatClampNeg) hR
  refine gg_aload_n (pc := 757) hC dL_law_757 (i := 1) rfl 1 rfl ?_
  refine gg_aload_n (pc := 758) hC dL_law_758 (i := 0) rfl 0 rfl ?_
  refine gg_iload_n (pc := 759) hC dL_law_759 (i := 3) rfl 3 rfl ?_
  refine gg_iconst (pc := 760) hC dL_law_760 (x := 1) rfl ?_
  refine gg_iadd (pc := 761) hC dL_law_761 ?_
  refine gg_sld (pc := 762) hC hz dL_law_762 (zin 1 (by omega) hi hL) ?_
  refine gg_aload_n (pc := 763) hC dL_law_763 (i := 0) rfl 0 rfl ?_
  refine gg_iload_n (pc := 764) hC dL_law_764 (i := 3) rfl 3 rfl ?_
  refine gg_iconst (pc := 765) hC dL_law_765 (x := 2) rfl ?_
  refine gg_iadd (pc := 766) hC dL_law_766 ?_
  refine gg_sld (pc := 767) hC hz dL_law_767 (zin 2 (by omega) hi hL) ?_
  refine gg_aload_n (pc := 768) hC dL_law_768 (i := 0) rfl 0 rfl ?_
  refine gg_iload_n (pc := 769) hC dL_law_769 (i := 3) rfl 3 rfl ?_
  refine gg_iconst (pc := 770) hC dL_law_770 (x := 3) rfl ?_
  refine gg_iadd (pc := 771) hC dL_law_771 ?_
  refine gg_sld (pc := 772) hC hz dL_law_772 (zin 3 (by omega) hi hL) ?_
  refine gg_lawXL (pc := 773) hC dL_law_773 vL_107 (mX6_frequency hX) (Nat.le_of_ble_eq_true rfl) (Nat.le_of_ble_eq_true rfl) (As := [.int (xs (Int32.ofNat i + 1).toNatClampNeg), .int (xs (Int32.ofNat i + 2).toNatClampNeg), .int (xs (Int32.ofNat i + 3).toNatClampNeg)]) (rest := []) rfl rfl (Nat.le_of_ble_eq_true rfl) ?_
  refine gg_aload_n (pc := 776) hC dL_law_776 (i := 2) rfl 2 rfl ?_
  refine gg_aload_n (pc := 777) hC dL_law_777 (i := 0) rfl 0 rfl ?_
  refine gg_iload_n (pc := 778) hC dL_law_778 (i := 3) rfl 3 rfl ?_
  refine gg_iconst (pc := 779) hC dL_law_779 (x := 1) rfl ?_
  refine gg_iadd (pc := 780) hC dL_law_780 ?_
  refine gg_sld (pc := 781) hC hz dL_law_781 (zin 1 (by omega) hi hL) ?_
  refine gg_aload_n (pc := 782) hC dL_law_782 (i := 0) rfl 0 rfl ?_
  refine gg_iload_n (pc := 783) hC dL_law_783 (i := 3) rfl 3 rfl ?_
  refine gg_iconst (pc := 784) hC dL_law_784 (x := 2) rfl ?_
  refine gg_iadd (pc := 785) hC dL_law_785 ?_
  refine gg_sld (pc := 786) hC hz dL_law_786 (zin 2 (by omega) hi hL) ?_
  refine gg_aload_n (pc := 787) hC dL_law_787 (i := 0) rfl 0 rfl ?_
  refine gg_iload_n (pc := 788) hC dL_law_788 (i := 3) rfl 3 rfl ?_
  refine gg_iconst (pc := 789) hC dL_law_789 (x := 3) rfl ?_
  refine gg_iadd (pc := 790) hC dL_law_790 ?_
  refine gg_sld (pc := 791) hC hz dL_law_791 (zin 3 (by omega) hi hL) ?_
  refine gg_lawML (pc := 792) hC dL_law_792 vL_111 (mX7_frequency hM) (Nat.le_of_ble_eq_true rfl) (Nat.le_of_ble_eq_true rfl) (As := [.int (xs (Int32.ofNat i + 1).toNatClampNeg), .int (xs (Int32.ofNat i + 2).toNatClampNeg), .int (xs (Int32.ofNat i + 3).toNatClampNeg)]) (rest := [.long r]) rfl rfl (Nat.le_of_ble_eq_true rfl) ?_
  refine gg_prog (o' := if r = r then o else none) (if_pos rfl).symm ?_
  refine gg_lcmp_eq (pc := 795) hC dL_law_795 dL_law_796 (tgt := 1377) rfl (fun _ => ?_) (fun h => absurd rfl h)
  exact hN _ _ hR'
def ok_closing (Rel : zS → zS → Prop) : Prop := ∀ (σ τ : zS) (a1 : Int32), Rel σ τ → ∃ (r : Int32) (σ' : zS), fX6_closing a1 σ = some (r, σ') ∧ fX7_closing a1 τ = some r ∧ Rel σ' τ
set_option maxHeartbeats 4000000 in
set_option maxRecDepth 100000 in
theorem law_closing {α : Type} {C : zK} {A B : Nat → Nat} {cA : Nat → ClassId} {E : α → Prop} {o : Option α} {b L i : Nat} {xs : Nat → Int32} (hC : zOK C (wL A B cA) cL_law RL 4 13 494) (hz : zScr C b L xs) (hi : i + 6 ≤ L) (hL : L ≤ 3072) {Rel : zS → zS → Prop} (hok : ok_closing Rel) {σ τ : zS} (hR : Rel σ τ) (hN : ∀ σ τ, Rel σ τ → zG C (wL A B cA) 4 E o 1377 [(0, .ref b), (1, .ref (A 0)), (2, .ref (B 0)), (3, .int (Int32.ofNat i))] [] (σ, τ)) : zG C (wL A B cA) 4 E o 801 [(0, .ref b), (1, .ref (A 0)), (2, .ref (B 0)), (3, .int (Int32.ofNat i))] [] (σ, τ) := by
  obtain ⟨r, σ', hX, hM, hR'⟩ := hok σ τ (xs (Int32.ofNat i + 1).toNatClampNeg) hR
  refine gg_aload_n (pc := 801) hC dL_law_801 (i := 1) rfl 1 rfl ?_
  refine gg_aload_n (pc := 802) hC dL_law_802 (i := 0) rfl 0 rfl ?_
  refine gg_iload_n (pc := 803) hC dL_law_803 (i := 3) rfl 3 rfl ?_
  refine gg_iconst (pc := 804) hC dL_law_804 (x := 1) rfl ?_
  refine gg_iadd (pc := 805) hC dL_law_805 ?_
  refine gg_sld (pc := 806) hC hz dL_law_806 (zin 1 (by omega) hi hL) ?_
  refine gg_lawXI (pc := 807) hC dL_law_807 vL_112 (mX6_closing hX) (Nat.le_of_ble_eq_true rfl) (Nat.le_of_ble_eq_true rfl) (As := [.int (xs (Int32.ofNat i + 1).toNatClampNeg)]) (rest := []) rfl rfl (Nat.le_of_ble_eq_true rfl) ?_
  refine gg_aload_n (pc := 810) hC dL_law_810 (i := 2) rfl 2 rfl ?_
  refine gg_aload_n (pc := 811) hC dL_law_811 (i := 0) rfl 0 rfl ?_
  refine gg_iload_n (pc := 812) hC dL_law_812 (i := 3) rfl 3 rfl ?_
  refine gg_iconst (pc := 813) hC dL_law_813 (x := 1) rfl ?_
  refine gg_iadd (pc := 814) hC dL_law_814 ?_
  refine gg_sld (pc := 815) hC hz dL_law_815 (zin 1 (by omega) hi hL) ?_
  refine gg_lawMI (pc := 816) hC dL_law_816 vL_115 (mX7_closing hM) (Nat.le_of_ble_eq_true rfl) (Nat.le_of_ble_eq_true rfl) (As := [.int (xs (Int32.ofNat i + 1).toNatClampNeg)]) (rest := [.int r]) rfl rfl (Nat.le_of_ble_eq_true rfl) ?_
  refine gg_prog (o' := if r = r then o else none) (if_pos rfl).symm ?_
  refine gg_icmp_eq (pc := 819) hC dL_law_819 (tgt := 1377) rfl (fun _ => ?_) (fun h => absurd rfl h)
  exact hN _ _ hR'
def ok_chain (Rel : zS → zS → Prop) : Prop := ∀ (σ τ : zS) (a1 a2 a3 : Int32), Rel σ τ → ∃ (r : Int32) (σ' : zS) (τ' : zS), fX6_chain a1 a2 a3 σ = some (r, σ') ∧ fX7_chain a1 a2 a3 τ = some (r, τ') ∧ Rel σ' τ'
set_option maxHeartbeats 4000000 in
set_option maxRecDepth 100000 in
theorem law_chain {α : Type} {C : zK} {A B : Nat → Nat} {cA : Nat → ClassId} {E : α → Prop} {o : Option α} {b L i : Nat} {xs : Nat → Int32} (hC : zOK C (wL A B cA) cL_law RL 4 13 494) (hz : zScr C b L xs) (hi : i + 6 ≤ L) (hL : L ≤ 3072) {Rel : zS → zS → Prop} (hok : ok_chain Rel) {σ τ : zS} (hR : Rel σ τ) (hN : ∀ σ τ, Rel σ τ → zG C (wL A B cA) 4 E o 1377 [(0, .ref b), (1, .ref (A 0)), (2, .ref (B 0)), (3, .int (Int32.ofNat i))] [] (σ, τ)) : zG C (wL A B cA) 4 E o 824 [(0, .ref b), (1, .ref (A 0)), (2, .ref (B 0)), (3, .int (Int32.ofNat i))] [] (σ, τ) := by
  obtain ⟨r, σ', τ', hX, hM, hR'⟩ := hok σ τ (xs (Int32.ofNat i + 1).toNatClampNeg) (xs (Int32.ofNat i + 2).toNatClampNeg) (xs (Int32.ofNat i + 3).toNatClampNeg) hR
  refine gg_aload_n (pc := 824) hC dL_law_824 (i := 1) rfl 1 rfl ?_
  refine gg_aload_n (pc := 825) hC dL_law_825 (i := 0) rfl 0 rfl ?_
  refine gg_iload_n (pc := 826) hC dL_law_826 (i := 3) rfl 3 rfl ?_
  refine gg_iconst (pc := 827) hC dL_law_827 (x := 1) rfl ?_
  refine gg_iadd (pc := 828) hC dL_law_828 ?_
  refine gg_sld (pc := 829) hC hz dL_law_829 (zin 1 (by omega) hi hL) ?_
  refine gg_aload_n (pc := 830) hC dL_law_830 (i := 0) rfl 0 rfl ?_
  refine gg_iload_n (pc := 831) hC dL_law_831 (i := 3) rfl 3 rfl ?_
  refine gg_iconst (pc := 832) hC dL_law_832 (x := 2) rfl ?_
  refine gg_iadd (pc := 833) hC dL_law_833 ?_
  refine gg_sld (pc := 834) hC hz dL_law_834 (zin 2 (by omega) hi hL) ?_
  refine gg_aload_n (pc := 835) hC dL_law_835 (i := 0) rfl 0 rfl ?_
  refine gg_iload_n (pc := 836) hC dL_law_836 (i := 3) rfl 3 rfl ?_
  refine gg_iconst (pc := 837) hC dL_law_837 (x := 3) rfl ?_
  refine gg_iadd (pc := 838) hC dL_law_838 ?_
  refine gg_sld (pc := 839) hC hz dL_law_839 (zin 3 (by omega) hi hL) ?_
  refine gg_lawXI (pc := 840) hC dL_law_840 vL_116 (mX6_chain hX) (Nat.le_of_ble_eq_true rfl) (Nat.le_of_ble_eq_true rfl) (As := [.int (xs (Int32.ofNat i + 1).toNatClampNeg), .int (xs (Int32.ofNat i + 2).toNatClampNeg), .int (xs (Int32.ofNat i + 3).toNatClampNeg)]) (rest := []) rfl rfl (Nat.le_of_ble_eq_true rfl) ?_
  refine gg_aload_n (pc := 843) hC dL_law_843 (i := 2) rfl 2 rfl ?_
  refine gg_aload_n (pc := 844) hC dL_law_844 (i := 0) rfl 0 rfl ?_
  refine gg_iload_n (pc := 845) hC dL_law_845 (i := 3) rfl 3 rfl ?_
  refine gg_iconst (pc := 846) hC dL_law_846 (x := 1) rfl ?_
  refine gg_iadd (pc := 847) hC dL_law_847 ?_
  refine gg_sld (pc := 848) hC hz dL_law_848 (zin 1 (by omega) hi hL) ?_
  refine gg_aload_n (pc := 849) hC dL_law_849 (i := 0) rfl 0 rfl ?_
  refine gg_iload_n (pc := 850) hC dL_law_850 (i := 3) rfl 3 rfl ?_
  refine gg_iconst (pc := 851) hC dL_law_851 (x := 2) rfl ?_
  refine gg_iadd (pc := 852) hC dL_law_852 ?_
  refine gg_sld (pc := 853) hC hz dL_law_853 (zin 2 (by omega) hi hL) ?_
  refine gg_aload_n (pc := 854) hC dL_law_854 (i := 0) rfl 0 rfl ?_
  refine gg_iload_n (pc := 855) hC dL_law_855 (i := 3) rfl 3 rfl ?_
  refine gg_iconst (pc := 856) hC dL_law_856 (x := 3) rfl ?_
  refine gg_iadd (pc := 857) hC dL_law_857 ?_
  refine gg_sld (pc := 858) hC hz dL_law_858 (zin 3 (by omega) hi hL) ?_
  refine gg_lawMI (pc := 859) hC dL_law_859 vL_119 (mX7_chain hM) (Nat.le_of_ble_eq_true rfl) (Nat.le_of_ble_eq_true rfl) (As := [.int (xs (Int32.ofNat i + 1).toNatClampNeg), .int (xs (Int32.ofNat i + 2).toNatClampNeg), .int (xs (Int32.ofNat i + 3).toNatClampNeg)]) (rest := [.int r]) rfl rfl (Nat.le_of_ble_eq_true rfl) ?_
  refine gg_prog (o' := if r = r then o else none) (if_pos rfl).symm ?_
  refine gg_icmp_eq (pc := 862) hC dL_law_862 (tgt := 1377) rfl (fun _ => ?_) (fun h => absurd rfl h)
  exact hN _ _ hR'
def ok_fit (Rel : zS → zS → Prop) : Prop := ∀ (σ τ : zS) (a1 a2 a3 : Int32), Rel σ τ → ∃ (r : Int64) (σ' : zS) (τ' : zS), fX6_fit a1 a2 a3 σ = some (r, σ') ∧ fX7_fit a1 a2 a3 τ = some (r, τ') ∧ Rel σ' τ'
set_option maxHeartbeats 4000000 in
set_option maxRecDepth 100000 in
theorem law_fit {α : Type} {C : zK} {A B : Nat → Nat} {cA : Nat → ClassId} {E : α → Prop} {o : Option α} {b L i : Nat} {xs : Nat → Int32} (hC : zOK C (wL A B cA) cL_law RL 4 13 494) (hz : zScr C b L xs) (hi : i + 6 ≤ L) (hL : L ≤ 3072) {Rel : zS → zS → Prop} (hok : ok_fit Rel) {σ τ : zS} (hR : Rel σ τ) (hN : ∀ σ τ, Rel σ τ → zG C (wL A B cA) 4 E o 1377 [(0, .ref b), (1, .ref (A 0)), (2, .ref (B 0)), (3, .int (Int32.ofNat i))] [] (σ, τ)) : zG C (wL A B cA) 4 E o 867 [(0, .ref b), (1, .ref (A 0)), (2, .ref (B 0)), (3, .int (Int32.ofNat i))] [] (σ, τ) := by
  obtain ⟨r, σ', τ', hX, hM, hR'⟩ := hok σ τ (xs (Int32.ofNat i + 1).toNatClampNeg) (xs (Int32.ofNat i + 2).toNatClampNeg) (xs (Int32.ofNat i + 3).toNatClampNeg) hR
  refine gg_aload_n (pc := 867) hC dL_law_867 (i := 1) rfl 1 rfl ?_
  refine gg_aload_n (pc := 868) hC dL_law_868 (i := 0) rfl 0 rfl ?_
  refine gg_iload_n (pc := 869) hC dL_law_869 (i := 3) rfl 3 rfl ?_
  refine gg_iconst (pc := 870) hC dL_law_870 (x := 1) rfl ?_
  refine gg_iadd (pc := 871) hC dL_law_871 ?_
  refine gg_sld (pc := 872) hC hz dL_law_872 (zin 1 (by omega) hi hL) ?_
  refine gg_aload_n (pc := 873) hC dL_law_873 (i := 0) rfl 0 rfl ?_
  refine gg_iload_n (pc := 874) hC dL_law_874 (i := 3) rfl 3 rfl ?_
  refine gg_iconst (pc := 875) hC dL_law_875 (x := 2) rfl ?_
  refine gg_iadd (pc := 876) hC dL_law_876 ?_
  refine gg_sld (pc := 877) hC hz dL_law_877 (zin 2 (by omega) hi hL) ?_
  refine gg_aload_n (pc := 878) hC dL_law_878 (i := 0) rfl 0 rfl ?_
  refine gg_iload_n (pc := 879) hC dL_law_879 (i := 3) rfl 3 rfl ?_
  refine gg_iconst (pc := 880) hC dL_law_880 (x := 3) rfl ?_
  refine gg_iadd (pc := 881) hC dL_law_881 ?_
  refine gg_sld (pc := 882) hC hz dL_law_882 (zin 3 (by omega) hi hL) ?_
  refine gg_lawXL (pc := 883) hC dL_law_883 vL_120 (mX6_fit hX) (Nat.le_of_ble_eq_true rfl) (Nat.le_of_ble_eq_true rfl) (As := [.int (xs (Int32.ofNat i + 1).toNatClampNeg), .int (xs (Int32.ofNat i + 2).toNatClampNeg), .int (xs (Int32.ofNat i + 3).toNatClampNeg)]) (rest := []) rfl rfl (Nat.le_of_ble_eq_true rfl) ?_
  refine gg_aload_n (pc := 886) hC dL_law_886 (i := 2) rfl 2 rfl ?_
  refine gg_aload_n (pc := 887) hC dL_law_887 (i := 0) rfl 0 rfl ?_
  refine gg_iload_n (pc := 888) hC dL_law_888 (i := 3) rfl 3 rfl ?_
  refine gg_iconst (pc := 889) hC dL_law_889 (x := 1) rfl ?_
  refine gg_iadd (pc := 890) hC dL_law_890 ?_
  refine gg_sld (pc := 891) hC hz dL_law_891 (zin 1 (by omega) hi hL) ?_
  refine gg_aload_n (pc := 892) hC dL_law_892 (i := 0) rfl 0 rfl ?_
  refine gg_iload_n (pc := 893) hC dL_law_893 (i := 3) rfl 3 rfl ?_
  refine gg_iconst (pc := 894) hC dL_law_894 (x := 2) rfl ?_
  refine gg_iadd (pc := 895) hC dL_law_895 ?_
  refine gg_sld (pc := 896) hC hz dL_law_896 (zin 2 (by omega) hi hL) ?_
  refine gg_aload_n (pc := 897) hC dL_law_897 (i := 0) rfl 0 rfl ?_
  refine gg_iload_n (pc := 898) hC dL_law_898 (i := 3) rfl 3 rfl ?_
  refine gg_iconst (pc := 899) hC dL_law_899 (x := 3) rfl ?_
  refine gg_iadd (pc := 900) hC dL_law_900 ?_
  refine gg_sld (pc := 901) hC hz dL_law_901 (zin 3 (by omega) hi hL) ?_
  refine gg_lawML (pc := 902) hC dL_law_902 vL_123 (mX7_fit hM) (Nat.le_of_ble_eq_true rfl) (Nat.le_of_ble_eq_true rfl) (As := [.int (xs (Int32.ofNat i + 1).toNatClampNeg), .int (xs (Int32.ofNat i + 2).toNatClampNeg), .int (xs (Int32.ofNat i + 3).toNatClampNeg)]) (rest := [.long r]) rfl rfl (Nat.le_of_ble_eq_true rfl) ?_
  refine gg_prog (o' := if r = r then o else none) (if_pos rfl).symm ?_
  refine gg_lcmp_eq (pc := 905) hC dL_law_905 dL_law_906 (tgt := 1377) rfl (fun _ => ?_) (fun h => absurd rfl h)
  exact hN _ _ hR'
def ok_off (Rel : zS → zS → Prop) : Prop := ∀ (σ τ : zS) (a1 a2 : Int32), Rel σ τ → ∃ (r : Int32) (σ' : zS) (τ' : zS), fX6_off a1 a2 σ = some (r, σ') ∧ fX7_off a1 a2 τ = some (r, τ') ∧ Rel σ' τ'
set_option maxHeartbeats 4000000 in
set_option maxRecDepth 100000 in
theorem law_off {α : Type} {C : zK} {A B : Nat → Nat} {cA : Nat → ClassId} {E : α → Prop} {o : Option α} {b L i : Nat} {xs : Nat → Int32} (hC : zOK C (wL A B cA) cL_law RL 4 13 494) (hz : zScr C b L xs) (hi : i + 6 ≤ L) (hL : L ≤ 3072) {Rel : zS → zS → Prop} (hok : ok_off Rel) {σ τ : zS} (hR : Rel σ τ) (hN : ∀ σ τ, Rel σ τ → zG C (wL A B cA) 4 E o 1377 [(0, .ref b), (1, .ref (A 0)), (2, .ref (B 0)), (3, .int (Int32.ofNat i))] [] (σ, τ)) : zG C (wL A B cA) 4 E o 911 [(0, .ref b), (1, .ref (A 0)), (2, .ref (B 0)), (3, .int (Int32.ofNat i))] [] (σ, τ) := by
  obtain ⟨r, σ', τ', hX, hM, hR'⟩ := hok σ τ (xs (Int32.ofNat i + 1).toNatClampNeg) (xs (Int32.ofNat i + 2).toNatClampNeg) hR
  refine gg_aload_n (pc := 911) hC dL_law_911 (i := 1) rfl 1 rfl ?_
  refine gg_aload_n (pc := 912) hC dL_law_912 (i := 0) rfl 0 rfl ?_
  refine gg_iload_n (pc := 913) hC dL_law_913 (i := 3) rfl 3 rfl ?_
  refine gg_iconst (pc := 914) hC dL_law_914 (x := 1) rfl ?_
  refine gg_iadd (pc := 915) hC dL_law_915 ?_
  refine gg_sld (pc := 916) hC hz dL_law_916 (zin 1 (by omega) hi hL) ?_
  refine gg_aload_n (pc := 917) hC dL_law_917 (i := 0) rfl 0 rfl ?_
  refine gg_iload_n (pc := 918) hC dL_law_918 (i := 3) rfl 3 rfl ?_
  refine gg_iconst (pc := 919) hC dL_law_919 (x := 2) rfl ?_
  refine gg_iadd (pc := 920) hC dL_law_920 ?_
  refine gg_sld (pc := 921) hC hz dL_law_921 (zin 2 (by omega) hi hL) ?_
  refine gg_lawXI (pc := 922) hC dL_law_922 vL_124 (mX6_off hX) (Nat.le_of_ble_eq_true rfl) (Nat.le_of_ble_eq_true rfl) (As := [.int (xs (Int32.ofNat i + 1).toNatClampNeg), .int (xs (Int32.ofNat i + 2).toNatClampNeg)]) (rest := []) rfl rfl (Nat.le_of_ble_eq_true rfl) ?_
  refine gg_aload_n (pc := 925) hC dL_law_925 (i := 2) rfl 2 rfl ?_
  refine gg_aload_n (pc := 926) hC dL_law_926 (i := 0) rfl 0 rfl ?_
  refine gg_iload_n (pc := 927) hC dL_law_927 (i := 3) rfl 3 rfl ?_
  refine gg_iconst (pc := 928) hC dL_law_928 (x := 1) rfl ?_
  refine gg_iadd (pc := 929) hC dL_law_929 ?_
  refine gg_sld (pc := 930) hC hz dL_law_930 (zin 1 (by omega) hi hL) ?_
  refine gg_aload_n (pc := 931) hC dL_law_931 (i := 0) rfl 0 rfl ?_
  refine gg_iload_n (pc := 932) hC dL_law_932 (i := 3) rfl 3 rfl ?_
  refine gg_iconst (pc := 933) hC dL_law_933 (x := 2) rfl ?_
  refine gg_iadd (pc := 934) hC dL_law_934 ?_
  refine gg_sld (pc := 935) hC hz dL_law_935 (zin 2 (by omega) hi hL) ?_
  refine gg_lawMI (pc := 936) hC dL_law_936 vL_127 (mX7_off hM) (Nat.le_of_ble_eq_true rfl) (Nat.le_of_ble_eq_true rfl) (As := [.int (xs (Int32.ofNat i + 1).toNatClampNeg), .int (xs (Int32.ofNat i + 2).toNatClampNeg)]) (rest := [.int r]) rfl rfl (Nat.le_of_ble_eq_true rfl) ?_
  refine gg_prog (o' := if r = r then o else none) (if_pos rfl).symm ?_
  refine gg_icmp_eq (pc := 939) hC dL_law_939 (tgt := 1377) rfl (fun _ => ?_) (fun h => absurd rfl h)
  exact hN _ _ hR'
def ok_gain (Rel : zS → zS → Prop) : Prop := ∀ (σ τ : zS) (a1 a2 : Int32), Rel σ τ → ∃ (r : Int64), fX6_gain a1 a2 σ = some r ∧ fX7_gain a1 a2 τ = some r ∧ Rel σ τ
set_option maxHeartbeats 4000000 in
set_option maxRecDepth 100000 in
theorem law_gain {α : Type} {C : zK} {A B : Nat → Nat} {cA : Nat → ClassId} {E : α → Prop} {o : Option α} {b L i : Nat} {xs : Nat → Int32} (hC : zOK C (wL A B cA) cL_law RL 4 13 494) (hz : zScr C b L xs) (hi : i + 6 ≤ L) (hL : L ≤ 3072) {Rel : zS → zS → Prop} (hok : ok_gain Rel) {σ τ : zS} (hR : Rel σ τ) (hN : ∀ σ τ, Rel σ τ → zG C (wL A B cA) 4 E o 1377 [(0, .ref b), (1, .ref (A 0)), (2, .ref (B 0)), (3, .int (Int32.ofNat i))] [] (σ, τ)) : zG C (wL A B cA) 4 E o 944 [(0, .ref b), (1, .ref (A 0)), (2, .ref (B 0)), (3, .int (Int32.ofNat i))] [] (σ, τ) := by
  obtain ⟨r, hX, hM, hR'⟩ := hok σ τ (xs (Int32.ofNat i + 1).toNatClampNeg) (xs (Int32.ofNat i + 2).toNatClampNeg) hR
  refine gg_aload_n (pc := 944) hC dL_law_944 (i := 1) rfl 1 rfl ?_
  refine gg_aload_n (pc := 945) hC dL_law_945 (i := 0) rfl 0 rfl ?_
  refine gg_iload_n (pc := 946) hC dL_law_946 (i := 3) rfl 3 rfl ?_
  refine gg_iconst (pc := 947) hC dL_law_947 (x := 1) rfl ?_
  refine gg_iadd (pc := 948) hC dL_law_948 ?_
  refine gg_sld (pc := 949) hC hz dL_law_949 (zin 1 (by omega) hi hL) ?_
  refine gg_aload_n (pc := 950) hC dL_law_950 (i := 0) rfl 0 rfl ?_
  refine gg_iload_n (pc := 951) hC dL_law_951 (i := 3) rfl 3 rfl ?_
  refine gg_iconst (pc := 952) hC dL_law_952 (x := 2) rfl ?_
  refine gg_iadd (pc := 953) hC dL_law_953 ?_
  refine gg_sld (pc := 954) hC hz dL_law_954 (zin 2 (by omega) hi hL) ?_
  refine gg_lawXL (pc := 955) hC dL_law_955 vL_128 (mX6_gain hX) (Nat.le_of_ble_eq_true rfl) (Nat.le_of_ble_eq_true rfl) (As := [.int (xs (Int32.ofNat i + 1).toNatClampNeg), .int (xs (Int32.ofNat i + 2).toNatClampNeg)]) (rest := []) rfl rfl (Nat.le_of_ble_eq_true rfl) ?_
  refine gg_aload_n (pc := 958) hC dL_law_958 (i := 2) rfl 2 rfl ?_
  refine gg_aload_n (pc := 959) hC dL_law_959 (i := 0) rfl 0 rfl ?_
  refine gg_iload_n (pc := 960) hC dL_law_960 (i := 3) rfl 3 rfl ?_
  refine gg_iconst (pc := 961) hC dL_law_961 (x := 1) rfl ?_
  refine gg_iadd (pc := 962) hC dL_law_962 ?_
  refine gg_sld (pc := 963) hC hz dL_law_963 (zin 1 (by omega) hi hL) ?_
  refine gg_aload_n (pc := 964) hC dL_law_964 (i := 0) rfl 0 rfl ?_
  refine gg_iload_n (pc := 965) hC dL_law_965 (i := 3) rfl 3 rfl ?_
  refine gg_iconst (pc := 966) hC dL_law_966 (x := 2) rfl ?_
  refine gg_iadd (pc := 967) hC dL_law_967 ?_
  refine gg_sld (pc := 968) hC hz dL_law_968 (zin 2 (by omega) hi hL) ?_
  refine gg_lawML (pc := 969) hC dL_law_969 vL_131 (mX7_gain hM) (Nat.le_of_ble_eq_true rfl) (Nat.le_of_ble_eq_true rfl) (As := [.int (xs (Int32.ofNat i + 1).toNatClampNeg), .int (xs (Int32.ofNat i + 2).toNatClampNeg)]) (rest := [.long r]) rfl rfl (Nat.le_of_ble_eq_true rfl) ?_
  refine gg_prog (o' := if r = r then o else none) (if_pos rfl).symm ?_
  refine gg_lcmp_eq (pc := 972) hC dL_law_972 dL_law_973 (tgt := 1377) rfl (fun _ => ?_) (fun h => absurd rfl h)
  exact hN _ _ hR'
def ok_variance (Rel : zS → zS → Prop) : Prop := ∀ (σ τ : zS) (a1 a2 : Int32), Rel σ τ → ∃ (r : Int64) (σ' : zS) (τ' : zS), fX6_variance a1 a2 σ = some (r, σ') ∧ fX7_variance a1 a2 τ = some (r, τ') ∧ Rel σ' τ'
set_option maxHeartbeats 4000000 in
set_option maxRecDepth 100000 in
theorem law_variance {α : Type} {C : zK} {A B : Nat → Nat} {cA : Nat → ClassId} {E : α → Prop} {o : Option α} {b L i : Nat} {xs : Nat → Int32} (hC : zOK C (wL A B cA) cL_law RL 4 13 494) (hz : zScr C b L xs) (hi : i + 6 ≤ L) (hL : L ≤ 3072) {Rel : zS → zS → Prop} (hok : ok_variance Rel) {σ τ : zS} (hR : Rel σ τ) (hN : ∀ σ τ, Rel σ τ → zG C (wL A B cA) 4 E o 1377 [(0, .ref b), (1, .ref (A 0)), (2, .ref (B 0)), (3, .int (Int32.ofNat i))] [] (σ, τ)) : zG C (wL A B cA) 4 E o 978 [(0, .ref b), (1, .ref (A 0)), (2, .ref (B 0)), (3, .int (Int32.ofNat i))] [] (σ, τ) := by
  obtain ⟨r, σ', τ', hX, hM, hR'⟩ := hok σ τ (xs (Int32.ofNat i + 1).toNatClampNeg) (xs (Int32.ofNat i + 2).toNatClampNeg) hR
  refine gg_aload_n (pc := 978) hC dL_law_978 (i := 1) rfl 1 rfl ?_
  refine gg_aload_n (pc := 979) hC dL_law_979 (i := 0) rfl 0 rfl ?_
  refine gg_iload_n (pc := 980) hC dL_law_980 (i := 3) rfl 3 rfl ?_
  refine gg_iconst (pc := 981) hC dL_law_981 (x := 1) rfl ?_
  refine gg_iadd (pc := 982) hC dL_law_982 ?_
  refine gg_sld (pc := 983) hC hz dL_law_983 (zin 1 (by omega) hi hL) ?_
  refine gg_aload_n (pc := 984) hC dL_law_984 (i := 0) rfl 0 rfl ?_
  refine gg_iload_n (pc := 985) hC dL_law_985 (i := 3) rfl 3 rfl ?_
  refine gg_iconst (pc := 986) hC dL_law_986 (x := 2) rfl ?_
  refine gg_iadd (pc := 987) hC dL_law_987 ?_
  refine gg_sld (pc := 988) hC hz dL_law_988 (zin 2 (by omega) hi hL) ?_
  refine gg_lawXL (pc := 989) hC dL_law_989 vL_132 (mX6_variance hX) (Nat.le_of_ble_eq_true rfl) (Nat.le_of_ble_eq_true rfl) (As := [.int (xs (Int32.ofNat i + 1).toNatClampNeg), .int (xs (Int32.ofNat i + 2).toNatClampNeg)]) (rest := []) rfl rfl (Nat.le_of_ble_eq_true rfl) ?_
  refine gg_aload_n (pc := 992) hC dL_law_992 (i := 2) rfl 2 rfl ?_
  refine gg_aload_n (pc := 993) hC dL_law_993 (i := 0) rfl 0 rfl ?_
  refine gg_iload_n (pc := 994) hC dL_law_994 (i := 3) rfl 3 rfl ?_
  refine gg_iconst (pc := 995) hC dL_law_995 (x := 1) rfl ?_
  refine gg_iadd (pc := 996) hC dL_law_996 ?_
  refine gg_sld (pc := 997) hC hz dL_law_997 (zin 1 (by omega) hi hL) ?_
  refine gg_aload_n (pc := 998) hC dL_law_998 (i := 0) rfl 0 rfl ?_
  refine gg_iload_n (pc := 999) hC dL_law_999 (i := 3) rfl 3 rfl ?_
  refine gg_iconst (pc := 1000) hC dL_law_1000 (x := 2) rfl ?_
  refine gg_iadd (pc := 1001) hC dL_law_1001 ?_
  refine gg_sld (pc := 1002) hC hz dL_law_1002 (zin 2 (by omega) hi hL) ?_
  refine gg_lawML (pc := 1003) hC dL_law_1003 vL_135 (mX7_variance hM) (Nat.le_of_ble_eq_true rfl) (Nat.le_of_ble_eq_true rfl) (As := [.int (xs (Int32.ofNat i + 1).toNatClampNeg), .int (xs (Int32.ofNat i + 2).toNatClampNeg)]) (rest := [.long r]) rfl rfl (Nat.le_of_ble_eq_true rfl) ?_
  refine gg_prog (o' := if r = r then o else none) (if_pos rfl).symm ?_
  refine gg_lcmp_eq (pc := 1006) hC dL_law_1006 dL_law_1007 (tgt := 1377) rfl (fun _ => ?_) (fun h => absurd rfl h)
  exact hN _ _ hR'
def ok_rank (Rel : zS → zS → Prop) : Prop := ∀ (σ τ : zS) (a1 : Int32), Rel σ τ → ∃ (r : Int32) (σ' : zS) (τ' : zS), fX6_rank a1 σ = some (r, σ') ∧ fX7_rank a1 τ = some (r, τ') ∧ Rel σ' τ'
set_option maxHeartbeats 4000000 in
set_option maxRecDepth 100000 in
theorem law_rank {α : Type} {C : zK} {A B : Nat → Nat} {cA : Nat → ClassId} {E : α → Prop} {o : Option α} {b L i : Nat} {xs : Nat → Int32} (hC : zOK C (wL A B cA) cL_law RL 4 13 494) (hz : zScr C b L xs) (hi : i + 6 ≤ L) (hL : L ≤ 3072) {Rel : zS → zS → Prop} (hok : ok_rank Rel) {σ τ : zS} (hR : Rel σ τ) (hN : ∀ σ τ, Rel σ τ → zG C (wL A B cA) 4 E o 1377 [(0, .ref b), (1, .ref (A 0)), (2, .ref (B 0)), (3, .int (Int32.ofNat i))] [] (σ, τ)) : zG C (wL A B cA) 4 E o 1012 [(0, .ref b), (1, .ref (A 0)), (2, .ref (B 0)), (3, .int (Int32.ofNat i))] [] (σ, τ) := by
  obtain ⟨r, σ', τ', hX, hM, hR'⟩ := hok σ τ (xs (Int32.ofNat i + 1).toNatClampNeg) hR
  refine gg_aload_n (pc := 1012) hC dL_law_1012 (i := 1) rfl 1 rfl ?_
  refine gg_aload_n (pc := 1013) hC dL_law_1013 (i := 0) rfl 0 rfl ?_
  refine gg_iload_n (pc := 1014) hC dL_law_1014 (i := 3) rfl 3 rfl ?_
  refine gg_iconst (pc := 1015) hC dL_law_1015 (x := 1) rfl ?_
  refine gg_iadd (pc := 1016) hC dL_law_1016 ?_
  refine gg_sld (pc := 1017) hC hz dL_law_1017 (zin 1 (by omega) hi hL) ?_
  refine gg_lawXI (pc := 1018) hC dL_law_1018 vL_136 (mX6_rank hX) (Nat.le_of_ble_eq_true rfl) (Nat.le_of_ble_eq_true rfl) (As := [.int (xs (Int32.ofNat i + 1).toNatClampNeg)]) (rest := []) rfl rfl (Nat.le_of_ble_eq_true rfl) ?_
  refine gg_aload_n (pc := 1021) hC dL_law_1021 (i := 2) rfl 2 rfl ?_
  refine gg_aload_n (pc := 1022) hC dL_law_1022 (i := 0) rfl 0 rfl ?_
  refine gg_iload_n (pc := 1023) hC dL_law_1023 (i := 3) rfl 3 rfl ?_
  refine gg_iconst (pc := 1024) hC dL_law_1024 (x := 1) rfl ?_
  refine gg_iadd (pc := 1025) hC dL_law_1025 ?_
  refine gg_sld (pc := 1026) hC hz dL_law_1026 (zin 1 (by omega) hi hL) ?_
  refine gg_lawMI (pc := 1027) hC dL_law_1027 vL_139 (mX7_rank hM) (Nat.le_of_ble_eq_true rfl) (Nat.le_of_ble_eq_true rfl) (As := [.int (xs (Int32.ofNat i + 1).toNatClampNeg)]) (rest := [.int r]) rfl rfl (Nat.le_of_ble_eq_true rfl) ?_
  refine gg_prog (o' := if r = r then o else none) (if_pos rfl).symm ?_
  refine gg_icmp_eq (pc := 1030) hC dL_law_1030 (tgt := 1377) rfl (fun _ => ?_) (fun h => absurd rfl h)
  exact hN _ _ hR'
def ok_sheet (Rel : zS → zS → Prop) : Prop := ∀ (σ τ : zS) (a1 a2 a3 : Int32), Rel σ τ → ∃ (r : Int32) (σ' : zS) (τ' : zS), fX6_sheet a1 a2 a3 σ = some (r, σ') ∧ fX7_sheet a1 a2 a3 τ = some (r, τ') ∧ Rel σ' τ'
set_option maxHeartbeats 4000000 in
set_option maxRecDepth 100000 in
theorem law_sheet {α : Type} {C : zK} {A B : Nat → Nat} {cA : Nat → ClassId} {E : α → Prop} {o : Option α} {b L i : Nat} {xs : Nat → Int32} (hC : zOK C (wL A B cA) cL_law RL 4 13 494) (hz : zScr C b L xs) (hi : i + 6 ≤ L) (hL : L ≤ 3072) {Rel : zS → zS → Prop} (hok : ok_sheet Rel) {σ τ : zS} (hR : Rel σ τ) (hN : ∀ σ τ, Rel σ τ → zG C (wL A B cA) 4 E o 1377 [(0, .ref b), (1, .ref (A 0)), (2, .ref (B 0)), (3, .int (Int32.ofNat i))] [] (σ, τ)) : zG C (wL A B cA) 4 E o 1035 [(0, .ref b), (1, .ref (A 0)), (2, .ref (B 0)), (3, .int (Int32.ofNat i))] [] (σ, τ) := by
  obtain ⟨r, σ', τ', hX, hM, hR'⟩ := hok σ τ (xs (Int32.ofNat i + 1).toNatClampNeg) (xs (Int32.ofNat i + 2).toNatClampNeg) (xs (Int32.ofNat i + 3).toNatClampNeg) hR
  refine gg_aload_n (pc := 1035) hC dL_law_1035 (i := 1) rfl 1 rfl ?_
  refine gg_aload_n (pc := 1036) hC dL_law_1036 (i := 0) rfl 0 rfl ?_
  refine gg_iload_n (pc := 1037) hC dL_law_1037 (i := 3) rfl 3 rfl ?_
  refine gg_iconst (pc := 1038) hC dL_law_1038 (x := 1) rfl ?_
  refine gg_iadd (pc := 1039) hC dL_law_1039 ?_
  refine gg_sld (pc := 1040) hC hz dL_law_1040 (zin 1 (by omega) hi hL) ?_
  refine gg_aload_n (pc := 1041) hC dL_law_1041 (i := 0) rfl 0 rfl ?_
  refine gg_iload_n (pc := 1042) hC dL_law_1042 (i := 3) rfl 3 rfl ?_
  refine gg_iconst (pc := 1043) hC dL_law_1043 (x := 2) rfl ?_
  refine gg_iadd (pc := 1044) hC dL_law_1044 ?_
  refine gg_sld (pc := 1045) hC hz dL_law_1045 (zin 2 (by omega) hi hL) ?_
  refine gg_aload_n (pc := 1046) hC dL_law_1046 (i := 0) rfl 0 rfl ?_
  refine gg_iload_n (pc := 1047) hC dL_law_1047 (i := 3) rfl 3 rfl ?_
  refine gg_iconst (pc := 1048) hC dL_law_1048 (x := 3) rfl ?_
  refine gg_iadd (pc := 1049) hC dL_law_1049 ?_
  refine gg_sld (pc := 1050) hC hz dL_law_1050 (zin 3 (by omega) hi hL) ?_
  refine gg_lawXI (pc := 1051) hC dL_law_1051 vL_140 (mX6_sheet hX) (Nat.le_of_ble_eq_true rfl) (Nat.le_of_ble_eq_true rfl) (As := [.int (xs (Int32.ofNat i + 1).toNatClampNeg), .int (xs (Int32.ofNat i + 2).toNatClampNeg), .int (xs (Int32.ofNat i + 3).toNatClampNeg)]) (rest := []) rfl rfl (Nat.le_of_ble_eq_true rfl) ?_
  refine gg_aload_n (pc := 1054) hC dL_law_1054 (i := 2) rfl 2 rfl ?_
  refine gg_aload_n (pc := 1055) hC dL_law_1055 (i := 0) rfl 0 rfl ?_
  refine gg_iload_n (pc := 1056) hC dL_law_1056 (i := 3) rfl 3 rfl ?_
  refine gg_iconst (pc := 1057) hC dL_law_1057 (x := 1) rfl ?_
  refine gg_iadd (pc := 1058) hC dL_law_1058 ?_
  refine gg_sld (pc := 1059) hC hz dL_law_1059 (zin 1 (by omega) hi hL) ?_
  refine gg_aload_n (pc := 1060) hC dL_law_1060 (i := 0) rfl 0 rfl ?_
  refine gg_iload_n (pc := 1061) hC dL_law_1061 (i := 3) rfl 3 rfl ?_
  refine gg_iconst (pc := 1062) hC dL_law_1062 (x := 2) rfl ?_
  refine gg_iadd (pc := 1063) hC dL_law_1063 ?_
  refine gg_sld (pc := 1064) hC hz dL_law_1064 (zin 2 (by omega) hi hL) ?_
  refine gg_aload_n (pc := 1065) hC dL_law_1065 (i := 0) rfl 0 rfl ?_
  refine gg_iload_n (pc := 1066) hC dL_law_1066 (i := 3) rfl 3 rfl ?_
  refine gg_iconst (pc := 1067) hC dL_law_1067 (x := 3) rfl ?_
  refine gg_iadd (pc := 1068) hC dL_law_1068 ?_
  refine gg_sld (pc := 1069) hC hz dL_law_1069 (zin 3 (by omega) hi hL) ?_
  refine gg_lawMI (pc := 1070) hC dL_law_1070 vL_143 (mX7_sheet hM) (Nat.le_of_ble_eq_true rfl) (Nat.le_of_ble_eq_true rfl) (As := [.int (xs (Int32.ofNat i + 1).toNatClampNeg), .int (xs (Int32.ofNat i + 2).toNatClampNeg), .int (xs (Int32.ofNat i + 3).toNatClampNeg)]) (rest := [.int r]) rfl rfl (Nat.le_of_ble_eq_true rfl) ?_
  refine gg_prog (o' := if r = r then o else none) (if_pos rfl).symm ?_
  refine gg_icmp_eq (pc := 1073) hC dL_law_1073 (tgt := 1377) rfl (fun _ => ?_) (fun h => absurd rfl h)
  exact hN _ _ hR'
def ok_lose (Rel : zS → zS → Prop) : Prop := ∀ (σ τ : zS) (a1 : Int32), Rel σ τ → ∃ (r : Int32) (σ' : zS) (τ' : zS), fX6_lose a1 σ = some (r, σ') ∧ fX7_lose a1 τ = some (r, τ') ∧ Rel σ' τ'
set_option maxHeartbeats 4000000 in
set_option maxRecDepth 100000 in
theorem law_lose {α : Type} {C : zK} {A B : Nat → Nat} {cA : Nat → ClassId} {E : α → Prop} {o : Option α} {b L i : Nat} {xs : Nat → Int32} (hC : zOK C (wL A B cA) cL_law RL 4 13 494) (hz : zScr C b L xs) (hi : i + 6 ≤ L) (hL : L ≤ 3072) {Rel : zS → zS → Prop} (hok : ok_lose Rel) {σ τ : zS} (hR : Rel σ τ) (hN : ∀ σ τ, Rel σ τ → zG C (wL A B cA) 4 E o 1377 [(0, .ref b), (1, .ref (A 0)), (2, .ref (B 0)), (3, .int (Int32.ofNat i))] [] (σ, τ)) : zG C (wL A B cA) 4 E o 1078 [(0, .ref b), (1, .ref (A 0)), (2, .ref (B 0)), (3, .int (Int32.ofNat i))] [] (σ, τ) := by
  obtain ⟨r, σ', τ', hX, hM, hR'⟩ := hok σ τ (xs (Int32.ofNat i + 1).toNatClampNeg) hR
  refine gg_aload_n (pc := 1078) hC dL_law_1078 (i := 1) rfl 1 rfl ?_
  refine gg_aload_n (pc := 1079) hC dL_law_1079 (i := 0) rfl 0 rfl ?_
  refine gg_iload_n (pc := 1080) hC dL_law_1080 (i := 3) rfl 3 rfl ?_
  refine gg_iconst (pc := 1081) hC dL_law_1081 (x := 1) rfl ?_
  refine gg_iadd (pc := 1082) hC dL_law_1082 ?_
  refine gg_sld (pc := 1083) hC hz dL_law_1083 (zin 1 (by omega) hi hL) ?_
  refine gg_lawXI (pc := 1084) hC dL_law_1084 vL_144 (mX6_lose hX) (Nat.le_of_ble_eq_true rfl) (Nat.le_of_ble_eq_true rfl) (As := [.int (xs (Int32.ofNat i + 1).toNatClampNeg)]) (rest := []) rfl rfl (Nat.le_of_ble_eq_true rfl) ?_
  refine gg_aload_n (pc := 1087) hC dL_law_1087 (i := 2) rfl 2 rfl ?_
  refine gg_aload_n (pc := 1088) hC dL_law_1088 (i := 0) rfl 0 rfl ?_
  refine gg_iload_n (pc := 1089) hC dL_law_1089 (i := 3) rfl 3 rfl ?_
  refine gg_iconst (pc := 1090) hC dL_law_1090 (x := 1) rfl ?_
  refine gg_iadd (pc := 1091) hC dL_law_1091 ?_
  refine gg_sld (pc := 1092) hC hz dL_law_1092 (zin 1 (by omega) hi hL) ?_
  refine gg_lawMI (pc := 1093) hC dL_law_1093 vL_147 (mX7_lose hM) (Nat.le_of_ble_eq_true rfl) (Nat.le_of_ble_eq_true rfl) (As := [.int (xs (Int32.ofNat i + 1).toNatClampNeg)]) (rest := [.int r]) rfl rfl (Nat.le_of_ble_eq_true rfl) ?_
  refine gg_prog (o' := if r = r then o else none) (if_pos rfl).symm ?_
  refine gg_icmp_eq (pc := 1096) hC dL_law_1096 (tgt := 1377) rfl (fun _ => ?_) (fun h => absurd rfl h)
  exact hN _ _ hR'
def ok_put (Rel : zS → zS → Prop) : Prop := ∀ (σ τ : zS) (a1 a2 a3 a4 : Int32), Rel σ τ → ∃ (r : Int32) (σ' : zS) (τ' : zS), fX6_put a1 a2 a3 a4 σ = some (r, σ') ∧ fX7_put a1 a2 a3 a4 τ = some (r, τ') ∧ Rel σ' τ'
set_option maxHeartbeats 4000000 in
set_option maxRecDepth 100000 in
theorem law_put {α : Type} {C : zK} {A B : Nat → Nat} {cA : Nat → ClassId} {E : α → Prop} {o : Option α} {b L i : Nat} {xs : Nat → Int32} (hC : zOK C (wL A B cA) cL_law RL 4 13 494) (hz : zScr C b L xs) (hi : i + 6 ≤ L) (hL : L ≤ 3072) {Rel : zS → zS → Prop} (hok : ok_put Rel) {σ τ : zS} (hR : Rel σ τ) (hN : ∀ σ τ, Rel σ τ → zG C (wL A B cA) 4 E o 1377 [(0, .ref b), (1, .ref (A 0)), (2, .ref (B 0)), (3, .int (Int32.ofNat i))] [] (σ, τ)) : zG C (wL A B cA) 4 E o 1101 [(0, .ref b), (1, .ref (A 0)), (2, .ref (B 0)), (3, .int (Int32.ofNat i))] [] (σ, τ) := by
  obtain ⟨r, σ', τ', hX, hM, hR'⟩ := hok σ τ (xs (Int32.ofNat i + 1).toNatClampNeg) (xs (Int32.ofNat i + 2).toNatClampNeg) (xs (Int32.ofNat i + 3).toNatClampNeg) (xs (Int32.ofNat i + 4).toNatClampNeg) hR
  refine gg_aload_n (pc := 1101) hC dL_law_1101 (i := 1) rfl 1 rfl ?_
  refine gg_aload_n (pc := 1102) hC dL_law_1102 (i := 0) rfl 0 rfl ?_
  refine gg_iload_n (pc := 1103) hC dL_law_1103 (i := 3) rfl 3 rfl ?_
  refine gg_iconst (pc := 1104) hC dL_law_1104 (x := 1) rfl ?_
  refine gg_iadd (pc := 1105) hC dL_law_1105 ?_
  refine gg_sld (pc := 1106) hC hz dL_law_1106 (zin 1 (by omega) hi hL) ?_
  refine gg_aload_n (pc := 1107) hC dL_law_1107 (i := 0) rfl 0 rfl ?_
  refine gg_iload_n (pc := 1108) hC dL_law_1108 (i := 3) rfl 3 rfl ?_
  refine gg_iconst (pc := 1109) hC dL_law_1109 (x := 2) rfl ?_
  refine gg_iadd (pc := 1110) hC dL_law_1110 ?_
  refine gg_sld (pc := 1111) hC hz dL_law_1111 (zin 2 (by omega) hi hL) ?_
  refine gg_aload_n (pc := 1112) hC dL_law_1112 (i := 0) rfl 0 rfl ?_
  refine gg_iload_n (pc := 1113) hC dL_law_1113 (i := 3) rfl 3 rfl ?_
  refine gg_iconst (pc := 1114) hC dL_law_1114 (x := 3) rfl ?_
  refine gg_iadd (pc := 1115) hC dL_law_1115 ?_
  refine gg_sld (pc := 1116) hC hz dL_law_1116 (zin 3 (by omega) hi hL) ?_
  refine gg_aload_n (pc := 1117) hC dL_law_1117 (i := 0) rfl 0 rfl ?_
  refine gg_iload_n (pc := 1118) hC dL_law_1118 (i := 3) rfl 3 rfl ?_
  refine gg_iconst (pc := 1119) hC dL_law_1119 (x := 4) rfl ?_
  refine gg_iadd (pc := 1120) hC dL_law_1120 ?_
  refine gg_sld (pc := 1121) hC hz dL_law_1121 (zin 4 (by omega) hi hL) ?_
  refine gg_lawXI (pc := 1122) hC dL_law_1122 vL_148 (mX6_put hX) (Nat.le_of_ble_eq_true rfl) (Nat.le_of_ble_eq_true rfl) (As := [.int (xs (Int32.ofNat i + 1).toNatClampNeg), .int (xs (Int32.ofNat i + 2).toNatClampNeg), .int (xs (Int32.ofNat i + 3).toNatClampNeg), .int (xs (Int32.ofNat i + 4).toNatClampNeg)]) (rest := []) rfl rfl (Nat.le_of_ble_eq_true rfl) ?_
  refine gg_aload_n (pc := 1125) hC dL_law_1125 (i := 2) rfl 2 rfl ?_
  refine gg_aload_n (pc := 1126) hC dL_law_1126 (i := 0) rfl 0 rfl ?_
  refine gg_iload_n (pc := 1127) hC dL_law_1127 (i := 3) rfl 3 rfl ?_
  refine gg_iconst (pc := 1128) hC dL_law_1128 (x := 1) rfl ?_
  refine gg_iadd (pc := 1129) hC dL_law_1129 ?_
  refine gg_sld (pc := 1130) hC hz dL_law_1130 (zin 1 (by omega) hi hL) ?_
  refine gg_aload_n (pc := 1131) hC dL_law_1131 (i := 0) rfl 0 rfl ?_
  refine gg_iload_n (pc := 1132) hC dL_law_1132 (i := 3) rfl 3 rfl ?_
  refine gg_iconst (pc := 1133) hC dL_law_1133 (x := 2) rfl ?_
  refine gg_iadd (pc := 1134) hC dL_law_1134 ?_
  refine gg_sld (pc := 1135) hC hz dL_law_1135 (zin 2 (by omega) hi hL) ?_
  refine gg_aload_n (pc := 1136) hC dL_law_1136 (i := 0) rfl 0 rfl ?_
  refine gg_iload_n (pc := 1137) hC dL_law_1137 (i := 3) rfl 3 rfl ?_
  refine gg_iconst (pc := 1138) hC dL_law_1138 (x := 3) rfl ?_
  refine gg_iadd (pc := 1139) hC dL_law_1139 ?_
  refine gg_sld (pc := 1140) hC hz dL_law_1140 (zin 3 (by omega) hi hL) ?_
  refine gg_aload_n (pc := 1141) hC dL_law_1141 (i := 0) rfl 0 rfl ?_
  refine gg_iload_n (pc := 1142) hC dL_law_1142 (i := 3) rfl 3 rfl ?_
  refine gg_iconst (pc := 1143) hC dL_law_1143 (x := 4) rfl ?_
  refine gg_iadd (pc := 1144) hC dL_law_1144 ?_
  refine gg_sld (pc := 1145) hC hz dL_law_1145 (zin 4 (by omega) hi hL) ?_
  refine gg_lawMI (pc := 1146) hC dL_law_1146 vL_152 (mX7_put hM) (Nat.le_of_ble_eq_true rfl) (Nat.le_of_ble_eq_true rfl) (As := [.int (xs (Int32.ofNat i + 1).toNatClampNeg), .int (xs (Int32.ofNat i + 2).toNatClampNeg), .int (xs (Int32.ofNat i + 3).toNatClampNeg), .int (xs (Int32.ofNat i + 4).toNatClampNeg)]) (rest := [.int r]) rfl rfl (Nat.le_of_ble_eq_true rfl) ?_
  refine gg_prog (o' := if r = r then o else none) (if_pos rfl).symm ?_
  refine gg_icmp_eq (pc := 1149) hC dL_law_1149 (tgt := 1377) rfl (fun _ => ?_) (fun h => absurd rfl h)
  exact hN _ _ hR'
def ok_blank (Rel : zS → zS → Prop) : Prop := ∀ (σ τ : zS) (a1 a2 : Int32), Rel σ τ → ∃ (r : Int32) (σ' : zS) (τ' : zS), fX6_blank a1 a2 σ = some (r, σ') ∧ fX7_blank a1 a2 τ = some (r, τ') ∧ Rel σ' τ'
set_option maxHeartbeats 4000000 in
set_option maxRecDepth 100000 in
theorem law_blank {α : Type} {C : zK} {A B : Nat → Nat} {cA : Nat → ClassId} {E : α → Prop} {o : Option α} {b L i : Nat} {xs : Nat → Int32} (hC : zOK C (wL A B cA) cL_law RL 4 13 494) (hz : zScr C b L xs) (hi : i + 6 ≤ L) (hL : L ≤ 3072) {Rel : zS → zS → Prop} (hok : ok_blank Rel) {σ τ : zS} (hR : Rel σ τ) (hN : ∀ σ τ, Rel σ τ → zG C (wL A B cA) 4 E o 1377 [(0, .ref b), (1, .ref (A 0)), (2, .ref (B 0)), (3, .int (Int32.ofNat i))] [] (σ, τ)) : zG C (wL A B cA) 4 E o 1154 [(0, .ref b), (1, .ref (A 0)), (2, .ref (B 0)), (3, .int (Int32.ofNat i))] [] (σ, τ) := by
  obtain ⟨r, σ', τ', hX, hM, hR'⟩ := hok σ τ (xs (Int32.ofNat i + 1).toNatClampNeg) (xs (Int32.ofNat i + 2).toNatClampNeg) hR
  refine gg_aload_n (pc := 1154) hC dL_law_1154 (i := 1) rfl 1 rfl ?_
  refine gg_aload_n (pc := 1155) hC dL_law_1155 (i := 0) rfl 0 rfl ?_
  refine gg_iload_n (pc := 1156) hC dL_law_1156 (i := 3) rfl 3 rfl ?_
  refine gg_iconst (pc := 1157) hC dL_law_1157 (x := 1) rfl ?_
  refine gg_iadd (pc := 1158) hC dL_law_1158 ?_
  refine gg_sld (pc := 1159) hC hz dL_law_1159 (zin 1 (by omega) hi hL) ?_
  refine gg_aload_n (pc := 1160) hC dL_law_1160 (i := 0) rfl 0 rfl ?_
  refine gg_iload_n (pc := 1161) hC dL_law_1161 (i := 3) rfl 3 rfl ?_
  refine gg_iconst (pc := 1162) hC dL_law_1162 (x := 2) rfl ?_
  refine gg_iadd (pc := 1163) hC dL_law_1163 ?_
  refine gg_sld (pc := 1164) hC hz dL_law_1164 (zin 2 (by omega) hi hL) ?_
  refine gg_lawXI (pc := 1165) hC dL_law_1165 vL_153 (mX6_blank hX) (Nat.le_of_ble_eq_true rfl) (Nat.le_of_ble_eq_true rfl) (As := [.int (xs (Int32.ofNat i + 1).toNatClampNeg), .int (xs (Int32.ofNat i + 2).toNatClampNeg)]) (rest := []) rfl rfl (Nat.le_of_ble_eq_true rfl) ?_
  refine gg_aload_n (pc := 1168) hC dL_law_1168 (i := 2) rfl 2 rfl ?_
  refine gg_aload_n (pc := 1169) hC dL_law_1169 (i := 0) rfl 0 rfl ?_
  refine gg_iload_n (pc := 1170) hC dL_law_1170 (i := 3) rfl 3 rfl ?_
  refine gg_iconst (pc := 1171) hC dL_law_1171 (x := 1) rfl ?_
  refine gg_iadd (pc := 1172) hC dL_law_1172 ?_
  refine gg_sld (pc := 1173) hC hz dL_law_1173 (zin 1 (by omega) hi hL) ?_
  refine gg_aload_n (pc := 1174) hC dL_law_1174 (i := 0) rfl 0 rfl ?_
  refine gg_iload_n (pc := 1175) hC dL_law_1175 (i := 3) rfl 3 rfl ?_
  refine gg_iconst (pc := 1176) hC dL_law_1176 (x := 2) rfl ?_
  refine gg_iadd (pc := 1177) hC dL_law_1177 ?_
  refine gg_sld (pc := 1178) hC hz dL_law_1178 (zin 2 (by omega) hi hL) ?_
  refine gg_lawMI (pc := 1179) hC dL_law_1179 vL_156 (mX7_blank hM) (Nat.le_of_ble_eq_true rfl) (Nat.le_of_ble_eq_true rfl) (As := [.int (xs (Int32.ofNat i + 1).toNatClampNeg), .int (xs (Int32.ofNat i + 2).toNatClampNeg)]) (rest := [.int r]) rfl rfl (Nat.le_of_ble_eq_true rfl) ?_
  refine gg_prog (o' := if r = r then o else none) (if_pos rfl).symm ?_
  refine gg_icmp_eq (pc := 1182) hC dL_law_1182 (tgt := 1377) rfl (fun _ => ?_) (fun h => absurd rfl h)
  exact hN _ _ hR'
def ok_get (Rel : zS → zS → Prop) : Prop := ∀ (σ τ : zS) (a1 a2 : Int32), Rel σ τ → ∃ (r : Int64) (σ' : zS) (τ' : zS), fX6_get a1 a2 σ = some (r, σ') ∧ fX7_get a1 a2 τ = some (r, τ') ∧ Rel σ' τ'
set_option maxHeartbeats 4000000 in
set_option maxRecDepth 100000 in
theorem law_get {α : Type} {C : zK} {A B : Nat → Nat} {cA : Nat → ClassId} {E : α → Prop} {o : Option α} {b L i : Nat} {xs : Nat → Int32} (hC : zOK C (wL A B cA) cL_law RL 4 13 494) (hz : zScr C b L xs) (hi : i + 6 ≤ L) (hL : L ≤ 3072) {Rel : zS → zS → Prop} (hok : ok_get Rel) {σ τ : zS} (hR : Rel σ τ) (hN : ∀ σ τ, Rel σ τ → zG C (wL A B cA) 4 E o 1377 [(0, .ref b), (1, .ref (A 0)), (2, .ref (B 0)), (3, .int (Int32.ofNat i))] [] (σ, τ)) : zG C (wL A B cA) 4 E o 1187 [(0, .ref b), (1, .ref (A 0)), (2, .ref (B 0)), (3, .int (Int32.ofNat i))] [] (σ, τ) := by
  obtain ⟨r, σ', τ', hX, hM, hR'⟩ := hok σ τ (xs (Int32.ofNat i + 1).toNatClampNeg) (xs (Int32.ofNat i + 2).toNatClampNeg) hR
  refine gg_aload_n (pc := 1187) hC dL_law_1187 (i := 1) rfl 1 rfl ?_
  refine gg_aload_n (pc := 1188) hC dL_law_1188 (i := 0) rfl 0 rfl ?_
  refine gg_iload_n (pc := 1189) hC dL_law_1189 (i := 3) rfl 3 rfl ?_
  refine gg_iconst (pc := 1190) hC dL_law_1190 (x := 1) rfl ?_
  refine gg_iadd (pc := 1191) hC dL_law_1191 ?_
  refine gg_sld (pc := 1192) hC hz dL_law_1192 (zin 1 (by omega) hi hL) ?_
  refine gg_aload_n (pc := 1193) hC dL_law_1193 (i := 0) rfl 0 rfl ?_
  refine gg_iload_n (pc := 1194) hC dL_law_1194 (i := 3) rfl 3 rfl ?_
  refine gg_iconst (pc := 1195) hC dL_law_1195 (x := 2) rfl ?_
  refine gg_iadd (pc := 1196) hC dL_law_1196 ?_
  refine gg_sld (pc := 1197) hC hz dL_law_1197 (zin 2 (by omega) hi hL) ?_
  refine gg_lawXL (pc := 1198) hC dL_law_1198 vL_157 (mX6_get hX) (Nat.le_of_ble_eq_true rfl) (Nat.le_of_ble_eq_true rfl) (As := [.int (xs (Int32.ofNat i + 1).toNatClampNeg), .int (xs (Int32.ofNat i + 2).toNatClampNeg)]) (rest := []) rfl rfl (Nat.le_of_ble_eq_true rfl) ?_
  refine gg_aload_n (pc := 1201) hC dL_law_1201 (i := 2) rfl 2 rfl ?_
  refine gg_aload_n (pc := 1202) hC dL_law_1202 (i := 0) rfl 0 rfl ?_
  refine gg_iload_n (pc := 1203) hC dL_law_1203 (i := 3) rfl 3 rfl ?_
  refine gg_iconst (pc := 1204) hC dL_law_1204 (x := 1) rfl ?_
  refine gg_iadd (pc := 1205) hC dL_law_1205 ?_
  refine gg_sld (pc := 1206) hC hz dL_law_1206 (zin 1 (by omega) hi hL) ?_
  refine gg_aload_n (pc := 1207) hC dL_law_1207 (i := 0) rfl 0 rfl ?_
  refine gg_iload_n (pc := 1208) hC dL_law_1208 (i := 3) rfl 3 rfl ?_
  refine gg_iconst (pc := 1209) hC dL_law_1209 (x := 2) rfl ?_
  refine gg_iadd (pc := 1210) hC dL_law_1210 ?_
  refine gg_sld (pc := 1211) hC hz dL_law_1211 (zin 2 (by omega) hi hL) ?_
  refine gg_lawML (pc := 1212) hC dL_law_1212 vL_160 (mX7_get hM) (Nat.le_of_ble_eq_true rfl) (Nat.le_of_ble_eq_true rfl) (As := [.int (xs (Int32.ofNat i + 1).toNatClampNeg), .int (xs (Int32.ofNat i + 2).toNatClampNeg)]) (rest := [.long r]) rfl rfl (Nat.le_of_ble_eq_true rfl) ?_
  refine gg_prog (o' := if r = r then o else none) (if_pos rfl).symm ?_
  refine gg_lcmp_eq (pc := 1215) hC dL_law_1215 dL_law_1216 (tgt := 1377) rfl (fun _ => ?_) (fun h => absurd rfl h)
  exact hN _ _ hR'
def ok_copy (Rel : zS → zS → Prop) : Prop := ∀ (σ τ : zS) (a1 a2 a3 a4 a5 : Int32), Rel σ τ → ∃ (r : Int32) (σ' : zS) (τ' : zS), fX6_copy a1 a2 a3 a4 a5 σ = some (r, σ') ∧ fX7_copy a1 a2 a3 a4 a5 τ = some (r, τ') ∧ Rel σ' τ'
set_option maxHeartbeats 4000000 in
set_option maxRecDepth 100000 in
theorem law_copy {α : Type} {C : zK} {A B : Nat → Nat} {cA : Nat → ClassId} {E : α → Prop} {o : Option α} {b L i : Nat} {xs : Nat → Int32} (hC : zOK C (wL A B cA) cL_law RL 4 13 494) (hz : zScr C b L xs) (hi : i + 6 ≤ L) (hL : L ≤ 3072) {Rel : zS → zS → Prop} (hok : ok_copy Rel) {σ τ : zS} (hR : Rel σ τ) (hN : ∀ σ τ, Rel σ τ → zG C (wL A B cA) 4 E o 1377 [(0, .ref b), (1, .ref (A 0)), (2, .ref (B 0)), (3, .int (Int32.ofNat i))] [] (σ, τ)) : zG C (wL A B cA) 4 E o 1221 [(0, .ref b), (1, .ref (A 0)), (2, .ref (B 0)), (3, .int (Int32.ofNat i))] [] (σ, τ) := by
  obtain ⟨r, σ', τ', hX, hM, hR'⟩ := hok σ τ (xs (Int32.ofNat i + 1).toNatClampNeg) (xs (Int32.ofNat i + 2).toNatClampNeg) (xs (Int32.ofNat i + 3).toNatClampNeg) (xs (Int32.ofNat i + 4).toNatClampNeg) (xs (Int32.ofNat i + 5).toNatClampNeg) hR
  refine gg_aload_n (pc := 1221) hC dL_law_1221 (i := 1) rfl 1 rfl ?_
  refine gg_aload_n (pc := 1222) hC dL_law_1222 (i := 0) rfl 0 rfl ?_
  refine gg_iload_n (pc := 1223) hC dL_law_1223 (i := 3) rfl 3 rfl ?_
  refine gg_iconst (pc := 1224) hC dL_law_1224 (x := 1) rfl ?_
  refine gg_iadd (pc := 1225) hC dL_law_1225 ?_
  refine gg_sld (pc := 1226) hC hz dL_law_1226 (zin 1 (by omega) hi hL) ?_
  refine gg_aload_n (pc := 1227) hC dL_law_1227 (i := 0) rfl 0 rfl ?_
  refine gg_iload_n (pc := 1228) hC dL_law_1228 (i := 3) rfl 3 rfl ?_
  refine gg_iconst (pc := 1229) hC dL_law_1229 (x := 2) rfl ?_
  refine gg_iadd (pc := 1230) hC dL_law_1230 ?_
  refine gg_sld (pc := 1231) hC hz dL_law_1231 (zin 2 (by omega) hi hL) ?_
  refine gg_aload_n (pc := 1232) hC dL_law_1232 (i := 0) rfl 0 rfl ?_
  refine gg_iload_n (pc := 1233) hC dL_law_1233 (i := 3) rfl 3 rfl ?_
  refine gg_iconst (pc := 1234) hC dL_law_1234 (x := 3) rfl ?_
  refine gg_iadd (pc := 1235) hC dL_law_1235 ?_
  refine gg_sld (pc := 1236) hC hz dL_law_1236 (zin 3 (by omega) hi hL) ?_
  refine gg_aload_n (pc := 1237) hC dL_law_1237 (i := 0) rfl 0 rfl ?_
  refine gg_iload_n (pc := 1238) hC dL_law_1238 (i := 3) rfl 3 rfl ?_
  refine gg_iconst (pc := 1239) hC dL_law_1239 (x := 4) rfl ?_
  refine gg_iadd (pc := 1240) hC dL_law_1240 ?_
  refine gg_sld (pc := 1241) hC hz dL_law_1241 (zin 4 (by omega) hi hL) ?_
  refine gg_aload_n (pc := 1242) hC dL_law_1242 (i := 0) rfl 0 rfl ?_
  refine gg_iload_n (pc := 1243) hC dL_law_1243 (i := 3) rfl 3 rfl ?_
  refine gg_iconst (pc := 1244) hC dL_law_1244 (x := 5) rfl ?_
  refine gg_iadd (pc := 1245) hC dL_law_1245 ?_
  refine gg_sld (pc := 1246) hC hz dL_law_1246 (zin 5 (by omega) hi hL) ?_
  refine gg_lawXI (pc := 1247) hC dL_law_1247 vL_161 (mX6_copy hX) (Nat.le_of_ble_eq_true rfl) (Nat.le_of_ble_eq_true rfl) (As := [.int (xs (Int32.ofNat i + 1).toNatClampNeg), .int (xs (Int32.ofNat i + 2).toNatClampNeg), .int (xs (Int32.ofNat i + 3).toNatClampNeg), .int (xs (Int32.ofNat i + 4).toNatClampNeg), .int (xs (Int32.ofNat i + 5).toNatClampNeg)]) (rest := []) rfl rfl (Nat.le_of_ble_eq_true rfl) ?_
  refine gg_aload_n (pc := 1250) hC dL_law_1250 (i := 2) rfl 2 rfl ?_
  refine gg_aload_n (pc := 1251) hC dL_law_1251 (i := 0) rfl 0 rfl ?_
  refine gg_iload_n (pc := 1252) hC dL_law_1252 (i := 3) rfl 3 rfl ?_
  refine gg_iconst (pc := 1253) hC dL_law_1253 (x := 1) rfl ?_
  refine gg_iadd (pc := 1254) hC dL_law_1254 ?_
  refine gg_sld (pc := 1255) hC hz dL_law_1255 (zin 1 (by omega) hi hL) ?_
  refine gg_aload_n (pc := 1256) hC dL_law_1256 (i := 0) rfl 0 rfl ?_
  refine gg_iload_n (pc := 1257) hC dL_law_1257 (i := 3) rfl 3 rfl ?_
  refine gg_iconst (pc := 1258) hC dL_law_1258 (x := 2) rfl ?_
  refine gg_iadd (pc := 1259) hC dL_law_1259 ?_
  refine gg_sld (pc := 1260) hC hz dL_law_1260 (zin 2 (by omega) hi hL) ?_
  refine gg_aload_n (pc := 1261) hC dL_law_1261 (i := 0) rfl 0 rfl ?_
  refine gg_iload_n (pc := 1262) hC dL_law_1262 (i := 3) rfl 3 rfl ?_
  refine gg_iconst (pc := 1263) hC dL_law_1263 (x := 3) rfl ?_
  refine gg_iadd (pc := 1264) hC dL_law_1264 ?_
  refine gg_sld (pc := 1265) hC hz dL_law_1265 (zin 3 (by omega) hi hL) ?_
  refine gg_aload_n (pc := 1266) hC dL_law_1266 (i := 0) rfl 0 rfl ?_
  refine gg_iload_n (pc := 1267) hC dL_law_1267 (i := 3) rfl 3 rfl ?_
  refine gg_iconst (pc := 1268) hC dL_law_1268 (x := 4) rfl ?_
  refine gg_iadd (pc := 1269) hC dL_law_1269 ?_
  refine gg_sld (pc := 1270) hC hz dL_law_1270 (zin 4 (by omega) hi hL) ?_
  refine gg_aload_n (pc := 1271) hC dL_law_1271 (i := 0) rfl 0 rfl ?_
  refine gg_iload_n (pc := 1272) hC dL_law_1272 (i := 3) rfl 3 rfl ?_
  refine gg_iconst (pc := 1273) hC dL_law_1273 (x := 5) rfl ?_
  refine gg_iadd (pc := 1274) hC dL_law_1274 ?_
  refine gg_sld (pc := 1275) hC hz dL_law_1275 (zin 5 (by omega) hi hL) ?_
  refine gg_lawMI (pc := 1276) hC dL_law_1276 vL_165 (mX7_copy hM) (Nat.le_of_ble_eq_true rfl) (Nat.le_of_ble_eq_true rfl) (As := [.int (xs (Int32.ofNat i + 1).toNatClampNeg), .int (xs (Int32.ofNat i + 2).toNatClampNeg), .int (xs (Int32.ofNat i + 3).toNatClampNeg), .int (xs (Int32.ofNat i + 4).toNatClampNeg), .int (xs (Int32.ofNat i + 5).toNatClampNeg)]) (rest := [.int r]) rfl rfl (Nat.le_of_ble_eq_true rfl) ?_
  refine gg_prog (o' := if r = r then o else none) (if_pos rfl).symm ?_
  refine gg_icmp_eq (pc := 1279) hC dL_law_1279 (tgt := 1377) rfl (fun _ => ?_) (fun h => absurd rfl h)
  exact hN _ _ hR'
def ok_write (Rel : zS → zS → Prop) : Prop := ∀ (σ τ : zS) (a1 : Int32), Rel σ τ → ∃ (r : Int32) (σ' : zS) (τ' : zS), fX6_write a1 σ = some (r, σ') ∧ fX7_write a1 τ = some (r, τ') ∧ Rel σ' τ'
set_option maxHeartbeats 4000000 in
set_option maxRecDepth 100000 in
theorem law_write {α : Type} {C : zK} {A B : Nat → Nat} {cA : Nat → ClassId} {E : α → Prop} {o : Option α} {b L i : Nat} {xs : Nat → Int32} (hC : zOK C (wL A B cA) cL_law RL 4 13 494) (hz : zScr C b L xs) (hi : i + 6 ≤ L) (hL : L ≤ 3072) {Rel : zS → zS → Prop} (hok : ok_write Rel) {σ τ : zS} (hR : Rel σ τ) (hN : ∀ σ τ, Rel σ τ → zG C (wL A B cA) 4 E o 1377 [(0, .ref b), (1, .ref (A 0)), (2, .ref (B 0)), (3, .int (Int32.ofNat i))] [] (σ, τ)) : zG C (wL A B cA) 4 E o 1284 [(0, .ref b), (1, .ref (A 0)), (2, .ref (B 0)), (3, .int (Int32.ofNat i))] [] (σ, τ) := by
  obtain ⟨r, σ', τ', hX, hM, hR'⟩ := hok σ τ (xs (Int32.ofNat i + 1).toNatClampNeg) hR
  refine gg_aload_n (pc := 1284) hC dL_law_1284 (i := 1) rfl 1 rfl ?_
  refine gg_aload_n (pc := 1285) hC dL_law_1285 (i := 0) rfl 0 rfl ?_
  refine gg_iload_n (pc := 1286) hC dL_law_1286 (i := 3) rfl 3 rfl ?_
  refine gg_iconst (pc := 1287) hC dL_law_1287 (x := 1) rfl ?_
  refine gg_iadd (pc := 1288) hC dL_law_1288 ?_
  refine gg_sld (pc := 1289) hC hz dL_law_1289 (zin 1 (by omega) hi hL) ?_
  refine gg_lawXI (pc := 1290) hC dL_law_1290 vL_166 (mX6_write hX) (Nat.le_of_ble_eq_true rfl) (Nat.le_of_ble_eq_true rfl) (As := [.int (xs (Int32.ofNat i + 1).toNatClampNeg)]) (rest := []) rfl rfl (Nat.le_of_ble_eq_true rfl) ?_
  refine gg_aload_n (pc := 1293) hC dL_law_1293 (i := 2) rfl 2 rfl ?_
  refine gg_aload_n (pc := 1294) hC dL_law_1294 (i := 0) rfl 0 rfl ?_
  refine gg_iload_n (pc := 1295) hC dL_law_1295 (i := 3) rfl 3 rfl ?_
  refine gg_iconst (pc := 1296) hC dL_law_1296 (x := 1) rfl ?_
  refine gg_iadd (pc := 1297) hC dL_law_1297 ?_
  refine gg_sld (pc := 1298) hC hz dL_law_1298 (zin 1 (by omega) hi hL) ?_
  refine gg_lawMI (pc := 1299) hC dL_law_1299 vL_169 (mX7_write hM) (Nat.le_of_ble_eq_true rfl) (Nat.le_of_ble_eq_true rfl) (As := [.int (xs (Int32.ofNat i + 1).toNatClampNeg)]) (rest := [.int r]) rfl rfl (Nat.le_of_ble_eq_true rfl) ?_
  refine gg_prog (o' := if r = r then o else none) (if_pos rfl).symm ?_
  refine gg_icmp_eq (pc := 1302) hC dL_law_1302 (tgt := 1377) rfl (fun _ => ?_) (fun h => absurd rfl h)
  exact hN _ _ hR'
def ok_found (Rel : zS → zS → Prop) : Prop := ∀ (σ τ : zS) (a1 a2 : Int32), Rel σ τ → ∃ (r : Int32) (σ' : zS) (τ' : zS), fX6_found a1 a2 σ = some (r, σ') ∧ fX7_found a1 a2 τ = some (r, τ') ∧ Rel σ' τ'
set_option maxHeartbeats 4000000 in
set_option maxRecDepth 100000 in
theorem law_found {α : Type} {C : zK} {A B : Nat → Nat} {cA : Nat → ClassId} {E : α → Prop} {o : Option α} {b L i : Nat} {xs : Nat → Int32} (hC : zOK C (wL A B cA) cL_law RL 4 13 494) (hz : zScr C b L xs) (hi : i + 6 ≤ L) (hL : L ≤ 3072) {Rel : zS → zS → Prop} (hok : ok_found Rel) {σ τ : zS} (hR : Rel σ τ) (hN : ∀ σ τ, Rel σ τ → zG C (wL A B cA) 4 E o 1377 [(0, .ref b), (1, .ref (A 0)), (2, .ref (B 0)), (3, .int (Int32.ofNat i))] [] (σ, τ)) : zG C (wL A B cA) 4 E o 1307 [(0, .ref b), (1, .ref (A 0)), (2, .ref (B 0)), (3, .int (Int32.ofNat i))] [] (σ, τ) := by
  obtain ⟨r, σ', τ', hX, hM, hR'⟩ := hok σ τ (xs (Int32.ofNat i + 1).toNatClampNeg) (xs (Int32.ofNat i + 2).toNatClampNeg) hR
  refine gg_aload_n (pc := 1307) hC dL_law_1307 (i := 1) rfl 1 rfl ?_
  refine gg_aload_n (pc := 1308) hC dL_law_1308 (i := 0) rfl 0 rfl ?_
  refine gg_iload_n (pc := 1309) hC dL_law_1309 (i := 3) rfl 3 rfl ?_
  refine gg_iconst (pc := 1310) hC dL_law_1310 (x := 1) rfl ?_
  refine gg_iadd (pc := 1311) hC dL_law_1311 ?_
  refine gg_sld (pc := 1312) hC hz dL_law_1312 (zin 1 (by omega) hi hL) ?_
  refine gg_aload_n (pc := 1313) hC dL_law_1313 (i := 0) rfl 0 rfl ?_
  refine gg_iload_n (pc := 1314) hC dL_law_1314 (i := 3) rfl 3 rfl ?_
  refine gg_iconst (pc := 1315) hC dL_law_1315 (x := 2) rfl ?_
  refine gg_iadd (pc := 1316) hC dL_law_1316 ?_
  refine gg_sld (pc := 1317) hC hz dL_law_1317 (zin 2 (by omega) hi hL) ?_
  refine gg_lawXI (pc := 1318) hC dL_law_1318 vL_170 (mX6_found hX) (Nat.le_of_ble_eq_true rfl) (Nat.le_of_ble_eq_true rfl) (As := [.int (xs (Int32.ofNat i + 1).toNatClampNeg), .int (xs (Int32.ofNat i + 2).toNatClampNeg)]) (rest := []) rfl rfl (Nat.le_of_ble_eq_true rfl) ?_
  refine gg_aload_n (pc := 1321) hC dL_law_1321 (i := 2) rfl 2 rfl ?_
  refine gg_aload_n (pc := 1322) hC dL_law_1322 (i := 0) rfl 0 rfl ?_
  refine gg_iload_n (pc := 1323) hC dL_law_1323 (i := 3) rfl 3 rfl ?_
  refine gg_iconst (pc := 1324) hC dL_law_1324 (x := 1) rfl ?_
  refine gg_iadd (pc := 1325) hC dL_law_1325 ?_
  refine gg_sld (pc := 1326) hC hz dL_law_1326 (zin 1 (by omega) hi hL) ?_
  refine gg_aload_n (pc := 1327) hC dL_law_1327 (i := 0) rfl 0 rfl ?_
  refine gg_iload_n (pc := 1328) hC dL_law_1328 (i := 3) rfl 3 rfl ?_
  refine gg_iconst (pc := 1329) hC dL_law_1329 (x := 2) rfl ?_
  refine gg_iadd (pc := 1330) hC dL_law_1330 ?_
  refine gg_sld (pc := 1331) hC hz dL_law_1331 (zin 2 (by omega) hi hL) ?_
  refine gg_lawMI (pc := 1332) hC dL_law_1332 vL_173 (mX7_found hM) (Nat.le_of_ble_eq_true rfl) (Nat.le_of_ble_eq_true rfl) (As := [.int (xs (Int32.ofNat i + 1).toNatClampNeg), .int (xs (Int32.ofNat i + 2).toNatClampNeg)]) (rest := [.int r]) rfl rfl (Nat.le_of_ble_eq_true rfl) ?_
  refine gg_prog (o' := if r = r then o else none) (if_pos rfl).symm ?_
  refine gg_icmp_eq (pc := 1335) hC dL_law_1335 (tgt := 1377) rfl (fun _ => ?_) (fun h => absurd rfl h)
  exact hN _ _ hR'
def ok_count (Rel : zS → zS → Prop) : Prop := ∀ (σ τ : zS) (a1 : Int32), Rel σ τ → ∃ (r : Int32) (σ' : zS) (τ' : zS), fX6_count a1 σ = some (r, σ') ∧ fX7_count a1 τ = some (r, τ') ∧ Rel σ' τ'
set_option maxHeartbeats 4000000 in
set_option maxRecDepth 100000 in
theorem law_count {α : Type} {C : zK} {A B : Nat → Nat} {cA : Nat → ClassId} {E : α → Prop} {o : Option α} {b L i : Nat} {xs : Nat → Int32} (hC : zOK C (wL A B cA) cL_law RL 4 13 494) (hz : zScr C b L xs) (hi : i + 6 ≤ L) (hL : L ≤ 3072) {Rel : zS → zS → Prop} (hok : ok_count Rel) {σ τ : zS} (hR : Rel σ τ) (hN : ∀ σ τ, Rel σ τ → zG C (wL A B cA) 4 E o 1377 [(0, .ref b), (1, .ref (A 0)), (2, .ref (B 0)), (3, .int (Int32.ofNat i))] [] (σ, τ)) : zG C (wL A B cA) 4 E o 1340 [(0, .ref b), (1, .ref (A 0)), (2, .ref (B 0)), (3, .int (Int32.ofNat i))] [] (σ, τ) := by
  obtain ⟨r, σ', τ', hX, hM, hR'⟩ := hok σ τ (xs (Int32.ofNat i + 1).toNatClampNeg) hR
  refine gg_aload_n (pc := 1340) hC dL_law_1340 (i := 1) rfl 1 rfl ?_
  refine gg_aload_n (pc := 1341) hC dL_law_1341 (i := 0) rfl 0 rfl ?_
  refine gg_iload_n (pc := 1342) hC dL_law_1342 (i := 3) rfl 3 rfl ?_
  refine gg_iconst (pc := 1343) hC dL_law_1343 (x := 1) rfl ?_
  refine gg_iadd (pc := 1344) hC dL_law_1344 ?_
  refine gg_sld (pc := 1345) hC hz dL_law_1345 (zin 1 (by omega) hi hL) ?_
  refine gg_lawXI (pc := 1346) hC dL_law_1346 vL_174 (mX6_count hX) (Nat.le_of_ble_eq_true rfl) (Nat.le_of_ble_eq_true rfl) (As := [.int (xs (Int32.ofNat i + 1).toNatClampNeg)]) (rest := []) rfl rfl (Nat.le_of_ble_eq_true rfl) ?_
  refine gg_aload_n (pc := 1349) hC dL_law_1349 (i := 2) rfl 2 rfl ?_
  refine gg_aload_n (pc := 1350) hC dL_law_1350 (i := 0) rfl 0 rfl ?_
  refine gg_iload_n (pc := 1351) hC dL_law_1351 (i := 3) rfl 3 rfl ?_
  refine gg_iconst (pc := 1352) hC dL_law_1352 (x := 1) rfl ?_
  refine gg_iadd (pc := 1353) hC dL_law_1353 ?_
  refine gg_sld (pc := 1354) hC hz dL_law_1354 (zin 1 (by omega) hi hL) ?_
  refine gg_lawMI (pc := 1355) hC dL_law_1355 vL_177 (mX7_count hM) (Nat.le_of_ble_eq_true rfl) (Nat.le_of_ble_eq_true rfl) (As := [.int (xs (Int32.ofNat i + 1).toNatClampNeg)]) (rest := [.int r]) rfl rfl (Nat.le_of_ble_eq_true rfl) ?_
  refine gg_prog (o' := if r = r then o else none) (if_pos rfl).symm ?_
  refine gg_icmp_eq (pc := 1358) hC dL_law_1358 (tgt := 1377) rfl (fun _ => ?_) (fun h => absurd rfl h)
  exact hN _ _ hR'
def ok_digest (Rel : zS → zS → Prop) : Prop := ∀ (σ τ : zS), Rel σ τ → ∃ (r : Int64) (σ' : zS) (τ' : zS), fX6_digest  σ = some (r, σ') ∧ fX7_digest  τ = some (r, τ') ∧ Rel σ' τ'
set_option maxHeartbeats 4000000 in
set_option maxRecDepth 100000 in
theorem law_digest {α : Type} {C : zK} {A B : Nat → Nat} {cA : Nat → ClassId} {E : α → Prop} {o : Option α} {b L i : Nat} {xs : Nat → Int32} (hC : zOK C (wL A B cA) cL_law RL 4 13 494) (hz : zScr C b L xs) (hi : i + 6 ≤ L) (hL : L ≤ 3072) {Rel : zS → zS → Prop} (hok : ok_digest Rel) {σ τ : zS} (hR : Rel σ τ) (hN : ∀ σ τ, Rel σ τ → zG C (wL A B cA) 4 E o 1377 [(0, .ref b), (1, .ref (A 0)), (2, .ref (B 0)), (3, .int (Int32.ofNat i))] [] (σ, τ)) : zG C (wL A B cA) 4 E o 1363 [(0, .ref b), (1, .ref (A 0)), (2, .ref (B 0)), (3, .int (Int32.ofNat i))] [] (σ, τ) := by
  obtain ⟨r, σ', τ', hX, hM, hR'⟩ := hok σ τ  hR
  refine gg_aload_n (pc := 1363) hC dL_law_1363 (i := 1) rfl 1 rfl ?_
  refine gg_lawXL (pc := 1364) hC dL_law_1364 vL_178 (mX6_digest hX) (Nat.le_of_ble_eq_true rfl) (Nat.le_of_ble_eq_true rfl) (As := []) (rest := []) rfl rfl (Nat.le_of_ble_eq_true rfl) ?_
  refine gg_aload_n (pc := 1367) hC dL_law_1367 (i := 2) rfl 2 rfl ?_
  refine gg_lawML (pc := 1368) hC dL_law_1368 vL_182 (mX7_digest hM) (Nat.le_of_ble_eq_true rfl) (Nat.le_of_ble_eq_true rfl) (As := []) (rest := [.long r]) rfl rfl (Nat.le_of_ble_eq_true rfl) ?_
  refine gg_prog (o' := if r = r then o else none) (if_pos rfl).symm ?_
  refine gg_lcmp_eq (pc := 1371) hC dL_law_1371 dL_law_1372 (tgt := 1377) rfl (fun _ => ?_) (fun h => absurd rfl h)
  exact hN _ _ hR'
def okAll (Rel : zS → zS → Prop) : Prop := ok_edge Rel ∧ ok_edges Rel ∧ ok_gone Rel ∧ ok_clear Rel ∧ ok_cut Rel ∧ ok_hit Rel ∧ ok_sweep Rel ∧ ok_fresh Rel ∧ ok_bin Rel ∧ ok_dense Rel ∧ ok_worst Rel ∧ ok_type Rel ∧ ok_wipe Rel ∧ ok_mode Rel ∧ ok_nominal Rel ∧ ok_mend Rel ∧ ok_seen Rel ∧ ok_stamp Rel ∧ ok_reference Rel ∧ ok_gate Rel ∧ ok_back Rel ∧ ok_where Rel ∧ ok_frequency Rel ∧ ok_closing Rel ∧ ok_chain Rel ∧ ok_fit Rel ∧ ok_off Rel ∧ ok_gain Rel ∧ ok_variance Rel ∧ ok_rank Rel ∧ ok_sheet Rel ∧ ok_lose Rel ∧ ok_put Rel ∧ ok_blank Rel ∧ ok_get Rel ∧ ok_copy Rel ∧ ok_write Rel ∧ ok_found Rel ∧ ok_count Rel ∧ ok_digest Rel
set_option maxHeartbeats 4000000 in
set_option maxRecDepth 100000 in
theorem law_switch {α : Type} {C : zK} {A B : Nat → Nat} {cA : Nat → ClassId} {E : α → Prop} {o : Option α} {b L i : Nat} {xs : Nat → Int32} (hC : zOK C (wL A B cA) cL_law RL 4 13 494) (hz : zScr C b L xs) (hi : i + 6 ≤ L) (hL : L ≤ 3072) {Rel : zS → zS → Prop} (hA : okAll Rel) {σ τ : zS} (hR : Rel σ τ) (hN : ∀ σ τ, Rel σ τ → zG C (wL A B cA) 4 E o 1377 [(0, .ref b), (1, .ref (A 0)), (2, .ref (B 0)), (3, .int (Int32.ofNat i))] [] (σ, τ)) : zG C (wL A B cA) 4 E o 33 [(0, .ref b), (1, .ref (A 0)), (2, .ref (B 0)), (3, .int (Int32.ofNat i))] [.int (xs (Int32.ofNat i).toNatClampNeg &&& 63)] (σ, τ) := by
  by_cases h0 : (xs (Int32.ofNat i).toNatClampNeg &&& 63).toInt < 0
  · exact gg_tabOut (pc := 33) hC dL_law_33 (Or.inl h0) (tgt := 1377) rfl (hN _ _ hR)
  by_cases h1 : 39 < (xs (Int32.ofNat i).toNatClampNeg &&& 63).toInt
  · exact gg_tabOut (pc := 33) hC dL_law_33 (Or.inr h1) (tgt := 1377) rfl (hN _ _ hR)
  by_cases c0_39 : (xs (Int32.ofNat i).toNatClampNeg &&& 63).toInt ≤ 19
  · by_cases c0_19 : (xs (Int32.ofNat i).toNatClampNeg &&& 63).toInt ≤ 9
    · by_cases c0_9 : (xs (Int32.ofNat i).toNatClampNeg &&& 63).toInt ≤ 4
      · by_cases c0_4 : (xs (Int32.ofNat i).toNatClampNeg &&& 63).toInt ≤ 2
        · by_cases c0_2 : (xs (Int32.ofNat i).toNatClampNeg &&& 63).toInt ≤ 1
          · by_cases c0_1 : (xs (Int32.ofNat i).toNatClampNeg &&& 63).toInt ≤ 0
            · have hx : (xs (Int32.ofNat i).toNatClampNeg &&& 63).toInt = 0 := by omega
              exact gg_tabIn (pc := 33) hC dL_law_33 (by rw [hx]; decide) (by rw [hx]; decide) (off := 175) (by rw [hx]; rfl) (tgt := 208) rfl (law_edge hC hz hi hL hA.1 hR hN)
            · have hx : (xs (Int32.ofNat i).toNatClampNeg &&& 63).toInt = 1 := by omega
              exact gg_tabIn (pc := 33) hC dL_law_33 (by rw [hx]; decide) (by rw [hx]; decide) (off := 198) (by rw [hx]; rfl) (tgt := 231) rfl (law_edges hC hz hi hL hA.2.1 hR hN)
          · have hx : (xs (Int32.ofNat i).toNatClampNeg &&& 63).toInt = 2 := by omega
            exact gg_tabIn (pc := 33) hC dL_law_33 (by rw [hx]; decide) (by rw [hx]; decide) (off := 241) (by rw [hx]; rfl) (tgt := 274) rfl (law_gone hC hz hi hL hA.2.2.1 hR hN)
        · by_cases c3_4 : (xs (Int32.ofNat i).toNatClampNeg &&& 63).toInt ≤ 3
          · have hx : (xs (Int32.ofNat i).toNatClampNeg &&& 63).toInt = 3 := by omega
            exact gg_tabIn (pc := 33) hC dL_law_33 (by rw [hx]; decide) (by rw [hx]; decide) (off := 264) (by rw [hx]; rfl) (tgt := 297) rfl (law_clear hC hz hi hL hA.2.2.2.1 hR hN)
          · have hx : (xs (Int32.ofNat i).toNatClampNeg &&& 63).toInt = 4 := by omega
            exact gg_tabIn (pc := 33) hC dL_law_33 (by rw [hx]; decide) (by rw [hx]; decide) (off := 277) (by rw [hx]; rfl) (tgt := 310) rfl (law_cut hC hz hi hL hA.2.2.2.2.1 hR hN)
      · by_cases c5_9 : (xs (Int32.ofNat i).toNatClampNeg &&& 63).toInt ≤ 7
        · by_cases c5_7 : (xs (Int32.ofNat i).toNatClampNeg &&& 63).toInt ≤ 6
          · by_cases c5_6 : (xs (Int32.ofNat i).toNatClampNeg &&& 63).toInt ≤ 5
            · have hx : (xs (Int32.ofNat i).toNatClampNeg &&& 63).toInt = 5 := by omega
              exact gg_tabIn (pc := 33) hC dL_law_33 (by rw [hx]; decide) (by rw [hx]; decide) (off := 300) (by rw [hx]; rfl) (tgt := 333) rfl (law_hit hC hz hi hL hA.2.2.2.2.2.1 hR hN)
            · have hx : (xs (Int32.ofNat i).toNatClampNeg &&& 63).toInt = 6 := by omega
              exact gg_tabIn (pc := 33) hC dL_law_33 (by rw [hx]; decide) (by rw [hx]; decide) (off := 333) (by rw [hx]; rfl) (tgt := 366) rfl (law_sweep hC hz hi hL hA.2.2.2.2.2.2.1 hR hN)
          · have hx : (xs (Int32.ofNat i).toNatClampNeg &&& 63).toInt = 7 := by omega
            exact gg_tabIn (pc := 33) hC dL_law_33 (by rw [hx]; decide) (by rw [hx]; decide) (off := 366) (by rw [hx]; rfl) (tgt := 399) rfl (law_fresh hC hz hi hL hA.2.2.2.2.2.2.2.1 hR hN)
        · by_cases c8_9 : (xs (Int32.ofNat i).toNatClampNeg &&& 63).toInt ≤ 8
          · have hx : (xs (Int32.ofNat i).toNatClampNeg &&& 63).toInt = 8 := by omega
            exact gg_tabIn (pc := 33) hC dL_law_33 (by rw [hx]; decide) (by rw [hx]; decide) (off := 379) (by rw [hx]; rfl) (tgt := 412) rfl (law_bin hC hz hi hL hA.2.2.2.2.2.2.2.2.1 hR hN)
          · have hx : (xs (Int32.ofNat i).toNatClampNeg &&& 63).toInt = 9 := by omega
            exact gg_tabIn (pc := 33) hC dL_law_33 (by rw [hx]; decide) (by rw [hx]; decide) (off := 412) (by rw [hx]; rfl) (tgt := 445) rfl (law_dense hC hz hi hL hA.2.2.2.2.2.2.2.2.2.1 hR hN)
    · by_cases c10_19 : (xs (Int32.ofNat i).toNatClampNeg &&& 63).toInt ≤ 14
      · by_cases c10_14 : (xs (Int32.ofNat i).toNatClampNeg &&& 63).toInt ≤ 12
        · by_cases c10_12 : (xs (Int32.ofNat i).toNatClampNeg &&& 63).toInt ≤ 11
          · by_cases c10_11 : (xs (Int32.ofNat i).toNatClampNeg &&& 63).toInt ≤ 10
            · have hx : (xs (Int32.ofNat i).toNatClampNeg &&& 63).toInt = 10 := by omega
              exact gg_tabIn (pc := 33) hC dL_law_33 (by rw [hx]; decide) (by rw [hx]; decide) (off := 446) (by rw [hx]; rfl) (tgt := 479) rfl (law_worst hC hz hi hL hA.2.2.2.2.2.2.2.2.2.2.1 hR hN)
            · have hx : (xs (Int32.ofNat i).toNatClampNeg &&& 63).toInt = 11 := by omega
              exact gg_tabIn (pc := 33) hC dL_law_33 (by rw [hx]; decide) (by rw [hx]; decide) (off := 459) (by rw [hx]; rfl) (tgt := 492) rfl (law_type hC hz hi hL hA.2.2.2.2.2.2.2.2.2.2.2.1 hR hN)
          · have hx : (xs (Int32.ofNat i).toNatClampNeg &&& 63).toInt = 12 := by omega
            exact gg_tabIn (pc := 33) hC dL_law_33 (by rw [hx]; decide) (by rw [hx]; decide) (off := 482) (by rw [hx]; rfl) (tgt := 515) rfl (law_wipe hC hz hi hL hA.2.2.2.2.2.2.2.2.2.2.2.2.1 hR hN)
        · by_cases c13_14 : (xs (Int32.ofNat i).toNatClampNeg &&& 63).toInt ≤ 13
          · have hx : (xs (Int32.ofNat i).toNatClampNeg &&& 63).toInt = 13 := by omega
            exact gg_tabIn (pc := 33) hC dL_law_33 (by rw [hx]; decide) (by rw [hx]; decide) (off := 495) (by rw [hx]; rfl) (tgt := 528) rfl (law_mode hC hz hi hL hA.2.2.2.2.2.2.2.2.2.2.2.2.2.1 hR hN)
          · have hx : (xs (Int32.ofNat i).toNatClampNeg &&& 63).toInt = 14 := by omega
            exact gg_tabIn (pc := 33) hC dL_law_33 (by rw [hx]; decide) (by rw [hx]; decide) (off := 508) (by rw [hx]; rfl) (tgt := 541) rfl (law_nominal hC hz hi hL hA.2.2.2.2.2.2.2.2.2.2.2.2.2.2.1 hR hN)
      · by_cases c15_19 : (xs (Int32.ofNat i).toNatClampNeg &&& 63).toInt ≤ 17
        · by_cases c15_17 : (xs (Int32.ofNat i).toNatClampNeg &&& 63).toInt ≤ 16
          · by_cases c15_16 : (xs (Int32.ofNat i).toNatClampNeg &&& 63).toInt ≤ 15
            · have hx : (xs (Int32.ofNat i).toNatClampNeg &&& 63).toInt = 15 := by omega
              exact gg_tabIn (pc := 33) hC dL_law_33 (by rw [hx]; decide) (by rw [hx]; decide) (off := 531) (by rw [hx]; rfl) (tgt := 564) rfl (law_mend hC hz hi hL hA.2.2.2.2.2.2.2.2.2.2.2.2.2.2.2.1 hR hN)
            · have hx : (xs (Int32.ofNat i).toNatClampNeg &&& 63).toInt = 16 := by omega
              exact gg_tabIn (pc := 33) hC dL_law_33 (by rw [hx]; decide) (by rw [hx]; decide) (off := 554) (by rw [hx]; rfl) (tgt := 587) rfl (law_seen hC hz hi hL hA.2.2.2.2.2.2.2.2.2.2.2.2.2.2.2.2.1 hR hN)
          · have hx : (xs (Int32.ofNat i).toNatClampNeg &&& 63).toInt = 17 := by omega
            exact gg_tabIn (pc := 33) hC dL_law_33 (by rw [hx]; decide) (by rw [hx]; decide) (off := 587) (by rw [hx]; rfl) (tgt := 620) rfl (law_stamp hC hz hi hL hA.2.2.2.2.2.2.2.2.2.2.2.2.2.2.2.2.2.1 hR hN)
        · by_cases c18_19 : (xs (Int32.ofNat i).toNatClampNeg &&& 63).toInt ≤ 18
          · have hx : (xs (Int32.ofNat i).toNatClampNeg &&& 63).toInt = 18 := by omega
            exact gg_tabIn (pc := 33) hC dL_law_33 (by rw [hx]; decide) (by rw [hx]; decide) (off := 621) (by rw [hx]; rfl) (tgt := 654) rfl (law_reference hC hz hi hL hA.2.2.2.2.2.2.2.2.2.2.2.2.2.2.2.2.2.2.1 hR hN)
          · have hx : (xs (Int32.ofNat i).toNatClampNeg &&& 63).toInt = 19 := by omega
            exact gg_tabIn (pc := 33) hC dL_law_33 (by rw [hx]; decide) (by rw [hx]; decide) (off := 645) (by rw [hx]; rfl) (tgt := 678) rfl (law_gate hC hz hi hL hA.2.2.2.2.2.2.2.2.2.2.2.2.2.2.2.2.2.2.2.1 hR hN)
  · by_cases c20_39 : (xs (Int32.ofNat i).toNatClampNeg &&& 63).toInt ≤ 29
    · by_cases c20_29 : (xs (Int32.ofNat i).toNatClampNeg &&& 63).toInt ≤ 24
      · by_cases c20_24 : (xs (Int32.ofNat i).toNatClampNeg &&& 63).toInt ≤ 22
        · by_cases c20_22 : (xs (Int32.ofNat i).toNatClampNeg &&& 63).toInt ≤ 21
          · by_cases c20_21 : (xs (Int32.ofNat i).toNatClampNeg &&& 63).toInt ≤ 20
            · have hx : (xs (Int32.ofNat i).toNatClampNeg &&& 63).toInt = 20 := by omega
              exact gg_tabIn (pc := 33) hC dL_law_33 (by rw [hx]; decide) (by rw [hx]; decide) (off := 678) (by rw [hx]; rfl) (tgt := 711) rfl (law_back hC hz hi hL hA.2.2.2.2.2.2.2.2.2.2.2.2.2.2.2.2.2.2.2.2.1 hR hN)
            · have hx : (xs (Int32.ofNat i).toNatClampNeg &&& 63).toInt = 21 := by omega
              exact gg_tabIn (pc := 33) hC dL_law_33 (by rw [hx]; decide) (by rw [hx]; decide) (off := 691) (by rw [hx]; rfl) (tgt := 724) rfl (law_where hC hz hi hL hA.2.2.2.2.2.2.2.2.2.2.2.2.2.2.2.2.2.2.2.2.2.1 hR hN)
          · have hx : (xs (Int32.ofNat i).toNatClampNeg &&& 63).toInt = 22 := by omega
            exact gg_tabIn (pc := 33) hC dL_law_33 (by rw [hx]; decide) (by rw [hx]; decide) (off := 724) (by rw [hx]; rfl) (tgt := 757) rfl (law_frequency hC hz hi hL hA.2.2.2.2.2.2.2.2.2.2.2.2.2.2.2.2.2.2.2.2.2.2.1 hR hN)
        · by_cases c23_24 : (xs (Int32.ofNat i).toNatClampNeg &&& 63).toInt ≤ 23
          · have hx : (xs (Int32.ofNat i).toNatClampNeg &&& 63).toInt = 23 := by omega
            exact gg_tabIn (pc := 33) hC dL_law_33 (by rw [hx]; decide) (by rw [hx]; decide) (off := 768) (by rw [hx]; rfl) (tgt := 801) rfl (law_closing hC hz hi hL hA.2.2.2.2.2.2.2.2.2.2.2.2.2.2.2.2.2.2.2.2.2.2.2.1 hR hN)
          · have hx : (xs (Int32.ofNat i).toNatClampNeg &&& 63).toInt = 24 := by omega
            exact gg_tabIn (pc := 33) hC dL_law_33 (by rw [hx]; decide) (by rw [hx]; decide) (off := 791) (by rw [hx]; rfl) (tgt := 824) rfl (law_chain hC hz hi hL hA.2.2.2.2.2.2.2.2.2.2.2.2.2.2.2.2.2.2.2.2.2.2.2.2.1 hR hN)
      · by_cases c25_29 : (xs (Int32.ofNat i).toNatClampNeg &&& 63).toInt ≤ 27
        · by_cases c25_27 : (xs (Int32.ofNat i).toNatClampNeg &&& 63).toInt ≤ 26
          · by_cases c25_26 : (xs (Int32.ofNat i).toNatClampNeg &&& 63).toInt ≤ 25
            · have hx : (xs (Int32.ofNat i).toNatClampNeg &&& 63).toInt = 25 := by omega
              exact gg_tabIn (pc := 33) hC dL_law_33 (by rw [hx]; decide) (by rw [hx]; decide) (off := 834) (by rw [hx]; rfl) (tgt := 867) rfl (law_fit hC hz hi hL hA.2.2.2.2.2.2.2.2.2.2.2.2.2.2.2.2.2.2.2.2.2.2.2.2.2.1 hR hN)
            · have hx : (xs (Int32.ofNat i).toNatClampNeg &&& 63).toInt = 26 := by omega
              exact gg_tabIn (pc := 33) hC dL_law_33 (by rw [hx]; decide) (by rw [hx]; decide) (off := 878) (by rw [hx]; rfl) (tgt := 911) rfl (law_off hC hz hi hL hA.2.2.2.2.2.2.2.2.2.2.2.2.2.2.2.2.2.2.2.2.2.2.2.2.2.2.1 hR hN)
          · have hx : (xs (Int32.ofNat i).toNatClampNeg &&& 63).toInt = 27 := by omega
            exact gg_tabIn (pc := 33) hC dL_law_33 (by rw [hx]; decide) (by rw [hx]; decide) (off := 911) (by rw [hx]; rfl) (tgt := 944) rfl (law_gain hC hz hi hL hA.2.2.2.2.2.2.2.2.2.2.2.2.2.2.2.2.2.2.2.2.2.2.2.2.2.2.2.1 hR hN)
        · by_cases c28_29 : (xs (Int32.ofNat i).toNatClampNeg &&& 63).toInt ≤ 28
          · have hx : (xs (Int32.ofNat i).toNatClampNeg &&& 63).toInt = 28 := by omega
            exact gg_tabIn (pc := 33) hC dL_law_33 (by rw [hx]; decide) (by rw [hx]; decide) (off := 945) (by rw [hx]; rfl) (tgt := 978) rfl (law_variance hC hz hi hL hA.2.2.2.2.2.2.2.2.2.2.2.2.2.2.2.2.2.2.2.2.2.2.2.2.2.2.2.2.1 hR hN)
          · have hx : (xs (Int32.ofNat i).toNatClampNeg &&& 63).toInt = 29 := by omega
            exact gg_tabIn (pc := 33) hC dL_law_33 (by rw [hx]; decide) (by rw [hx]; decide) (off := 979) (by rw [hx]; rfl) (tgt := 1012) rfl (law_rank hC hz hi hL hA.2.2.2.2.2.2.2.2.2.2.2.2.2.2.2.2.2.2.2.2.2.2.2.2.2.2.2.2.2.1 hR hN)
    · by_cases c30_39 : (xs (Int32.ofNat i).toNatClampNeg &&& 63).toInt ≤ 34
      · by_cases c30_34 : (xs (Int32.ofNat i).toNatClampNeg &&& 63).toInt ≤ 32
        · by_cases c30_32 : (xs (Int32.ofNat i).toNatClampNeg &&& 63).toInt ≤ 31
          · by_cases c30_31 : (xs (Int32.ofNat i).toNatClampNeg &&& 63).toInt ≤ 30
            · have hx : (xs (Int32.ofNat i).toNatClampNeg &&& 63).toInt = 30 := by omega
              exact gg_tabIn (pc := 33) hC dL_law_33 (by rw [hx]; decide) (by rw [hx]; decide) (off := 1002) (by rw [hx]; rfl) (tgt := 1035) rfl (law_sheet hC hz hi hL hA.2.2.2.2.2.2.2.2.2.2.2.2.2.2.2.2.2.2.2.2.2.2.2.2.2.2.2.2.2.2.1 hR hN)
            · have hx : (xs (Int32.ofNat i).toNatClampNeg &&& 63).toInt = 31 := by omega
              exact gg_tabIn (pc := 33) hC dL_law_33 (by rw [hx]; decide) (by rw [hx]; decide) (off := 1045) (by rw [hx]; rfl) (tgt := 1078) rfl (law_lose hC hz hi hL hA.2.2.2.2.2.2.2.2.2.2.2.2.2.2.2.2.2.2.2.2.2.2.2.2.2.2.2.2.2.2.2.1 hR hN)
          · have hx : (xs (Int32.ofNat i).toNatClampNeg &&& 63).toInt = 32 := by omega
            exact gg_tabIn (pc := 33) hC dL_law_33 (by rw [hx]; decide) (by rw [hx]; decide) (off := 1068) (by rw [hx]; rfl) (tgt := 1101) rfl (law_put hC hz hi hL hA.2.2.2.2.2.2.2.2.2.2.2.2.2.2.2.2.2.2.2.2.2.2.2.2.2.2.2.2.2.2.2.2.1 hR hN)
        · by_cases c33_34 : (xs (Int32.ofNat i).toNatClampNeg &&& 63).toInt ≤ 33
          · have hx : (xs (Int32.ofNat i).toNatClampNeg &&& 63).toInt = 33 := by omega
            exact gg_tabIn (pc := 33) hC dL_law_33 (by rw [hx]; decide) (by rw [hx]; decide) (off := 1121) (by rw [hx]; rfl) (tgt := 1154) rfl (law_blank hC hz hi hL hA.2.2.2.2.2.2.2.2.2.2.2.2.2.2.2.2.2.2.2.2.2.2.2.2.2.2.2.2.2.2.2.2.2.1 hR hN)
          · have hx : (xs (Int32.ofNat i).toNatClampNeg &&& 63).toInt = 34 := by omega
            exact gg_tabIn (pc := 33) hC dL_law_33 (by rw [hx]; decide) (by rw [hx]; decide) (off := 1154) (by rw [hx]; rfl) (tgt := 1187) rfl (law_get hC hz hi hL hA.2.2.2.2.2.2.2.2.2.2.2.2.2.2.2.2.2.2.2.2.2.2.2.2.2.2.2.2.2.2.2.2.2.2.1 hR hN)
      · by_cases c35_39 : (xs (Int32.ofNat i).toNatClampNeg &&& 63).toInt ≤ 37
        · by_cases c35_37 : (xs (Int32.ofNat i).toNatClampNeg &&& 63).toInt ≤ 36
          · by_cases c35_36 : (xs (Int32.ofNat i).toNatClampNeg &&& 63).toInt ≤ 35
            · have hx : (xs (Int32.ofNat i).toNatClampNeg &&& 63).toInt = 35 := by omega
              exact gg_tabIn (pc := 33) hC dL_law_33 (by rw [hx]; decide) (by rw [hx]; decide) (off := 1188) (by rw [hx]; rfl) (tgt := 1221) rfl (law_copy hC hz hi hL hA.2.2.2.2.2.2.2.2.2.2.2.2.2.2.2.2.2.2.2.2.2.2.2.2.2.2.2.2.2.2.2.2.2.2.2.1 hR hN)
            · have hx : (xs (Int32.ofNat i).toNatClampNeg &&& 63).toInt = 36 := by omega
              exact gg_tabIn (pc := 33) hC dL_law_33 (by rw [hx]; decide) (by rw [hx]; decide) (off := 1251) (by rw [hx]; rfl) (tgt := 1284) rfl (law_write hC hz hi hL hA.2.2.2.2.2.2.2.2.2.2.2.2.2.2.2.2.2.2.2.2.2.2.2.2.2.2.2.2.2.2.2.2.2.2.2.2.1 hR hN)
          · have hx : (xs (Int32.ofNat i).toNatClampNeg &&& 63).toInt = 37 := by omega
            exact gg_tabIn (pc := 33) hC dL_law_33 (by rw [hx]; decide) (by rw [hx]; decide) (off := 1274) (by rw [hx]; rfl) (tgt := 1307) rfl (law_found hC hz hi hL hA.2.2.2.2.2.2.2.2.2.2.2.2.2.2.2.2.2.2.2.2.2.2.2.2.2.2.2.2.2.2.2.2.2.2.2.2.2.1 hR hN)
        · by_cases c38_39 : (xs (Int32.ofNat i).toNatClampNeg &&& 63).toInt ≤ 38
          · have hx : (xs (Int32.ofNat i).toNatClampNeg &&& 63).toInt = 38 := by omega
            exact gg_tabIn (pc := 33) hC dL_law_33 (by rw [hx]; decide) (by rw [hx]; decide) (off := 1307) (by rw [hx]; rfl) (tgt := 1340) rfl (law_count hC hz hi hL hA.2.2.2.2.2.2.2.2.2.2.2.2.2.2.2.2.2.2.2.2.2.2.2.2.2.2.2.2.2.2.2.2.2.2.2.2.2.2.1 hR hN)
          · have hx : (xs (Int32.ofNat i).toNatClampNeg &&& 63).toInt = 39 := by omega
            exact gg_tabIn (pc := 33) hC dL_law_33 (by rw [hx]; decide) (by rw [hx]; decide) (off := 1330) (by rw [hx]; rfl) (tgt := 1363) rfl (law_digest hC hz hi hL hA.2.2.2.2.2.2.2.2.2.2.2.2.2.2.2.2.2.2.2.2.2.2.2.2.2.2.2.2.2.2.2.2.2.2.2.2.2.2.2 hR hN)

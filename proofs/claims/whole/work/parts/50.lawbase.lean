/-- both worlds side by side -/
def wL (A B : Nat → Nat) (cA : Nat → ClassId) : zO (zS × zS) := (fun q => (wX A cA).1 q.1 ++ (wM B cA).1 q.2, (wX A cA).2.1, sX A)
def zScr (C : zK) (b L : Nat) (xs : Nat → Int32) : Prop := va_X b L xs C.1.2.2.2.2 C.1.2.2.2.2.heap ∧ b < C.1.2.2.2.2.heap.size ∧ ¬ C.2.2.2.2.1 b
theorem zP_left {D : va_G} {w1 w2 : va_W} {H : Heap} (h : va_P D vwCl (w1 ++ w2) H) : va_P D vwCl w1 H := fun k q hk => h k q (by
  have hlt := (List.getElem?_eq_some_iff.mp hk).1
  rw [List.getElem?_append_left hlt]; exact hk)
theorem zP_right {D : va_G} {w1 w2 : va_W} {H : Heap} (h : va_P D vwCl (w1 ++ w2) H) : va_P D vwCl w2 H := fun k q hk => h (w1.length + k) q (by
  rw [List.getElem?_append_right (Nat.le_add_right _ _), Nat.add_sub_cancel_left]; exact hk)
theorem zD_left {A0 : Nat → Prop} {w1 w2 : va_W} (h : va_D A0 (w1 ++ w2)) : va_D A0 w1 := by
  have e : ∀ (k : Nat) (q : Nat × va_E), w1[k]? = some q → (w1 ++ w2)[k]? = some q := fun k q hk => by
    have hlt := (List.getElem?_eq_some_iff.mp hk).1
    rw [List.getElem?_append_left hlt]; exact hk
  exact ⟨fun i j p q hi hj e1 => h.1 i j p q (e i p hi) (e j q hj) e1, fun k q hk => h.2 k q (e k q hk)⟩
theorem zD_right {A0 : Nat → Prop} {w1 w2 : va_W} (h : va_D A0 (w1 ++ w2)) : va_D A0 w2 := by
  have e : ∀ (k : Nat) (q : Nat × va_E), w2[k]? = some q → (w1 ++ w2)[w1.length + k]? = some q := fun k q hk => by
    rw [List.getElem?_append_right (Nat.le_add_right _ _), Nat.add_sub_cancel_left]; exact hk
  exact ⟨fun i j p q hi hj e1 => by have := h.1 _ _ p q (e i p hi) (e j q hj) e1; omega, fun k q hk => h.2 _ q (e k q hk)⟩
theorem zD_apart {A0 : Nat → Prop} {w1 w2 : va_W} (h : va_D A0 (w1 ++ w2)) {i j : Nat} {p q : Nat × va_E} (hi : w1[i]? = some p) (hj : w2[j]? = some q) : p.1 ≠ q.1 := by
  intro e1
  have hlt := (List.getElem?_eq_some_iff.mp hi).1
  have := h.1 i (w1.length + j) p q (by rw [List.getElem?_append_left hlt]; exact hi) (by rw [List.getElem?_append_right (Nat.le_add_right _ _), Nat.add_sub_cancel_left]; exact hj) e1
  omega
/-- a callee's part comes back, the rest is as it was -/
theorem zJ_part {A0 : Nat → Prop} {D : va_G} {w1 w2 w1' : va_W} {H H1 : Heap} (hP2 : va_P D vwCl w2 H) (hD2 : va_D A0 w2) (hap : ∀ (i j : Nat) (p q : Nat × va_E), w1[i]? = some p → w2[j]? = some q → p.1 ≠ q.1) (hk : ∀ q : Nat, q < H.size → ¬ va_A w1 H.size q → H1[q]? = H[q]?) (hD1 : va_D (va_A w1 H.size) w1') : va_P D vwCl w2 H1 ∧ ∀ (i j : Nat) (p q : Nat × va_E), w1'[i]? = some p → w2[j]? = some q → p.1 ≠ q.1 := by
  have hout : ∀ (j : Nat) (q : Nat × va_E), w2[j]? = some q → q.1 < H.size ∧ ¬ va_A w1 H.size q.1 := fun j q hj => by
    have hlt := (hP2 j q hj).lt
    refine ⟨hlt, fun h => ?_⟩
    rcases h with ⟨k, e, he⟩ | h
    · exact hap k j (q.1, e) q he hj rfl
    · omega
  refine ⟨hP2.kept (fun j q hj => hk q.1 (hout j q hj).1 (hout j q hj).2), fun i j p q hi hj e => ?_⟩
  have := hD1.2 i p hi
  rw [e] at this
  exact (hout j q hj).2 this
theorem zFreeW {C : zK} {w : va_W} {H : Heap} {locs : List Loc} (hA : ∀ q : Nat, C.1.2.2.2.2.heap.size ≤ q → C.2.2.2.2.1 q) (hD : va_D C.2.2.2.2.1 w) (hS : va_S C.2.2.2.2.1 C.1.2.2.2.2.heap H locs) : ∀ a, va_A w H.size a → C.2.2.2.2.1 a := by
  intro a h
  rcases h with ⟨k, e, h⟩ | h
  · exact hD.2 k (a, e) h
  · exact hA a (Nat.le_trans hS.1 h)
theorem zsX_at {C : zK} {A B : Nat → Nat} {cA : Nat → ClassId} {cc : ByteArray} {own : String} {nL fr lo : Nat} (hC : zOK C (wL A B cA) cc own nL fr lo) : sX A C.2.2.2.2.1 C.1.2.2.2.2 C.1.2.2.2.2.heap := hC.2.2.2.2.2.2.2.2.2.2.1
theorem zin {i L : Nat} (j : Nat) (hj : j ≤ 5) (hi : i + 6 ≤ L) (hL : L ≤ 3072) : vp_in (Int32.ofNat i + Int32.ofNat j) L := by
  rw [← Int32.ofNat_add]
  intro h
  rcases h with h | h
  · rw [Int32.lt_iff_toInt_lt, Int32.toInt_ofNat_of_lt (by omega)] at h
    have e0 : (0 : Int32).toInt = 0 := by decide
    omega
  · have e : (Int32.ofNat (i + j)).toNatClampNeg = (Int32.ofNat (i + j)).toInt.toNat := rfl
    rw [e, Int32.toInt_ofNat_of_lt (by omega)] at h
    omega
theorem zin0 {i L : Nat} (hi : i + 6 ≤ L) (hL : L ≤ 3072) : vp_in (Int32.ofNat i) L := by
  have h := zin (i := i) (L := L) 0 (by omega) hi hL
  have e : Int32.ofNat i + Int32.ofNat 0 = Int32.ofNat i := by rw [← Int32.ofNat_add]; rfl
  rwa [e] at h
theorem gg_sld {S α : Type} {C : zK} {ω : zO S} {cc : ByteArray} {own : String} {nL fr lo pc : Nat} {E : α → Prop} {o : Option α} {lv : List (Nat × Value)} {st : List Value} {σ : S} {b L : Nat} {xs : Nat → Int32} (hC : zOK C ω cc own nL fr lo) (hz : zScr C b L xs) (hd : decode cc pc = .ok (.iaload, 1)) {i : Int32} (hin : vp_in i L) (k : zG C ω nL E o (pc + 1) lv (.int (xs i.toNatClampNeg) :: st) σ) : zG C ω nL E o pc lv (.int i :: .ref b :: st) σ :=
  fun v hv hE H locs ls hP hD hS hl => va_sld hC.1 hC.2.1 hz.1 hz.2.1 hz.2.2 hS hin hd (k v hv hE H locs ls hP hD hS hl)
theorem gg_slL {S α : Type} {C : zK} {ω : zO S} {cc : ByteArray} {own : String} {nL fr lo pc : Nat} {E : α → Prop} {o : Option α} {lv : List (Nat × Value)} {st : List Value} {σ : S} {b L : Nat} {xs : Nat → Int32} (hC : zOK C ω cc own nL fr lo) (hz : zScr C b L xs) (hd : decode cc pc = .ok (.arraylength, 1)) (k : zG C ω nL E o (pc + 1) lv (.int (nI L) :: st) σ) : zG C ω nL E o pc lv (.ref b :: st) σ :=
  fun v hv hE H locs ls hP hD hS hl => va_slen hC.1 hC.2.1 hz.1 hz.2.1 hz.2.2 hS hd (k v hv hE H locs ls hP hD hS hl)
set_option maxHeartbeats 1000000 in
theorem gg_lawXI {α : Type} {C : zK} {A B : Nat → Nat} {cA : Nat → ClassId} {cc : ByteArray} {own : String} {nL fr lo pc idx maxL fr1 lo1 n : Nat} {E : α → Prop} {o : Option α} {lv : List (Nat × Value)} {st : List Value} {σ τ σ' : zS} {y : MethodName} {bytes : ByteArray} {ret : Option FieldType} {As rest : List Value} {r : Int32} (hC : zOK C (wL A B cA) cc own nL fr lo) (hd : decode cc pc = .ok (.invokevirtual idx, 3)) (hw : zCV own idx RX6 y bytes maxL ret n) (hM : zMI C.1.2.1 C.2.2.2.1 (wX A cA) y (zws y bytes maxL ret) fr1 lo1 (.ref (A 0) :: As) σ (r, σ')) (hfr : fr1 + 1 ≤ fr) (hlo : 8 + (maxL + 11) + lo1 ≤ lo) (hst : st = As.reverse ++ .ref (A 0) :: rest) (hn : As.length = n) (hcat : (rest.map fun v => v.category).sum ≤ 8) (k : zG C (wL A B cA) nL E o (pc + 3) lv (.int r :: rest) (σ', τ)) : zG C (wL A B cA) nL E o pc lv st (σ, τ) := by
  intro v hv hE H locs ls hP hD hS hl
  subst hst
  have hP1 : va_P C.2.2.2.1 vwCl ((wX A cA).1 σ) H := zP_left hP
  have hD1 : va_D C.2.2.2.2.1 ((wX A cA).1 σ) := zD_left hD
  have hP2 : va_P C.2.2.2.1 vwCl ((wM B cA).1 τ) H := zP_right hP
  have hD2 : va_D C.2.2.2.2.1 ((wM B cA).1 τ) := zD_right hD
  have hap : ∀ (i j : Nat) (p q : Nat × va_E), ((wX A cA).1 σ)[i]? = some p → ((wM B cA).1 τ)[j]? = some q → p.1 ≠ q.1 := fun i j p q hi hj => zD_apart hD hi hj
  have hFc := zFreeW hC.2.2.2.2.2.2.2.2.1 hD1 hS
  have hpre : ∀ U : State, U.heap = H → C.1.2.2.2.2.WarmedH U.vm → zPre C.2.2.2.1 (wX A cA) σ H.size U := by
    intro U hU hW
    refine ⟨by rw [hU], by rw [hU]; exact hP1, va_K.moved hW.alike hC.2.2.2.2.2.1, hD1.weaken (fun _ _ _ _ => trivial), ?_⟩
    rw [hU]
    exact (sX_ok A).2.1 _ _ _ _ hW ((sX_ok A).1 _ _ _ _ _ (zsX_at hC) hS.2.1 hFc)
  have hR : fr1 + 1 ≤ C.1.2.2.2.1.frames ∧ 8 + (maxL + 11) + lo1 ≤ C.1.2.2.2.1.locals := ⟨Nat.le_trans hfr hC.2.2.2.2.2.2.1, Nat.le_trans hlo hC.2.2.2.2.2.2.2.1⟩
  have cw := cwV (R := C.1.2.2.2.1) (s := C.1.2.2.2.2) (args := C.2.1.2.1) (rm := { frames := fr1, cells := 0, slots := 0, locals := lo1 }) (mc := 0) (ms := 0) n hC.2.2.2.2.1 hw.good rfl rfl rfl hw.2.2.2.2.2 hR
  refine va_calli (va_runV (As := As) (rest := rest) ⟨hC.1, hC.2.1, hC.2.2.1, hC.2.2.2.1, hC.2.2.2.2.1⟩ (hM H.size) cw ⟨zBlind (sX_ok A), va_recv (tys := (wX A cA).2.1) hC.2.2.2.2.2.1 hP1 (ci := 6) (q0 := 0) rfl pX_0, fun U hU hW => ⟨rfl, hpre U hU hW⟩⟩ rfl hn hl.1 rfl (lv_room hcat) hd ⟨hC.2.2.2.2.2.2.2.2.2.2.2.1, hC.2.2.2.2.2.2.2.2.2.2.2.2⟩) hS (fun q _ h => hFc q h) hFc (fun r' u t H1 locs1 ht hvm hw1 hB hz1 hk1 hS1 => ?_)
  obtain ⟨hPn, hKn, hDn⟩ := hB
  rw [ht] at hPn
  have e1 : r' = r := congrArg Prod.fst hw1
  have e2 : u = σ' := congrArg Prod.snd hw1
  subst e1
  subst e2
  obtain ⟨hP2', hap'⟩ := zJ_part hP2 hD2 hap hk1 hDn
  have hDn' : va_D C.2.2.2.2.1 ((wX A cA).1 u) := hDn.weaken (fun _ z _ h => hFc z.1 h)
  exact k v hv hE H1 locs1 ls (hPn.app hP2') (hDn'.app hD2 hap') hS1 hl
set_option maxHeartbeats 1000000 in
theorem gg_lawXL {α : Type} {C : zK} {A B : Nat → Nat} {cA : Nat → ClassId} {cc : ByteArray} {own : String} {nL fr lo pc idx maxL fr1 lo1 n : Nat} {E : α → Prop} {o : Option α} {lv : List (Nat × Value)} {st : List Value} {σ τ σ' : zS} {y : MethodName} {bytes : ByteArray} {ret : Option FieldType} {As rest : List Value} {r : Int64} (hC : zOK C (wL A B cA) cc own nL fr lo) (hd : decode cc pc = .ok (.invokevirtual idx, 3)) (hw : zCV own idx RX6 y bytes maxL ret n) (hM : zML C.1.2.1 C.2.2.2.1 (wX A cA) y (zws y bytes maxL ret) fr1 lo1 (.ref (A 0) :: As) σ (r, σ')) (hfr : fr1 + 1 ≤ fr) (hlo : 8 + (maxL + 11) + lo1 ≤ lo) (hst : st = As.reverse ++ .ref (A 0) :: rest) (hn : As.length = n) (hcat : (rest.map fun v => v.category).sum ≤ 8) (k : zG C (wL A B cA) nL E o (pc + 3) lv (.long r :: rest) (σ', τ)) : zG C (wL A B cA) nL E o pc lv st (σ, τ) := by
  intro v hv hE H locs ls hP hD hS hl
  subst hst
  have hP1 : va_P C.2.2.2.1 vwCl ((wX A cA).1 σ) H := zP_left hP
  have hD1 : va_D C.2.2.2.2.1 ((wX A cA).1 σ) := zD_left hD
  have hP2 : va_P C.2.2.2.1 vwCl ((wM B cA).1 τ) H := zP_right hP
  have hD2 : va_D C.2.2.2.2.1 ((wM B cA).1 τ) := zD_right hD
  have hap : ∀ (i j : Nat) (p q : Nat × va_E), ((wX A cA).1 σ)[i]? = some p → ((wM B cA).1 τ)[j]? = some q → p.1 ≠ q.1 := fun i j p q hi hj => zD_apart hD hi hj
  have hFc := zFreeW hC.2.2.2.2.2.2.2.2.1 hD1 hS
  have hpre : ∀ U : State, U.heap = H → C.1.2.2.2.2.WarmedH U.vm → zPre C.2.2.2.1 (wX A cA) σ H.size U := by
    intro U hU hW
    refine ⟨by rw [hU], by rw [hU]; exact hP1, va_K.moved hW.alike hC.2.2.2.2.2.1, hD1.weaken (fun _ _ _ _ => trivial), ?_⟩
    rw [hU]
    exact (sX_ok A).2.1 _ _ _ _ hW ((sX_ok A).1 _ _ _ _ _ (zsX_at hC) hS.2.1 hFc)
  have hR : fr1 + 1 ≤ C.1.2.2.2.1.frames ∧ 8 + (maxL + 11) + lo1 ≤ C.1.2.2.2.1.locals := ⟨Nat.le_trans hfr hC.2.2.2.2.2.2.1, Nat.le_trans hlo hC.2.2.2.2.2.2.2.1⟩
  have cw := cwV (R := C.1.2.2.2.1) (s := C.1.2.2.2.2) (args := C.2.1.2.1) (rm := { frames := fr1, cells := 0, slots := 0, locals := lo1 }) (mc := 0) (ms := 0) n hC.2.2.2.2.1 hw.good rfl rfl rfl hw.2.2.2.2.2 hR
  refine va_calll (va_runV (As := As) (rest := rest) ⟨hC.1, hC.2.1, hC.2.2.1, hC.2.2.2.1, hC.2.2.2.2.1⟩ (hM H.size) cw ⟨zBlind (sX_ok A), va_recv (tys := (wX A cA).2.1) hC.2.2.2.2.2.1 hP1 (ci := 6) (q0 := 0) rfl pX_0, fun U hU hW => ⟨rfl, hpre U hU hW⟩⟩ rfl hn hl.1 rfl (lv_room hcat) hd ⟨hC.2.2.2.2.2.2.2.2.2.2.2.1, hC.2.2.2.2.2.2.2.2.2.2.2.2⟩) hS (fun q _ h => hFc q h) hFc (fun r' u t H1 locs1 ht hvm hw1 hB hz1 hk1 hS1 => ?_)
  obtain ⟨hPn, hKn, hDn⟩ := hB
  rw [ht] at hPn
  have e1 : r' = r := congrArg Prod.fst hw1
  have e2 : u = σ' := congrArg Prod.snd hw1
  subst e1
  subst e2
  obtain ⟨hP2', hap'⟩ := zJ_part hP2 hD2 hap hk1 hDn
  have hDn' : va_D C.2.2.2.2.1 ((wX A cA).1 u) := hDn.weaken (fun _ z _ h => hFc z.1 h)
  exact k v hv hE H1 locs1 ls (hPn.app hP2') (hDn'.app hD2 hap') hS1 hl
set_option maxHeartbeats 1000000 in
theorem gg_lawMI {α : Type} {C : zK} {A B : Nat → Nat} {cA : Nat → ClassId} {cc : ByteArray} {own : String} {nL fr lo pc idx maxL fr1 lo1 n : Nat} {E : α → Prop} {o : Option α} {lv : List (Nat × Value)} {st : List Value} {σ τ τ' : zS} {y : MethodName} {bytes : ByteArray} {ret : Option FieldType} {As rest : List Value} {r : Int32} (hC : zOK C (wL A B cA) cc own nL fr lo) (hd : decode cc pc = .ok (.invokevirtual idx, 3)) (hw : zCV own idx RX7 y bytes maxL ret n) (hM : zMI C.1.2.1 C.2.2.2.1 (wM B cA) y (zws y bytes maxL ret) fr1 lo1 (.ref (B 0) :: As) τ (r, τ')) (hfr : fr1 + 1 ≤ fr) (hlo : 8 + (maxL + 11) + lo1 ≤ lo) (hst : st = As.reverse ++ .ref (B 0) :: rest) (hn : As.length = n) (hcat : (rest.map fun v => v.category).sum ≤ 8) (k : zG C (wL A B cA) nL E o (pc + 3) lv (.int r :: rest) (σ, τ')) : zG C (wL A B cA) nL E o pc lv st (σ, τ) := by
  intro v hv hE H locs ls hP hD hS hl
  subst hst
  have hP1 : va_P C.2.2.2.1 vwCl ((wM B cA).1 τ) H := zP_right hP
  have hD1 : va_D C.2.2.2.2.1 ((wM B cA).1 τ) := zD_right hD
  have hP2 : va_P C.2.2.2.1 vwCl ((wX A cA).1 σ) H := zP_left hP
  have hD2 : va_D C.2.2.2.2.1 ((wX A cA).1 σ) := zD_left hD
  have hap : ∀ (i j : Nat) (p q : Nat × va_E), ((wM B cA).1 τ)[i]? = some p → ((wX A cA).1 σ)[j]? = some q → p.1 ≠ q.1 := fun i j p q hi hj => fun e => zD_apart hD hj hi e.symm
  have hFc := zFreeW hC.2.2.2.2.2.2.2.2.1 hD1 hS
  have hpre : ∀ U : State, U.heap = H → C.1.2.2.2.2.WarmedH U.vm → zPre C.2.2.2.1 (wM B cA) τ H.size U := by
    intro U hU hW
    refine ⟨by rw [hU], by rw [hU]; exact hP1, va_K.moved hW.alike hC.2.2.2.2.2.1, hD1.weaken (fun _ _ _ _ => trivial), ?_⟩
    exact trivial
    skip
  have hR : fr1 + 1 ≤ C.1.2.2.2.1.frames ∧ 8 + (maxL + 11) + lo1 ≤ C.1.2.2.2.1.locals := ⟨Nat.le_trans hfr hC.2.2.2.2.2.2.1, Nat.le_trans hlo hC.2.2.2.2.2.2.2.1⟩
  have cw := cwV (R := C.1.2.2.2.1) (s := C.1.2.2.2.2) (args := C.2.1.2.1) (rm := { frames := fr1, cells := 0, slots := 0, locals := lo1 }) (mc := 0) (ms := 0) n hC.2.2.2.2.1 hw.good rfl rfl rfl hw.2.2.2.2.2 hR
  refine va_calli (va_runV (As := As) (rest := rest) ⟨hC.1, hC.2.1, hC.2.2.1, hC.2.2.2.1, hC.2.2.2.2.1⟩ (hM H.size) cw ⟨zBlind sM_ok, va_recv (tys := (wX A cA).2.1) hC.2.2.2.2.2.1 hP1 (ci := 7) (q0 := 0) rfl pM_0, fun U hU hW => ⟨rfl, hpre U hU hW⟩⟩ rfl hn hl.1 rfl (lv_room hcat) hd ⟨hC.2.2.2.2.2.2.2.2.2.2.2.1, hC.2.2.2.2.2.2.2.2.2.2.2.2⟩) hS (fun q _ h => hFc q h) hFc (fun r' u t H1 locs1 ht hvm hw1 hB hz1 hk1 hS1 => ?_)
  obtain ⟨hPn, hKn, hDn⟩ := hB
  rw [ht] at hPn
  have e1 : r' = r := congrArg Prod.fst hw1
  have e2 : u = τ' := congrArg Prod.snd hw1
  subst e1
  subst e2
  obtain ⟨hP2', hap'⟩ := zJ_part hP2 hD2 hap hk1 hDn
  have hDn' : va_D C.2.2.2.2.1 ((wM B cA).1 u) := hDn.weaken (fun _ z _ h => hFc z.1 h)
  exact k v hv hE H1 locs1 ls (va_P.app hP2' hPn) (hD2.app hDn' (fun i j p q hi hj e => hap' j i q p hj hi e.symm)) hS1 hl
set_option maxHeartbeats 1000000 in
theorem gg_lawML {α : Type} {C : zK} {A B : Nat → Nat} {cA : Nat → ClassId} {cc : ByteArray} {own : String} {nL fr lo pc idx maxL fr1 lo1 n : Nat} {E : α → Prop} {o : Option α} {lv : List (Nat × Value)} {st : List Value} {σ τ τ' : zS} {y : MethodName} {bytes : ByteArray} {ret : Option FieldType} {As rest : List Value} {r : Int64} (hC : zOK C (wL A B cA) cc own nL fr lo) (hd : decode cc pc = .ok (.invokevirtual idx, 3)) (hw : zCV own idx RX7 y bytes maxL ret n) (hM : zML C.1.2.1 C.2.2.2.1 (wM B cA) y (zws y bytes maxL ret) fr1 lo1 (.ref (B 0) :: As) τ (r, τ')) (hfr : fr1 + 1 ≤ fr) (hlo : 8 + (maxL + 11) + lo1 ≤ lo) (hst : st = As.reverse ++ .ref (B 0) :: rest) (hn : As.length = n) (hcat : (rest.map fun v => v.category).sum ≤ 8) (k : zG C (wL A B cA) nL E o (pc + 3) lv (.long r :: rest) (σ, τ')) : zG C (wL A B cA) nL E o pc lv st (σ, τ) := by
  intro v hv hE H locs ls hP hD hS hl
  subst hst
  have hP1 : va_P C.2.2.2.1 vwCl ((wM B cA).1 τ) H := zP_right hP
  have hD1 : va_D C.2.2.2.2.1 ((wM B cA).1 τ) := zD_right hD
  have hP2 : va_P C.2.2.2.1 vwCl ((wX A cA).1 σ) H := zP_left hP
  have hD2 : va_D C.2.2.2.2.1 ((wX A cA).1 σ) := zD_left hD
  have hap : ∀ (i j : Nat) (p q : Nat × va_E), ((wM B cA).1 τ)[i]? = some p → ((wX A cA).1 σ)[j]? = some q → p.1 ≠ q.1 := fun i j p q hi hj => fun e => zD_apart hD hj hi e.symm
  have hFc := zFreeW hC.2.2.2.2.2.2.2.2.1 hD1 hS
  have hpre : ∀ U : State, U.heap = H → C.1.2.2.2.2.WarmedH U.vm → zPre C.2.2.2.1 (wM B cA) τ H.size U := by
    intro U hU hW
    refine ⟨by rw [hU], by rw [hU]; exact hP1, va_K.moved hW.alike hC.2.2.2.2.2.1, hD1.weaken (fun _ _ _ _ => trivial), ?_⟩
    exact trivial
    skip
  have hR : fr1 + 1 ≤ C.1.2.2.2.1.frames ∧ 8 + (maxL + 11) + lo1 ≤ C.1.2.2.2.1.locals := ⟨Nat.le_trans hfr hC.2.2.2.2.2.2.1, Nat.le_trans hlo hC.2.2.2.2.2.2.2.1⟩
  have cw := cwV (R := C.1.2.2.2.1) (s := C.1.2.2.2.2) (args := C.2.1.2.1) (rm := { frames := fr1, cells := 0, slots := 0, locals := lo1 }) (mc := 0) (ms := 0) n hC.2.2.2.2.1 hw.good rfl rfl rfl hw.2.2.2.2.2 hR
  refine va_calll (va_runV (As := As) (rest := rest) ⟨hC.1, hC.2.1, hC.2.2.1, hC.2.2.2.1, hC.2.2.2.2.1⟩ (hM H.size) cw ⟨zBlind sM_ok, va_recv (tys := (wX A cA).2.1) hC.2.2.2.2.2.1 hP1 (ci := 7) (q0 := 0) rfl pM_0, fun U hU hW => ⟨rfl, hpre U hU hW⟩⟩ rfl hn hl.1 rfl (lv_room hcat) hd ⟨hC.2.2.2.2.2.2.2.2.2.2.2.1, hC.2.2.2.2.2.2.2.2.2.2.2.2⟩) hS (fun q _ h => hFc q h) hFc (fun r' u t H1 locs1 ht hvm hw1 hB hz1 hk1 hS1 => ?_)
  obtain ⟨hPn, hKn, hDn⟩ := hB
  rw [ht] at hPn
  have e1 : r' = r := congrArg Prod.fst hw1
  have e2 : u = τ' := congrArg Prod.snd hw1
  subst e1
  subst e2
  obtain ⟨hP2', hap'⟩ := zJ_part hP2 hD2 hap hk1 hDn
  have hDn' : va_D C.2.2.2.2.1 ((wM B cA).1 u) := hDn.weaken (fun _ z _ h => hFc z.1 h)
  exact k v hv hE H1 locs1 ls (va_P.app hP2' hPn) (hD2.app hDn' (fun i j p q hi hj e => hap' j i q p hj hi e.symm)) hS1 hl

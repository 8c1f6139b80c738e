theorem zGood {ws : List Cond} (h : ∀ w ∈ ws, w ∈ zT) : GoodIn zT ws := fun w hw => ⟨h w hw, good_of_word (List.mem_filter.mp (h w hw)).2⟩
def zCV (own : String) (idx : Nat) (CC : String) (y : MethodName) (bytes : ByteArray) (maxL : Nat) (ret : Option FieldType) (n : Nat) : Prop :=
  Cond.methodLink own idx y ∈ zT ∧ Cond.instanceMethod y ∈ zT ∧ Cond.selects CC y y ∈ zT ∧ Cond.initialized CC ∈ zT ∧ Cond.code y bytes maxL ret ∈ zT ∧ (y.cls = CC ∧ y.cls ≠ "java/lang/invoke/MethodHandle" ∧ y.cls ≠ "java/lang/invoke/VarHandle" ∧ (parseMethodDescriptor y.desc).map (fun d => d.parameters.length) = some n)
def zCS (own : String) (idx : Nat) (y : MethodName) (bytes : ByteArray) (maxL : Nat) (ret : Option FieldType) (n : Nat) : Prop :=
  Cond.methodLink own idx y ∈ zT ∧ Cond.static y ∈ zT ∧ Cond.initialized own ∈ zT ∧ Cond.code y bytes maxL ret ∈ zT ∧ (y.cls = own ∧ y.cls ≠ "java/lang/invoke/MethodHandle" ∧ y.cls ≠ "java/lang/invoke/VarHandle" ∧ (parseMethodDescriptor y.desc).map (fun d => d.parameters.length) = some n)
theorem zCV.good {own CC : String} {idx maxL n : Nat} {y : MethodName} {bytes : ByteArray} {ret : Option FieldType} (h : zCV own idx CC y bytes maxL ret n) : GoodIn zT (wsV own idx CC y (zws y bytes maxL ret)) := by
  obtain ⟨h1, h2, h3, h4, h5, -⟩ := h
  refine zGood (fun w hw => ?_)
  simp only [wsV, zws, List.cons_append, List.nil_append, List.mem_cons] at hw
  rcases hw with rfl | rfl | rfl | rfl | rfl | hw
  · exact h1
  · exact h2
  · exact h3
  · exact h4
  · exact h5
  · exact hw
theorem zCS.good {own : String} {idx maxL n : Nat} {y : MethodName} {bytes : ByteArray} {ret : Option FieldType} (h : zCS own idx y bytes maxL ret n) : GoodIn zT (wsS own idx y (zws y bytes maxL ret)) := by
  obtain ⟨h1, h2, h3, h4, -⟩ := h
  refine zGood (fun w hw => ?_)
  simp only [wsS, zws, List.cons_append, List.nil_append, List.mem_cons] at hw
  rcases hw with rfl | rfl | rfl | rfl | hw
  · exact h1
  · exact h2
  · exact h3
  · exact h4
  · exact hw
theorem zBlind {S : Type} {D : va_G} {ω : zO S} {σ : S} {sz : Nat} {av : List Value} (hX : zX ω.2.2) : FrameBlind (va_Pc av (zPre D ω σ sz)) := by
  intro a U g mk q
  obtain ⟨q0, q1, qP, qK, qD, qX⟩ := q
  exact ⟨q0, q1, qP, va_K.moved (u := U) (U := U.calling g mk a) (Vm.Alike.refl U.vm) qK, qD, hX.2.2 _ U (U.calling g mk a) _ rfl qX⟩
theorem zFree {S : Type} {C : zK} {ω : zO S} {σ : S} {H : Heap} {locs : List Loc} (hA : ∀ q : Nat, C.1.2.2.2.2.heap.size ≤ q → C.2.2.2.2.1 q) (hD : va_D C.2.2.2.2.1 (ω.1 σ)) (hS : va_S C.2.2.2.2.1 C.1.2.2.2.2.heap H locs) : ∀ a, va_A (ω.1 σ) H.size a → C.2.2.2.2.1 a := by
  intro a h
  rcases h with ⟨k, e, h⟩ | h
  · exact hD.2 k (a, e) h
  · exact hA a (Nat.le_trans hS.1 h)
theorem zPreOf {S : Type} {C : zK} {ω : zO S} {σ : S} {H : Heap} {locs : List Loc} {cc : ByteArray} {own : String} {nL fr lo : Nat} (hC : zOK C ω cc own nL fr lo) (hP : va_P C.2.2.2.1 vwCl (ω.1 σ) H) (hD : va_D C.2.2.2.2.1 (ω.1 σ)) (hS : va_S C.2.2.2.2.1 C.1.2.2.2.2.heap H locs) (U : State) (hU : U.heap = H) (hW : C.1.2.2.2.2.WarmedH U.vm) : zPre C.2.2.2.1 ω σ H.size U := by
  refine ⟨by rw [hU], by rw [hU]; exact hP, va_K.moved hW.alike hC.2.2.2.2.2.1, hD.weaken (fun _ _ _ _ => trivial), ?_⟩
  rw [hU]
  exact hC.2.2.2.2.2.2.2.2.2.1.2.1 _ _ _ _ hW (hC.2.2.2.2.2.2.2.2.2.1.1 _ _ _ _ _ hC.2.2.2.2.2.2.2.2.2.2.1 hS.2.1 (zFree hC.2.2.2.2.2.2.2.2.1 hD hS))
set_option maxHeartbeats 1000000 in
theorem gg_callVI {S α : Type} {C : zK} {ω : zO S} {cc : ByteArray} {own : String} {nL fr lo pc idx maxL fr1 lo1 n : Nat} {E : α → Prop} {lv : List (Nat × Value)} {st : List Value} {σ : S} {y : MethodName} {bytes : ByteArray} {ret : Option FieldType} {As rest : List Value} {CC : String} {b : Nat} {fs : List Value} {T : u_T} {N : Nat} {o1 : Option (Int32 × S)} {K : Int32 → S → Option α} (hC : zOK C ω cc own nL fr lo) (hd : decode cc pc = .ok (.invokevirtual idx, 3)) (hw : zCV own idx CC y bytes maxL ret n) (hM : ∀ q, o1 = some q → zMI C.1.2.1 C.2.2.2.1 ω y (zws y bytes maxL ret) fr1 lo1 (.ref b :: As) σ q) (hfr : fr1 + 1 ≤ fr) (hlo : 8 + (maxL + 11) + lo1 ≤ lo) (hst : st = As.reverse ++ .ref b :: rest) (hn : As.length = n) (hcat : (rest.map fun v => v.category).sum ≤ 8) (q0 ci : Nat) (he : (ω.1 σ)[q0]? = some (b, .inr (ci, fs))) (hc : vwCl[ci]? = some (CC, T, N)) (k : ∀ (x : Int32) (τ : S), zG C ω nL E (K x τ) (pc + 3) lv (.int x :: rest) τ) : zG C ω nL E (zy2 o1 K) pc lv st σ := by
  intro v hv hE H locs ls hP hD hS hl
  subst hst
  cases hq : o1 with
  | none => rw [hq] at hv; cases hv
  | some q =>
    rw [hq] at hv
    have hFc := zFree hC.2.2.2.2.2.2.2.2.1 hD hS
    have hpre := zPreOf hC hP hD hS
    have hR : fr1 + 1 ≤ C.1.2.2.2.1.frames ∧ 8 + (maxL + 11) + lo1 ≤ C.1.2.2.2.1.locals := ⟨Nat.le_trans hfr hC.2.2.2.2.2.2.1, Nat.le_trans hlo hC.2.2.2.2.2.2.2.1⟩
    have cw := cwV (R := C.1.2.2.2.1) (s := C.1.2.2.2.2) (args := C.2.1.2.1) (rm := { frames := fr1, cells := 0, slots := 0, locals := lo1 }) (mc := 0) (ms := 0) n hC.2.2.2.2.1 hw.good rfl rfl rfl hw.2.2.2.2.2 hR
    refine va_calli (va_runV (As := As) (rest := rest) ⟨hC.1, hC.2.1, hC.2.2.1, hC.2.2.2.1, hC.2.2.2.2.1⟩ (hM q hq H.size) cw ⟨zBlind hC.2.2.2.2.2.2.2.2.2.1, va_recv hC.2.2.2.2.2.1 hP hc he, fun U hU hW => ⟨rfl, hpre U hU hW⟩⟩ rfl hn hl.1 rfl (lv_room hcat) hd ⟨hC.2.2.2.2.2.2.2.2.2.2.2.1, hC.2.2.2.2.2.2.2.2.2.2.2.2⟩) hS (fun q _ h => hFc q h) hFc (fun r u t H1 locs1 ht hvm hw1 hB hz1 hk1 hS1 => ?_)
    obtain ⟨hP1, hK1, hD1⟩ := hB
    rw [ht] at hP1
    have e : (r, u) = q := hw1
    subst e
    exact k r u v hv hE H1 locs1 ls hP1 (hD1.weaken (fun _ z _ h => hFc z.1 h)) hS1 hl
set_option maxHeartbeats 1000000 in
theorem gg_callVIr {S α : Type} {C : zK} {ω : zO S} {cc : ByteArray} {own : String} {nL fr lo pc idx maxL fr1 lo1 n : Nat} {E : α → Prop} {lv : List (Nat × Value)} {st : List Value} {σ : S} {y : MethodName} {bytes : ByteArray} {ret : Option FieldType} {As rest : List Value} {CC : String} {b : Nat} {fs : List Value} {T : u_T} {N : Nat} {o1 : Option (Int32)} {K : Int32 → Option α} (hC : zOK C ω cc own nL fr lo) (hd : decode cc pc = .ok (.invokevirtual idx, 3)) (hw : zCV own idx CC y bytes maxL ret n) (hM : ∀ q, o1 = some q → zMI C.1.2.1 C.2.2.2.1 ω y (zws y bytes maxL ret) fr1 lo1 (.ref b :: As) σ (q, σ)) (hfr : fr1 + 1 ≤ fr) (hlo : 8 + (maxL + 11) + lo1 ≤ lo) (hst : st = As.reverse ++ .ref b :: rest) (hn : As.length = n) (hcat : (rest.map fun v => v.category).sum ≤ 8) (q0 ci : Nat) (he : (ω.1 σ)[q0]? = some (b, .inr (ci, fs))) (hc : vwCl[ci]? = some (CC, T, N)) (k : ∀ x : Int32, zG C ω nL E (K x) (pc + 3) lv (.int x :: rest) σ) : zG C ω nL E (zy1 o1 K) pc lv st σ := by
  intro v hv hE H locs ls hP hD hS hl
  subst hst
  cases hq : o1 with
  | none => rw [hq] at hv; cases hv
  | some q =>
    rw [hq] at hv
    have hFc := zFree hC.2.2.2.2.2.2.2.2.1 hD hS
    have hpre := zPreOf hC hP hD hS
    have hR : fr1 + 1 ≤ C.1.2.2.2.1.frames ∧ 8 + (maxL + 11) + lo1 ≤ C.1.2.2.2.1.locals := ⟨Nat.le_trans hfr hC.2.2.2.2.2.2.1, Nat.le_trans hlo hC.2.2.2.2.2.2.2.1⟩
    have cw := cwV (R := C.1.2.2.2.1) (s := C.1.2.2.2.2) (args := C.2.1.2.1) (rm := { frames := fr1, cells := 0, slots := 0, locals := lo1 }) (mc := 0) (ms := 0) n hC.2.2.2.2.1 hw.good rfl rfl rfl hw.2.2.2.2.2 hR
    refine va_calli (va_runV (As := As) (rest := rest) ⟨hC.1, hC.2.1, hC.2.2.1, hC.2.2.2.1, hC.2.2.2.2.1⟩ (hM q hq H.size) cw ⟨zBlind hC.2.2.2.2.2.2.2.2.2.1, va_recv hC.2.2.2.2.2.1 hP hc he, fun U hU hW => ⟨rfl, hpre U hU hW⟩⟩ rfl hn hl.1 rfl (lv_room hcat) hd ⟨hC.2.2.2.2.2.2.2.2.2.2.2.1, hC.2.2.2.2.2.2.2.2.2.2.2.2⟩) hS (fun q _ h => hFc q h) hFc (fun r u t H1 locs1 ht hvm hw1 hB hz1 hk1 hS1 => ?_)
    obtain ⟨hP1, hK1, hD1⟩ := hB
    rw [ht] at hP1
    have e1 : r = q := congrArg Prod.fst hw1
    have e2 : u = σ := congrArg Prod.snd hw1
    subst e1
    subst e2
    exact k r v hv hE H1 locs1 ls hP1 (hD1.weaken (fun _ z _ h => hFc z.1 h)) hS1 hl
set_option maxHeartbeats 1000000 in
theorem gg_callVL {S α : Type} {C : zK} {ω : zO S} {cc : ByteArray} {own : String} {nL fr lo pc idx maxL fr1 lo1 n : Nat} {E : α → Prop} {lv : List (Nat × Value)} {st : List Value} {σ : S} {y : MethodName} {bytes : ByteArray} {ret : Option FieldType} {As rest : List Value} {CC : String} {b : Nat} {fs : List Value} {T : u_T} {N : Nat} {o1 : Option (Int64 × S)} {K : Int64 → S → Option α} (hC : zOK C ω cc own nL fr lo) (hd : decode cc pc = .ok (.invokevirtual idx, 3)) (hw : zCV own idx CC y bytes maxL ret n) (hM : ∀ q, o1 = some q → zML C.1.2.1 C.2.2.2.1 ω y (zws y bytes maxL ret) fr1 lo1 (.ref b :: As) σ q) (hfr : fr1 + 1 ≤ fr) (hlo : 8 + (maxL + 11) + lo1 ≤ lo) (hst : st = As.reverse ++ .ref b :: rest) (hn : As.length = n) (hcat : (rest.map fun v => v.category).sum ≤ 8) (q0 ci : Nat) (he : (ω.1 σ)[q0]? = some (b, .inr (ci, fs))) (hc : vwCl[ci]? = some (CC, T, N)) (k : ∀ (x : Int64) (τ : S), zG C ω nL E (K x τ) (pc + 3) lv (.long x :: rest) τ) : zG C ω nL E (zy2 o1 K) pc lv st σ := by
  intro v hv hE H locs ls hP hD hS hl
  subst hst
  cases hq : o1 with
  | none => rw [hq] at hv; cases hv
  | some q =>
    rw [hq] at hv
    have hFc := zFree hC.2.2.2.2.2.2.2.2.1 hD hS
    have hpre := zPreOf hC hP hD hS
    have hR : fr1 + 1 ≤ C.1.2.2.2.1.frames ∧ 8 + (maxL + 11) + lo1 ≤ C.1.2.2.2.1.locals := ⟨Nat.le_trans hfr hC.2.2.2.2.2.2.1, Nat.le_trans hlo hC.2.2.2.2.2.2.2.1⟩
    have cw := cwV (R := C.1.2.2.2.1) (s := C.1.2.2.2.2) (args := C.2.1.2.1) (rm := { frames := fr1, cells := 0, slots := 0, locals := lo1 }) (mc := 0) (ms := 0) n hC.2.2.2.2.1 hw.good rfl rfl rfl hw.2.2.2.2.2 hR
    refine va_calll (va_runV (As := As) (rest := rest) ⟨hC.1, hC.2.1, hC.2.2.1, hC.2.2.2.1, hC.2.2.2.2.1⟩ (hM q hq H.size) cw ⟨zBlind hC.2.2.2.2.2.2.2.2.2.1, va_recv hC.2.2.2.2.2.1 hP hc he, fun U hU hW => ⟨rfl, hpre U hU hW⟩⟩ rfl hn hl.1 rfl (lv_room hcat) hd ⟨hC.2.2.2.2.2.2.2.2.2.2.2.1, hC.2.2.2.2.2.2.2.2.2.2.2.2⟩) hS (fun q _ h => hFc q h) hFc (fun r u t H1 locs1 ht hvm hw1 hB hz1 hk1 hS1 => ?_)
    obtain ⟨hP1, hK1, hD1⟩ := hB
    rw [ht] at hP1
    have e : (r, u) = q := hw1
    subst e
    exact k r u v hv hE H1 locs1 ls hP1 (hD1.weaken (fun _ z _ h => hFc z.1 h)) hS1 hl
set_option maxHeartbeats 1000000 in
theorem gg_callVLr {S α : Type} {C : zK} {ω : zO S} {cc : ByteArray} {own : String} {nL fr lo pc idx maxL fr1 lo1 n : Nat} {E : α → Prop} {lv : List (Nat × Value)} {st : List Value} {σ : S} {y : MethodName} {bytes : ByteArray} {ret : Option FieldType} {As rest : List Value} {CC : String} {b : Nat} {fs : List Value} {T : u_T} {N : Nat} {o1 : Option (Int64)} {K : Int64 → Option α} (hC : zOK C ω cc own nL fr lo) (hd : decode cc pc = .ok (.invokevirtual idx, 3)) (hw : zCV own idx CC y bytes maxL ret n) (hM : ∀ q, o1 = some q → zML C.1.2.1 C.2.2.2.1 ω y (zws y bytes maxL ret) fr1 lo1 (.ref b :: As) σ (q, σ)) (hfr : fr1 + 1 ≤ fr) (hlo : 8 + (maxL + 11) + lo1 ≤ lo) (hst : st = As.reverse ++ .ref b :: rest) (hn : As.length = n) (hcat : (rest.map fun v => v.category).sum ≤ 8) (q0 ci : Nat) (he : (ω.1 σ)[q0]? = some (b, .inr (ci, fs))) (hc : vwCl[ci]? = some (CC, T, N)) (k : ∀ x : Int64, zG C ω nL E (K x) (pc + 3) lv (.long x :: rest) σ) : zG C ω nL E (zy1 o1 K) pc lv st σ := by
  intro v hv hE H locs ls hP hD hS hl
  subst hst
  cases hq : o1 with
  | none => rw [hq] at hv; cases hv
  | some q =>
    rw [hq] at hv
    have hFc := zFree hC.2.2.2.2.2.2.2.2.1 hD hS
    have hpre := zPreOf hC hP hD hS
    have hR : fr1 + 1 ≤ C.1.2.2.2.1.frames ∧ 8 + (maxL + 11) + lo1 ≤ C.1.2.2.2.1.locals := ⟨Nat.le_trans hfr hC.2.2.2.2.2.2.1, Nat.le_trans hlo hC.2.2.2.2.2.2.2.1⟩
    have cw := cwV (R := C.1.2.2.2.1) (s := C.1.2.2.2.2) (args := C.2.1.2.1) (rm := { frames := fr1, cells := 0, slots := 0, locals := lo1 }) (mc := 0) (ms := 0) n hC.2.2.2.2.1 hw.good rfl rfl rfl hw.2.2.2.2.2 hR
    refine va_calll (va_runV (As := As) (rest := rest) ⟨hC.1, hC.2.1, hC.2.2.1, hC.2.2.2.1, hC.2.2.2.2.1⟩ (hM q hq H.size) cw ⟨zBlind hC.2.2.2.2.2.2.2.2.2.1, va_recv hC.2.2.2.2.2.1 hP hc he, fun U hU hW => ⟨rfl, hpre U hU hW⟩⟩ rfl hn hl.1 rfl (lv_room hcat) hd ⟨hC.2.2.2.2.2.2.2.2.2.2.2.1, hC.2.2.2.2.2.2.2.2.2.2.2.2⟩) hS (fun q _ h => hFc q h) hFc (fun r u t H1 locs1 ht hvm hw1 hB hz1 hk1 hS1 => ?_)
    obtain ⟨hP1, hK1, hD1⟩ := hB
    rw [ht] at hP1
    have e1 : r = q := congrArg Prod.fst hw1
    have e2 : u = σ := congrArg Prod.snd hw1
    subst e1
    subst e2
    exact k r v hv hE H1 locs1 ls hP1 (hD1.weaken (fun _ z _ h => hFc z.1 h)) hS1 hl
set_option maxHeartbeats 1000000 in
theorem gg_callVV {S α : Type} {C : zK} {ω : zO S} {cc : ByteArray} {own : String} {nL fr lo pc idx maxL fr1 lo1 n : Nat} {E : α → Prop} {lv : List (Nat × Value)} {st : List Value} {σ : S} {y : MethodName} {bytes : ByteArray} {ret : Option FieldType} {As rest : List Value} {CC : String} {b : Nat} {fs : List Value} {T : u_T} {N : Nat} {o1 : Option (S)} {K : S → Option α} (hC : zOK C ω cc own nL fr lo) (hd : decode cc pc = .ok (.invokevirtual idx, 3)) (hw : zCV own idx CC y bytes maxL ret n) (hM : ∀ q, o1 = some q → zMV C.1.2.1 C.2.2.2.1 ω y (zws y bytes maxL ret) fr1 lo1 (.ref b :: As) σ q) (hfr : fr1 + 1 ≤ fr) (hlo : 8 + (maxL + 11) + lo1 ≤ lo) (hst : st = As.reverse ++ .ref b :: rest) (hn : As.length = n) (hcat : (rest.map fun v => v.category).sum ≤ 8) (q0 ci : Nat) (he : (ω.1 σ)[q0]? = some (b, .inr (ci, fs))) (hc : vwCl[ci]? = some (CC, T, N)) (k : ∀ τ : S, zG C ω nL E (K τ) (pc + 3) lv rest τ) : zG C ω nL E (zy1 o1 K) pc lv st σ := by
  intro v hv hE H locs ls hP hD hS hl
  subst hst
  cases hq : o1 with
  | none => rw [hq] at hv; cases hv
  | some q =>
    rw [hq] at hv
    have hFc := zFree hC.2.2.2.2.2.2.2.2.1 hD hS
    have hpre := zPreOf hC hP hD hS
    have hR : fr1 + 1 ≤ C.1.2.2.2.1.frames ∧ 8 + (maxL + 11) + lo1 ≤ C.1.2.2.2.1.locals := ⟨Nat.le_trans hfr hC.2.2.2.2.2.2.1, Nat.le_trans hlo hC.2.2.2.2.2.2.2.1⟩
    have cw := cwV (R := C.1.2.2.2.1) (s := C.1.2.2.2.2) (args := C.2.1.2.1) (rm := { frames := fr1, cells := 0, slots := 0, locals := lo1 }) (mc := 0) (ms := 0) n hC.2.2.2.2.1 hw.good rfl rfl rfl hw.2.2.2.2.2 hR
    refine va_callv (va_runV (As := As) (rest := rest) ⟨hC.1, hC.2.1, hC.2.2.1, hC.2.2.2.1, hC.2.2.2.2.1⟩ (hM q hq H.size) cw ⟨zBlind hC.2.2.2.2.2.2.2.2.2.1, va_recv hC.2.2.2.2.2.1 hP hc he, fun U hU hW => ⟨rfl, hpre U hU hW⟩⟩ rfl hn hl.1 rfl (lv_room hcat) hd ⟨hC.2.2.2.2.2.2.2.2.2.2.2.1, hC.2.2.2.2.2.2.2.2.2.2.2.2⟩) hS (fun q _ h => hFc q h) hFc (fun u t H1 locs1 ht hvm hw1 hB hz1 hk1 hS1 => ?_)
    obtain ⟨hP1, hK1, hD1⟩ := hB
    rw [ht] at hP1
    have e : u = q := hw1
    subst e
    exact k u v hv hE H1 locs1 ls hP1 (hD1.weaken (fun _ z _ h => hFc z.1 h)) hS1 hl
set_option maxHeartbeats 1000000 in
theorem gg_callSI {S α : Type} {C : zK} {ω : zO S} {cc : ByteArray} {own : String} {nL fr lo pc idx maxL fr1 lo1 n : Nat} {E : α → Prop} {lv : List (Nat × Value)} {st : List Value} {σ : S} {y : MethodName} {bytes : ByteArray} {ret : Option FieldType} {As rest : List Value} {o1 : Option (Int32 × S)} {K : Int32 → S → Option α} (hC : zOK C ω cc own nL fr lo) (hd : decode cc pc = .ok (.invokestatic idx, 3)) (hw : zCS own idx y bytes maxL ret n) (hM : ∀ q, o1 = some q → zMI C.1.2.1 C.2.2.2.1 ω y (zws y bytes maxL ret) fr1 lo1 As σ q) (hfr : fr1 + 1 ≤ fr) (hlo : 8 + (maxL + 11) + lo1 ≤ lo) (hst : st = As.reverse ++ rest) (hn : As.length = n) (hcat : (rest.map fun v => v.category).sum ≤ 8) (k : ∀ (x : Int32) (τ : S), zG C ω nL E (K x τ) (pc + 3) lv (.int x :: rest) τ) : zG C ω nL E (zy2 o1 K) pc lv st σ := by
  intro v hv hE H locs ls hP hD hS hl
  subst hst
  cases hq : o1 with
  | none => rw [hq] at hv; cases hv
  | some q =>
    rw [hq] at hv
    have hFc := zFree hC.2.2.2.2.2.2.2.2.1 hD hS
    have hpre := zPreOf hC hP hD hS
    have hR : fr1 + 1 ≤ C.1.2.2.2.1.frames ∧ 8 + (maxL + 11) + lo1 ≤ C.1.2.2.2.1.locals := ⟨Nat.le_trans hfr hC.2.2.2.2.2.2.1, Nat.le_trans hlo hC.2.2.2.2.2.2.2.1⟩
    have cw := cwS (R := C.1.2.2.2.1) (s := C.1.2.2.2.2) (args := C.2.1.2.1) (rm := { frames := fr1, cells := 0, slots := 0, locals := lo1 }) (mc := 0) (ms := 0) n hC.2.2.2.2.1 hw.good rfl rfl rfl hw.2.2.2.2 hR
    refine va_calli (va_runS (As := As) (rest := rest) ⟨hC.1, hC.2.1, hC.2.2.1, hC.2.2.2.1, hC.2.2.2.2.1⟩ (hM q hq H.size) cw ⟨zBlind hC.2.2.2.2.2.2.2.2.2.1, fun U hU hW => ⟨rfl, hpre U hU hW⟩⟩ rfl hn hl.1 rfl (lv_room hcat) hd ⟨hC.2.2.2.2.2.2.2.2.2.2.2.1, hC.2.2.2.2.2.2.2.2.2.2.2.2⟩) hS (fun q _ h => hFc q h) hFc (fun r u t H1 locs1 ht hvm hw1 hB hz1 hk1 hS1 => ?_)
    obtain ⟨hP1, hK1, hD1⟩ := hB
    rw [ht] at hP1
    have e : (r, u) = q := hw1
    subst e
    exact k r u v hv hE H1 locs1 ls hP1 (hD1.weaken (fun _ z _ h => hFc z.1 h)) hS1 hl
set_option maxHeartbeats 1000000 in
theorem gg_callSIr {S α : Type} {C : zK} {ω : zO S} {cc : ByteArray} {own : String} {nL fr lo pc idx maxL fr1 lo1 n : Nat} {E : α → Prop} {lv : List (Nat × Value)} {st : List Value} {σ : S} {y : MethodName} {bytes : ByteArray} {ret : Option FieldType} {As rest : List Value} {o1 : Option (Int32)} {K : Int32 → Option α} (hC : zOK C ω cc own nL fr lo) (hd : decode cc pc = .ok (.invokestatic idx, 3)) (hw : zCS own idx y bytes maxL ret n) (hM : ∀ q, o1 = some q → zMI C.1.2.1 C.2.2.2.1 ω y (zws y bytes maxL ret) fr1 lo1 As σ (q, σ)) (hfr : fr1 + 1 ≤ fr) (hlo : 8 + (maxL + 11) + lo1 ≤ lo) (hst : st = As.reverse ++ rest) (hn : As.length = n) (hcat : (rest.map fun v => v.category).sum ≤ 8) (k : ∀ x : Int32, zG C ω nL E (K x) (pc + 3) lv (.int x :: rest) σ) : zG C ω nL E (zy1 o1 K) pc lv st σ := by
  intro v hv hE H locs ls hP hD hS hl
  subst hst
  cases hq : o1 with
  | none => rw [hq] at hv; cases hv
  | some q =>
    rw [hq] at hv
    have hFc := zFree hC.2.2.2.2.2.2.2.2.1 hD hS
    have hpre := zPreOf hC hP hD hS
    have hR : fr1 + 1 ≤ C.1.2.2.2.1.frames ∧ 8 + (maxL + 11) + lo1 ≤ C.1.2.2.2.1.locals := ⟨Nat.le_trans hfr hC.2.2.2.2.2.2.1, Nat.le_trans hlo hC.2.2.2.2.2.2.2.1⟩
    have cw := cwS (R := C.1.2.2.2.1) (s := C.1.2.2.2.2) (args := C.2.1.2.1) (rm := { frames := fr1, cells := 0, slots := 0, locals := lo1 }) (mc := 0) (ms := 0) n hC.2.2.2.2.1 hw.good rfl rfl rfl hw.2.2.2.2 hR
    refine va_calli (va_runS (As := As) (rest := rest) ⟨hC.1, hC.2.1, hC.2.2.1, hC.2.2.2.1, hC.2.2.2.2.1⟩ (hM q hq H.size) cw ⟨zBlind hC.2.2.2.2.2.2.2.2.2.1, fun U hU hW => ⟨rfl, hpre U hU hW⟩⟩ rfl hn hl.1 rfl (lv_room hcat) hd ⟨hC.2.2.2.2.2.2.2.2.2.2.2.1, hC.2.2.2.2.2.2.2.2.2.2.2.2⟩) hS (fun q _ h => hFc q h) hFc (fun r u t H1 locs1 ht hvm hw1 hB hz1 hk1 hS1 => ?_)
    obtain ⟨hP1, hK1, hD1⟩ := hB
    rw [ht] at hP1
    have e1 : r = q := congrArg Prod.fst hw1
    have e2 : u = σ := congrArg Prod.snd hw1
    subst e1
    subst e2
    exact k r v hv hE H1 locs1 ls hP1 (hD1.weaken (fun _ z _ h => hFc z.1 h)) hS1 hl
set_option maxHeartbeats 1000000 in
theorem gg_callSL {S α : Type} {C : zK} {ω : zO S} {cc : ByteArray} {own : String} {nL fr lo pc idx maxL fr1 lo1 n : Nat} {E : α → Prop} {lv : List (Nat × Value)} {st : List Value} {σ : S} {y : MethodName} {bytes : ByteArray} {ret : Option FieldType} {As rest : List Value} {o1 : Option (Int64 × S)} {K : Int64 → S → Option α} (hC : zOK C ω cc own nL fr lo) (hd : decode cc pc = .ok (.invokestatic idx, 3)) (hw : zCS own idx y bytes maxL ret n) (hM : ∀ q, o1 = some q → zML C.1.2.1 C.2.2.2.1 ω y (zws y bytes maxL ret) fr1 lo1 As σ q) (hfr : fr1 + 1 ≤ fr) (hlo : 8 + (maxL + 11) + lo1 ≤ lo) (hst : st = As.reverse ++ rest) (hn : As.length = n) (hcat : (rest.map fun v => v.category).sum ≤ 8) (k : ∀ (x : Int64) (τ : S), zG C ω nL E (K x τ) (pc + 3) lv (.long x :: rest) τ) : zG C ω nL E (zy2 o1 K) pc lv st σ := by
  intro v hv hE H locs ls hP hD hS hl
  subst hst
  cases hq : o1 with
  | none => rw [hq] at hv; cases hv
  | some q =>
    rw [hq] at hv
    have hFc := zFree hC.2.2.2.2.2.2.2.2.1 hD hS
    have hpre := zPreOf hC hP hD hS
    have hR : fr1 + 1 ≤ C.1.2.2.2.1.frames ∧ 8 + (maxL + 11) + lo1 ≤ C.1.2.2.2.1.locals := ⟨Nat.le_trans hfr hC.2.2.2.2.2.2.1, Nat.le_trans hlo hC.2.2.2.2.2.2.2.1⟩
    have cw := cwS (R := C.1.2.2.2.1) (s := C.1.2.2.2.2) (args := C.2.1.2.1) (rm := { frames := fr1, cells := 0, slots := 0, locals := lo1 }) (mc := 0) (ms := 0) n hC.2.2.2.2.1 hw.good rfl rfl rfl hw.2.2.2.2 hR
    refine va_calll (va_runS (As := As) (rest := rest) ⟨hC.1, hC.2.1, hC.2.2.1, hC.2.2.2.1, hC.2.2.2.2.1⟩ (hM q hq H.size) cw ⟨zBlind hC.2.2.2.2.2.2.2.2.2.1, fun U hU hW => ⟨rfl, hpre U hU hW⟩⟩ rfl hn hl.1 rfl (lv_room hcat) hd ⟨hC.2.2.2.2.2.2.2.2.2.2.2.1, hC.2.2.2.2.2.2.2.2.2.2.2.2⟩) hS (fun q _ h => hFc q h) hFc (fun r u t H1 locs1 ht hvm hw1 hB hz1 hk1 hS1 => ?_)
    obtain ⟨hP1, hK1, hD1⟩ := hB
    rw [ht] at hP1
    have e : (r, u) = q := hw1
    subst e
    exact k r u v hv hE H1 locs1 ls hP1 (hD1.weaken (fun _ z _ h => hFc z.1 h)) hS1 hl
set_option maxHeartbeats 1000000 in
theorem gg_callSLr {S α : Type} {C : zK} {ω : zO S} {cc : ByteArray} {own : String} {nL fr lo pc idx maxL fr1 lo1 n : Nat} {E : α → Prop} {lv : List (Nat × Value)} {st : List Value} {σ : S} {y : MethodName} {bytes : ByteArray} {ret : Option FieldType} {As rest : List Value} {o1 : Option (Int64)} {K : Int64 → Option α} (hC : zOK C ω cc own nL fr lo) (hd : decode cc pc = .ok (.invokestatic idx, 3)) (hw : zCS own idx y bytes maxL ret n) (hM : ∀ q, o1 = some q → zML C.1.2.1 C.2.2.2.1 ω y (zws y bytes maxL ret) fr1 lo1 As σ (q, σ)) (hfr : fr1 + 1 ≤ fr) (hlo : 8 + (maxL + 11) + lo1 ≤ lo) (hst : st = As.reverse ++ rest) (hn : As.length = n) (hcat : (rest.map fun v => v.category).sum ≤ 8) (k : ∀ x : Int64, zG C ω nL E (K x) (pc + 3) lv (.long x :: rest) σ) : zG C ω nL E (zy1 o1 K) pc lv st σ := by
  intro v hv hE H locs ls hP hD hS hl
  subst hst
  cases hq : o1 with
  | none => rw [hq] at hv; cases hv
  | some q =>
    rw [hq] at hv
    have hFc := zFree hC.2.2.2.2.2.2.2.2.1 hD hS
    have hpre := zPreOf hC hP hD hS
    have hR : fr1 + 1 ≤ C.1.2.2.2.1.frames ∧ 8 + (maxL + 11) + lo1 ≤ C.1.2.2.2.1.locals := ⟨Nat.le_trans hfr hC.2.2.2.2.2.2.1, Nat.le_trans hlo hC.2.2.2.2.2.2.2.1⟩
    have cw := cwS (R := C.1.2.2.2.1) (s := C.1.2.2.2.2) (args := C.2.1.2.1) (rm := { frames := fr1, cells := 0, slots := 0, locals := lo1 }) (mc := 0) (ms := 0) n hC.2.2.2.2.1 hw.good rfl rfl rfl hw.2.2.2.2 hR
    refine va_calll (va_runS (As := As) (rest := rest) ⟨hC.1, hC.2.1, hC.2.2.1, hC.2.2.2.1, hC.2.2.2.2.1⟩ (hM q hq H.size) cw ⟨zBlind hC.2.2.2.2.2.2.2.2.2.1, fun U hU hW => ⟨rfl, hpre U hU hW⟩⟩ rfl hn hl.1 rfl (lv_room hcat) hd ⟨hC.2.2.2.2.2.2.2.2.2.2.2.1, hC.2.2.2.2.2.2.2.2.2.2.2.2⟩) hS (fun q _ h => hFc q h) hFc (fun r u t H1 locs1 ht hvm hw1 hB hz1 hk1 hS1 => ?_)
    obtain ⟨hP1, hK1, hD1⟩ := hB
    rw [ht] at hP1
    have e1 : r = q := congrArg Prod.fst hw1
    have e2 : u = σ := congrArg Prod.snd hw1
    subst e1
    subst e2
    exact k r v hv hE H1 locs1 ls hP1 (hD1.weaken (fun _ z _ h => hFc z.1 h)) hS1 hl
set_option maxHeartbeats 1000000 in
theorem gg_callSV {S α : Type} {C : zK} {ω : zO S} {cc : ByteArray} {own : String} {nL fr lo pc idx maxL fr1 lo1 n : Nat} {E : α → Prop} {lv : List (Nat × Value)} {st : List Value} {σ : S} {y : MethodName} {bytes : ByteArray} {ret : Option FieldType} {As rest : List Value} {o1 : Option (S)} {K : S → Option α} (hC : zOK C ω cc own nL fr lo) (hd : decode cc pc = .ok (.invokestatic idx, 3)) (hw : zCS own idx y bytes maxL ret n) (hM : ∀ q, o1 = some q → zMV C.1.2.1 C.2.2.2.1 ω y (zws y bytes maxL ret) fr1 lo1 As σ q) (hfr : fr1 + 1 ≤ fr) (hlo : 8 + (maxL + 11) + lo1 ≤ lo) (hst : st = As.reverse ++ rest) (hn : As.length = n) (hcat : (rest.map fun v => v.category).sum ≤ 8) (k : ∀ τ : S, zG C ω nL E (K τ) (pc + 3) lv rest τ) : zG C ω nL E (zy1 o1 K) pc lv st σ := by
  intro v hv hE H locs ls hP hD hS hl
  subst hst
  cases hq : o1 with
  | none => rw [hq] at hv; cases hv
  | some q =>
    rw [hq] at hv
    have hFc := zFree hC.2.2.2.2.2.2.2.2.1 hD hS
    have hpre := zPreOf hC hP hD hS
    have hR : fr1 + 1 ≤ C.1.2.2.2.1.frames ∧ 8 + (maxL + 11) + lo1 ≤ C.1.2.2.2.1.locals := ⟨Nat.le_trans hfr hC.2.2.2.2.2.2.1, Nat.le_trans hlo hC.2.2.2.2.2.2.2.1⟩
    have cw := cwS (R := C.1.2.2.2.1) (s := C.1.2.2.2.2) (args := C.2.1.2.1) (rm := { frames := fr1, cells := 0, slots := 0, locals := lo1 }) (mc := 0) (ms := 0) n hC.2.2.2.2.1 hw.good rfl rfl rfl hw.2.2.2.2 hR
    refine va_callv (va_runS (As := As) (rest := rest) ⟨hC.1, hC.2.1, hC.2.2.1, hC.2.2.2.1, hC.2.2.2.2.1⟩ (hM q hq H.size) cw ⟨zBlind hC.2.2.2.2.2.2.2.2.2.1, fun U hU hW => ⟨rfl, hpre U hU hW⟩⟩ rfl hn hl.1 rfl (lv_room hcat) hd ⟨hC.2.2.2.2.2.2.2.2.2.2.2.1, hC.2.2.2.2.2.2.2.2.2.2.2.2⟩) hS (fun q _ h => hFc q h) hFc (fun u t H1 locs1 ht hvm hw1 hB hz1 hk1 hS1 => ?_)
    obtain ⟨hP1, hK1, hD1⟩ := hB
    rw [ht] at hP1
    have e : u = q := hw1
    subst e
    exact k u v hv hE H1 locs1 ls hP1 (hD1.weaken (fun _ z _ h => hFc z.1 h)) hS1 hl
theorem gg_iretr {S : Type} {C : zK} {ω : zO S} {cc : ByteArray} {nL pc : Nat} {lv : List (Nat × Value)} {σ : S} {r x : Int32} (hR : zRI C ω nL cc (r, σ)) (hd : decode cc pc = .ok (.ireturn, 1)) : zG C ω nL (fun v => v = r) (some x) pc lv [.int x] σ := gg_y (fun h => hR pc lv x σ hd (by rw [h]))
theorem gg_zretr {S : Type} {C : zK} {ω : zO S} {cc : ByteArray} {nL pc : Nat} {lv : List (Nat × Value)} {σ : S} {r x : Int32} (hR : zRZ C ω nL cc (r, σ)) (hd : decode cc pc = .ok (.ireturn, 1)) (hn : narrow .boolean (.int x) = .int x) : zG C ω nL (fun v => v = r) (some x) pc lv [.int x] σ := gg_y (fun h => hR pc lv x σ hd hn (by rw [h]))
theorem gg_zretgr {S : Type} {C : zK} {ω : zO S} {cc : ByteArray} {nL pc : Nat} {lv : List (Nat × Value)} {σ : S} {r x : Int32} (hR : zRZ C ω nL cc (r, σ)) (hd : decode cc pc = .ok (.ireturn, 1)) : zG C ω nL (fun v => v = r) (zg (zz x) (some x)) pc lv [.int x] σ := by
  intro v hv hE
  unfold zg at hv
  split at hv
  · next h => exact gg_zretr hR hd (zz_n h) v hv hE
  · cases hv
theorem gg_lretr {S : Type} {C : zK} {ω : zO S} {cc : ByteArray} {nL pc : Nat} {lv : List (Nat × Value)} {σ : S} {r x : Int64} (hR : zRL C ω nL cc (r, σ)) (hd : decode cc pc = .ok (.lreturn, 1)) : zG C ω nL (fun v => v = r) (some x) pc lv [.long x] σ := gg_y (fun h => hR pc lv x σ hd (by rw [h]))
theorem zm_Ir {S : Type} {l : Launch} {D : va_G} {ω : zO S} {y : MethodName} {cc : ByteArray} {maxL fr lo : Nat} {av : List Value} {lv : List (Nat × Value)} {σ : S} {o : Option Int32} {r : Int32} (hy : plainName y.cls = true) (hX : zX ω.2.2) (hle : (lg_sl av).length ≤ maxL) (hlv : lv_args 0 av = lv)
    (body : ∀ C : zK, C.1.2.1 = l → C.2.2.2.1 = D → zOK C ω cc y.cls maxL fr lo → zRI C ω maxL cc (r, σ) → zG C ω maxL (fun v => v = r) o 0 lv [] σ) (h : o = some r) : zMI l D ω y (zws y cc maxL (some .int)) fr lo av σ (r, σ) :=
  zm_I (o := some (r, σ)) hy hX hle hlv (fun C h1 h2 hC hR v hv _ => body C h1 h2 hC hR r h rfl) rfl
theorem zm_Zr {S : Type} {l : Launch} {D : va_G} {ω : zO S} {y : MethodName} {cc : ByteArray} {maxL fr lo : Nat} {av : List Value} {lv : List (Nat × Value)} {σ : S} {o : Option Int32} {r : Int32} (hy : plainName y.cls = true) (hX : zX ω.2.2) (hle : (lg_sl av).length ≤ maxL) (hlv : lv_args 0 av = lv)
    (body : ∀ C : zK, C.1.2.1 = l → C.2.2.2.1 = D → zOK C ω cc y.cls maxL fr lo → zRZ C ω maxL cc (r, σ) → zG C ω maxL (fun v => v = r) o 0 lv [] σ) (h : o = some r) : zMI l D ω y (zws y cc maxL (some .boolean)) fr lo av σ (r, σ) :=
  zm_Z (o := some (r, σ)) hy hX hle hlv (fun C h1 h2 hC hR v hv _ => body C h1 h2 hC hR r h rfl) rfl
theorem zm_Lr {S : Type} {l : Launch} {D : va_G} {ω : zO S} {y : MethodName} {cc : ByteArray} {maxL fr lo : Nat} {av : List Value} {lv : List (Nat × Value)} {σ : S} {o : Option Int64} {r : Int64} (hy : plainName y.cls = true) (hX : zX ω.2.2) (hle : (lg_sl av).length ≤ maxL) (hlv : lv_args 0 av = lv)
    (body : ∀ C : zK, C.1.2.1 = l → C.2.2.2.1 = D → zOK C ω cc y.cls maxL fr lo → zRL C ω maxL cc (r, σ) → zG C ω maxL (fun v => v = r) o 0 lv [] σ) (h : o = some r) : zML l D ω y (zws y cc maxL (some .long)) fr lo av σ (r, σ) :=
  zm_L (o := some (r, σ)) hy hX hle hlv (fun C h1 h2 hC hR v hv _ => body C h1 h2 hC hR r h rfl) rfl
theorem gg_mabs {S α : Type} {C : zK} {ω : zO S} {cc : ByteArray} {own : String} {nL fr lo pc idx : Nat} {E : α → Prop} {o : Option α} {lv : List (Nat × Value)} {st : List Value} {σ : S} {x : Int32} (hC : zOK C ω cc own nL fr lo) (hd : decode cc pc = .ok (.invokestatic idx, 3)) (hw : Cond.methodLink own idx Lib.Math.abs.name ∈ zT ∧ Cond.static Lib.Math.abs.name ∈ zT ∧ Cond.initialized "java/lang/Math" ∈ zT ∧ Cond.code Lib.Math.abs.name Lib.Math.abs.code 1 (some .int) ∈ zT) (hfr : 1 ≤ fr) (hlo : (st.map fun v => v.category).sum + 13 ≤ lo) (k : zG C ω nL E o (pc + 3) lv (.int (if 0 ≤ x then x else 0 - x) :: st) σ) : zG C ω nL E o pc lv (.int x :: st) σ :=
  fun v hv hE H locs ls hP hD hS hl => va_mabs hC.1 hC.2.1 (by rw [hC.2.2.1]; exact hl.1.symm) hC.2.2.2.1 (hC.2.2.2.2.1 _ hw.1) (hC.2.2.2.2.1 _ hw.2.1) (hC.2.2.2.2.1 _ hw.2.2.1) (hC.2.2.2.2.1 _ hw.2.2.2) (Nat.le_trans hfr hC.2.2.2.2.2.2.1) (Nat.le_trans hlo hC.2.2.2.2.2.2.2.1) hC.2.2.2.2.2.2.2.2.2.2.2.1 hC.2.2.2.2.2.2.2.2.2.2.2.2 hd (k v hv hE H locs ls hP hD hS hl)
theorem gg_mmax {S α : Type} {C : zK} {ω : zO S} {cc : ByteArray} {own : String} {nL fr lo pc idx : Nat} {E : α → Prop} {o : Option α} {lv : List (Nat × Value)} {st : List Value} {σ : S} {x y : Int32} (hC : zOK C ω cc own nL fr lo) (hd : decode cc pc = .ok (.invokestatic idx, 3)) (hw : Cond.methodLink own idx Lib.Math.max.name ∈ zT ∧ Cond.static Lib.Math.max.name ∈ zT ∧ Cond.initialized "java/lang/Math" ∈ zT ∧ Cond.code Lib.Math.max.name Lib.Math.max.code 2 (some .int) ∈ zT) (hfr : 1 ≤ fr) (hlo : (st.map fun v => v.category).sum + 13 ≤ lo) (k : zG C ω nL E o (pc + 3) lv (.int (if x < y then y else x) :: st) σ) : zG C ω nL E o pc lv (.int y :: .int x :: st) σ :=
  fun v hv hE H locs ls hP hD hS hl => va_mmax hC.1 hC.2.1 (by rw [hC.2.2.1]; exact hl.1.symm) hC.2.2.2.1 (hC.2.2.2.2.1 _ hw.1) (hC.2.2.2.2.1 _ hw.2.1) (hC.2.2.2.2.1 _ hw.2.2.1) (hC.2.2.2.2.1 _ hw.2.2.2) (Nat.le_trans hfr hC.2.2.2.2.2.2.1) (Nat.le_trans hlo hC.2.2.2.2.2.2.2.1) hC.2.2.2.2.2.2.2.2.2.2.2.1 hC.2.2.2.2.2.2.2.2.2.2.2.2 hd (k v hv hE H locs ls hP hD hS hl)
theorem gg_mmin {S α : Type} {C : zK} {ω : zO S} {cc : ByteArray} {own : String} {nL fr lo pc idx : Nat} {E : α → Prop} {o : Option α} {lv : List (Nat × Value)} {st : List Value} {σ : S} {x y : Int32} (hC : zOK C ω cc own nL fr lo) (hd : decode cc pc = .ok (.invokestatic idx, 3)) (hw : Cond.methodLink own idx Lib.Math.min.name ∈ zT ∧ Cond.static Lib.Math.min.name ∈ zT ∧ Cond.initialized "java/lang/Math" ∈ zT ∧ Cond.code Lib.Math.min.name Lib.Math.min.code 2 (some .int) ∈ zT) (hfr : 1 ≤ fr) (hlo : (st.map fun v => v.category).sum + 13 ≤ lo) (k : zG C ω nL E o (pc + 3) lv (.int (if y < x then y else x) :: st) σ) : zG C ω nL E o pc lv (.int y :: .int x :: st) σ :=
  fun v hv hE H locs ls hP hD hS hl => va_mmin hC.1 hC.2.1 (by rw [hC.2.2.1]; exact hl.1.symm) hC.2.2.2.1 (hC.2.2.2.2.1 _ hw.1) (hC.2.2.2.2.1 _ hw.2.1) (hC.2.2.2.2.1 _ hw.2.2.1) (hC.2.2.2.2.1 _ hw.2.2.2) (Nat.le_trans hfr hC.2.2.2.2.2.2.1) (Nat.le_trans hlo hC.2.2.2.2.2.2.2.1) hC.2.2.2.2.2.2.2.2.2.2.2.1 hC.2.2.2.2.2.2.2.2.2.2.2.2 hd (k v hv hE H locs ls hP hD hS hl)
theorem gg_mabsl {S α : Type} {C : zK} {ω : zO S} {cc : ByteArray} {own : String} {nL fr lo pc idx : Nat} {E : α → Prop} {o : Option α} {lv : List (Nat × Value)} {st : List Value} {σ : S} {x : Int64} (hC : zOK C ω cc own nL fr lo) (hd : decode cc pc = .ok (.invokestatic idx, 3)) (hw : Cond.methodLink own idx Lib.MathLoose.abs_long.x ∈ zT ∧ Cond.static Lib.MathLoose.abs_long.x ∈ zT ∧ Cond.initialized "java/lang/Math" ∈ zT ∧ Cond.code Lib.MathLoose.abs_long.x Lib.MathLoose.abs_long.code 2 (some .long) ∈ zT) (hfr : 1 ≤ fr) (hlo : (st.map fun v => v.category).sum + 13 ≤ lo) (k : zG C ω nL E o (pc + 3) lv (.long (if 0 < x then x else -x) :: st) σ) : zG C ω nL E o pc lv (.long x :: st) σ :=
  fun v hv hE H locs ls hP hD hS hl => va_mabs_long hC.1 hC.2.1 (by rw [hC.2.2.1]; exact hl.1.symm) hC.2.2.2.1 (hC.2.2.2.2.1 _ hw.1) (hC.2.2.2.2.1 _ hw.2.1) (hC.2.2.2.2.1 _ hw.2.2.1) (hC.2.2.2.2.1 _ hw.2.2.2) (Nat.le_trans hfr hC.2.2.2.2.2.2.1) (Nat.le_trans hlo hC.2.2.2.2.2.2.2.1) hC.2.2.2.2.2.2.2.2.2.2.2.1 hC.2.2.2.2.2.2.2.2.2.2.2.2 hd (k v hv hE H locs ls hP hD hS hl)
theorem gg_mmaxl {S α : Type} {C : zK} {ω : zO S} {cc : ByteArray} {own : String} {nL fr lo pc idx : Nat} {E : α → Prop} {o : Option α} {lv : List (Nat × Value)} {st : List Value} {σ : S} {x y : Int64} (hC : zOK C ω cc own nL fr lo) (hd : decode cc pc = .ok (.invokestatic idx, 3)) (hw : Cond.methodLink own idx Lib.MathLoose.max_long.x ∈ zT ∧ Cond.static Lib.MathLoose.max_long.x ∈ zT ∧ Cond.initialized "java/lang/Math" ∈ zT ∧ Cond.code Lib.MathLoose.max_long.x Lib.MathLoose.max_long.code 4 (some .long) ∈ zT) (hfr : 1 ≤ fr) (hlo : (st.map fun v => v.category).sum + 15 ≤ lo) (k : zG C ω nL E o (pc + 3) lv (.long (if y < x then x else y) :: st) σ) : zG C ω nL E o pc lv (.long y :: .long x :: st) σ :=
  fun v hv hE H locs ls hP hD hS hl => va_mmax_long hC.1 hC.2.1 (by rw [hC.2.2.1]; exact hl.1.symm) hC.2.2.2.1 (hC.2.2.2.2.1 _ hw.1) (hC.2.2.2.2.1 _ hw.2.1) (hC.2.2.2.2.1 _ hw.2.2.1) (hC.2.2.2.2.1 _ hw.2.2.2) (Nat.le_trans hfr hC.2.2.2.2.2.2.1) (Nat.le_trans hlo hC.2.2.2.2.2.2.2.1) hC.2.2.2.2.2.2.2.2.2.2.2.1 hC.2.2.2.2.2.2.2.2.2.2.2.2 hd (k v hv hE H locs ls hP hD hS hl)
theorem gg_mminl {S α : Type} {C : zK} {ω : zO S} {cc : ByteArray} {own : String} {nL fr lo pc idx : Nat} {E : α → Prop} {o : Option α} {lv : List (Nat × Value)} {st : List Value} {σ : S} {x y : Int64} (hC : zOK C ω cc own nL fr lo) (hd : decode cc pc = .ok (.invokestatic idx, 3)) (hw : Cond.methodLink own idx Lib.MathLoose.min_long.x ∈ zT ∧ Cond.static Lib.MathLoose.min_long.x ∈ zT ∧ Cond.initialized "java/lang/Math" ∈ zT ∧ Cond.code Lib.MathLoose.min_long.x Lib.MathLoose.min_long.code 4 (some .long) ∈ zT) (hfr : 1 ≤ fr) (hlo : (st.map fun v => v.category).sum + 15 ≤ lo) (k : zG C ω nL E o (pc + 3) lv (.long (if y < x then y else x) :: st) σ) : zG C ω nL E o pc lv (.long y :: .long x :: st) σ :=
  fun v hv hE H locs ls hP hD hS hl => va_mmin_long hC.1 hC.2.1 (by rw [hC.2.2.1]; exact hl.1.symm) hC.2.2.2.1 (hC.2.2.2.2.1 _ hw.1) (hC.2.2.2.2.1 _ hw.2.1) (hC.2.2.2.2.1 _ hw.2.2.1) (hC.2.2.2.2.1 _ hw.2.2.2) (Nat.le_trans hfr hC.2.2.2.2.2.2.1) (Nat.le_trans hlo hC.2.2.2.2.2.2.2.1) hC.2.2.2.2.2.2.2.2.2.2.2.1 hC.2.2.2.2.2.2.2.2.2.2.2.2 hd (k v hv hE H locs ls hP hD hS hl)

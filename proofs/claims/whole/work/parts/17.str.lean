theorem zSX {C : zK} {A : Nat → Nat} {cA : Nat → ClassId} {cc : ByteArray} {own : String} {nL fr lo : Nat} (hC : zOK C (wX A cA) cc own nL fr lo) : sX A C.2.2.2.2.1 C.1.2.2.2.2 C.1.2.2.2.2.heap := hC.2.2.2.2.2.2.2.2.2.2.1
def sCh (t k : Nat) : Int32 := (([[100, 101, 110, 115, 101], [107, 110, 111, 119, 110]] : List (List Int32)).getD t []).getD k 0
theorem sCh_c : ∀ t, t < 2 → ∀ k, k < 5 → ((sCh t k &&& 255).toUInt32 % 65536).toInt32 = sCh t k ∧ narrow .char (.int (sCh t k)) = .int (sCh t k) := by decide +kernel
theorem sLen : ∀ t, t < 2 → ([5, 5] : List Nat).getD t 0 = 5 := by decide +kernel
def zCT (own : String) (idx : Nat) (y : MethodName) (bytes : ByteArray) (maxL : Nat) (ret : Option FieldType) (n : Nat) : Prop :=
  Cond.methodLink own idx y ∈ zT ∧ Cond.static y ∈ zT ∧ Cond.initialized y.cls ∈ zT ∧ Cond.code y bytes maxL ret ∈ zT ∧ (y.cls ≠ "java/lang/invoke/MethodHandle" ∧ y.cls ≠ "java/lang/invoke/VarHandle" ∧ (parseMethodDescriptor y.desc).map (fun d => d.parameters.length) = some n)
theorem zCT.good {own : String} {idx maxL n : Nat} {y : MethodName} {bytes : ByteArray} {ret : Option FieldType} (h : zCT own idx y bytes maxL ret n) : GoodIn zT (va_wsS own idx y (zws y bytes maxL ret)) := by
  obtain ⟨h1, h2, h3, h4, -⟩ := h
  refine zGood (fun w hw => ?_)
  simp only [va_wsS, zws, List.cons_append, List.nil_append, List.mem_cons] at hw
  rcases hw with rfl | rfl | rfl | rfl | hw
  · exact h1
  · exact h2
  · exact h3
  · exact h4
  · exact hw
set_option maxHeartbeats 1000000 in
theorem gg_callTIr {S α : Type} {C : zK} {ω : zO S} {cc : ByteArray} {own : String} {nL fr lo pc idx maxL fr1 lo1 n : Nat} {E : α → Prop} {lv : List (Nat × Value)} {st : List Value} {σ : S} {y : MethodName} {bytes : ByteArray} {ret : Option FieldType} {As rest : List Value} {o1 : Option (Int32)} {K : Int32 → Option α} (hC : zOK C ω cc own nL fr lo) (hd : decode cc pc = .ok (.invokestatic idx, 3)) (hw : zCT own idx y bytes maxL ret n) (hM : ∀ q, o1 = some q → zMI C.1.2.1 C.2.2.2.1 ω y (zws y bytes maxL ret) fr1 lo1 As σ (q, σ)) (hfr : fr1 + 1 ≤ fr) (hlo : 8 + (maxL + 11) + lo1 ≤ lo) (hst : st = As.reverse ++ rest) (hn : As.length = n) (hcat : (rest.map fun v => v.category).sum ≤ 8) (k : ∀ x : Int32, zG C ω nL E (K x) (pc + 3) lv (.int x :: rest) σ) : zG C ω nL E (zy1 o1 K) pc lv st σ := by
  intro v hv hE H locs ls hP hD hS hl
  subst hst
  cases hq : o1 with
  | none => rw [hq] at hv; cases hv
  | some q =>
    rw [hq] at hv
    have hFc := zFree hC.2.2.2.2.2.2.2.2.1 hD hS
    have hpre := zPreOf hC hP hD hS
    have hR : fr1 + 1 ≤ C.1.2.2.2.1.frames ∧ 8 + (maxL + 11) + lo1 ≤ C.1.2.2.2.1.locals := ⟨Nat.le_trans hfr hC.2.2.2.2.2.2.1, Nat.le_trans hlo hC.2.2.2.2.2.2.2.1⟩
    have cw := va_cwS (R := C.1.2.2.2.1) (s := C.1.2.2.2.2) (args := C.2.1.2.1) (rm := { frames := fr1, cells := 0, slots := 0, locals := lo1 }) (mc := 0) (ms := 0) n hC.2.2.2.2.1 hw.good rfl rfl rfl hw.2.2.2.2 hR
    refine va_calli (va_runS (As := As) (rest := rest) ⟨hC.1, hC.2.1, hC.2.2.1, hC.2.2.2.1, hC.2.2.2.2.1⟩ (hM q hq H.size) cw ⟨zBlind hC.2.2.2.2.2.2.2.2.2.1, fun U hU hW => ⟨rfl, hpre U hU hW⟩⟩ rfl hn hl.1 rfl (lv_room hcat) hd ⟨hC.2.2.2.2.2.2.2.2.2.2.2.1, hC.2.2.2.2.2.2.2.2.2.2.2.2⟩) hS (fun q _ h => hFc q h) hFc (fun r u t H1 locs1 ht hvm hw1 hB hz1 hk1 hS1 => ?_)
    obtain ⟨hP1, hK1, hD1⟩ := hB
    rw [ht] at hP1
    have e1 : r = q := congrArg Prod.fst hw1
    have e2 : u = σ := congrArg Prod.snd hw1
    subst e1
    subst e2
    exact k r v hv hE H1 locs1 ls hP1 (hD1.weaken (fun _ z _ h => hFc z.1 h)) hS1 hl
set_option maxHeartbeats 1000000 in
theorem gg_callTV {S α : Type} {C : zK} {ω : zO S} {cc : ByteArray} {own : String} {nL fr lo pc idx maxL fr1 lo1 n : Nat} {E : α → Prop} {lv : List (Nat × Value)} {st : List Value} {σ : S} {y : MethodName} {bytes : ByteArray} {ret : Option FieldType} {As rest : List Value} {o1 : Option (S)} {K : S → Option α} (hC : zOK C ω cc own nL fr lo) (hd : decode cc pc = .ok (.invokestatic idx, 3)) (hw : zCT own idx y bytes maxL ret n) (hM : ∀ q, o1 = some q → zMV C.1.2.1 C.2.2.2.1 ω y (zws y bytes maxL ret) fr1 lo1 As σ q) (hfr : fr1 + 1 ≤ fr) (hlo : 8 + (maxL + 11) + lo1 ≤ lo) (hst : st = As.reverse ++ rest) (hn : As.length = n) (hcat : (rest.map fun v => v.category).sum ≤ 8) (k : ∀ τ : S, zG C ω nL E (K τ) (pc + 3) lv rest τ) : zG C ω nL E (zy1 o1 K) pc lv st σ := by
  intro v hv hE H locs ls hP hD hS hl
  subst hst
  cases hq : o1 with
  | none => rw [hq] at hv; cases hv
  | some q =>
    rw [hq] at hv
    have hFc := zFree hC.2.2.2.2.2.2.2.2.1 hD hS
    have hpre := zPreOf hC hP hD hS
    have hR : fr1 + 1 ≤ C.1.2.2.2.1.frames ∧ 8 + (maxL + 11) + lo1 ≤ C.1.2.2.2.1.locals := ⟨Nat.le_trans hfr hC.2.2.2.2.2.2.1, Nat.le_trans hlo hC.2.2.2.2.2.2.2.1⟩
    have cw := va_cwS (R := C.1.2.2.2.1) (s := C.1.2.2.2.2) (args := C.2.1.2.1) (rm := { frames := fr1, cells := 0, slots := 0, locals := lo1 }) (mc := 0) (ms := 0) n hC.2.2.2.2.1 hw.good rfl rfl rfl hw.2.2.2.2 hR
    refine va_callv (va_runS (As := As) (rest := rest) ⟨hC.1, hC.2.1, hC.2.2.1, hC.2.2.2.1, hC.2.2.2.2.1⟩ (hM q hq H.size) cw ⟨zBlind hC.2.2.2.2.2.2.2.2.2.1, fun U hU hW => ⟨rfl, hpre U hU hW⟩⟩ rfl hn hl.1 rfl (lv_room hcat) hd ⟨hC.2.2.2.2.2.2.2.2.2.2.2.1, hC.2.2.2.2.2.2.2.2.2.2.2.2⟩) hS (fun q _ h => hFc q h) hFc (fun u t H1 locs1 ht hvm hw1 hB hz1 hk1 hS1 => ?_)
    obtain ⟨hP1, hK1, hD1⟩ := hB
    rw [ht] at hP1
    have e : u = q := hw1
    subst e
    exact k u v hv hE H1 locs1 ls hP1 (hD1.weaken (fun _ z _ h => hFc z.1 h)) hS1 hl
set_option maxHeartbeats 1000000 in
theorem gg_callUIr {α : Type} {C : zK} {A : Nat → Nat} {cA : Nat → ClassId} {t : Nat} {cc : ByteArray} {own : String} {nL fr lo pc idx maxL fr1 lo1 n : Nat} {E : α → Prop} {lv : List (Nat × Value)} {st : List Value} {σ : zS} {y : MethodName} {bytes : ByteArray} {ret : Option FieldType} {As rest : List Value}  {o1 : Option (Int32)} {K : Int32 → Option α} (hC : zOK C (wX A cA) cc own nL fr lo) (hd : decode cc pc = .ok (.invokevirtual idx, 3)) (hw : zCV own idx "java/lang/String" y bytes maxL ret n) (hM : ∀ q, o1 = some q → zMI C.1.2.1 C.2.2.2.1 (wX A cA) y (zws y bytes maxL ret) fr1 lo1 (.ref (A (100 + t)) :: As) σ (q, σ)) (hfr : fr1 + 1 ≤ fr) (hlo : 8 + (maxL + 11) + lo1 ≤ lo) (hst : st = As.reverse ++ .ref (A (100 + t)) :: rest) (hn : As.length = n) (hcat : (rest.map fun v => v.category).sum ≤ 8) (ht : t < 2) (k : ∀ x : Int32, zG C (wX A cA) nL E (K x) (pc + 3) lv (.int x :: rest) σ) : zG C (wX A cA) nL E (zy1 o1 K) pc lv st σ := by
  intro v hv hE H locs ls hP hD hS hl
  subst hst
  cases hq : o1 with
  | none => rw [hq] at hv; cases hv
  | some q =>
    rw [hq] at hv
    have hFc := zFree hC.2.2.2.2.2.2.2.2.1 hD hS
    have hpre := zPreOf hC hP hD hS
    have hR : fr1 + 1 ≤ C.1.2.2.2.1.frames ∧ 8 + (maxL + 11) + lo1 ≤ C.1.2.2.2.1.locals := ⟨Nat.le_trans hfr hC.2.2.2.2.2.2.1, Nat.le_trans hlo hC.2.2.2.2.2.2.2.1⟩
    have cw := cwV (R := C.1.2.2.2.1) (s := C.1.2.2.2.2) (args := C.2.1.2.1) (rm := { frames := fr1, cells := 0, slots := 0, locals := lo1 }) (mc := 0) (ms := 0) n hC.2.2.2.2.1 hw.good rfl rfl rfl hw.2.2.2.2.2 hR
    refine va_calli (va_runV (As := As) (rest := rest) ⟨hC.1, hC.2.1, hC.2.2.1, hC.2.2.2.1, hC.2.2.2.2.1⟩ (hM q hq H.size) cw ⟨zBlind hC.2.2.2.2.2.2.2.2.2.1, vk_recv (zSX hC).1 ht hS, fun U hU hW => ⟨rfl, hpre U hU hW⟩⟩ rfl hn hl.1 rfl (lv_room hcat) hd ⟨hC.2.2.2.2.2.2.2.2.2.2.2.1, hC.2.2.2.2.2.2.2.2.2.2.2.2⟩) hS (fun q _ h => hFc q h) hFc (fun r u t H1 locs1 ht hvm hw1 hB hz1 hk1 hS1 => ?_)
    obtain ⟨hP1, hK1, hD1⟩ := hB
    rw [ht] at hP1
    have e1 : r = q := congrArg Prod.fst hw1
    have e2 : u = σ := congrArg Prod.snd hw1
    subst e1
    subst e2
    exact k r v hv hE H1 locs1 ls hP1 (hD1.weaken (fun _ z _ h => hFc z.1 h)) hS1 hl
def zRT (ty : FieldType) {S : Type} (C : zK) (ω : zO S) (nL : Nat) (cc : ByteArray) (r : Int32 × S) : Prop := ∀ (pc : Nat) (lv : List (Nat × Value)) (x : Int32) (τ : S), decode cc pc = .ok (.ireturn, 1) → narrow ty (.int x) = .int x → (x, τ) = r → zW C ω nL pc lv [.int x] τ
set_option maxHeartbeats 4000000 in
theorem zm_T {S : Type} {ty : FieldType} {l : Launch} {D : va_G} {ω : zO S} {y : MethodName} {cc : ByteArray} {maxL fr lo : Nat} {av : List Value} {lv : List (Nat × Value)} {σ : S} {o : Option (Int32 × S)} {r : Int32 × S} (hy : plainName y.cls = true) (hX : zX ω.2.2) (hle : (lg_sl av).length ≤ maxL) (hlv : lv_args 0 av = lv)
    (body : ∀ C : zK, C.1.2.1 = l → C.2.2.2.1 = D → zOK C ω cc y.cls maxL fr lo → zRT ty C ω maxL cc r → zG C ω maxL (fun v => v = r) o 0 lv [] σ) (h : o = some r) : zMI l D ω y (zws y cc maxL (some ty)) fr lo av σ r := by
  intro sz
  refine Met.ofW (cc := cc) (maxL := maxL) (ret := some ty) hy rfl ?_
  intro p e s m args below meth c s₁ B hml hv
  obtain ⟨rfl, hsz, hP, hK, hD0, hx0⟩ := hv
  have hts := atoms_spec (ws := zws y cc maxL (some ty)) B.pre
  have hown : s.vm.findClass y.cls = some m.cls := findClass_of_methodNamed B.named
  subst hsz
  have hl := lv_entry av (n := maxL) hle
  rw [lg_entry_eq]
  rw [hlv] at hl
  let C : zK := ((p, l, e, (headSpec (zws y cc maxL (some ty)) { frames := fr, cells := 0, slots := 0, locals := lo }).room, s), (m, av.toArray, below, meth, c), (MQ below (va_Qi (fun (x : Int32) (τ : S) => (x, τ) = r) (zPost D ω σ s.heap.size) (va_A (ω.1 σ) s.heap.size)) av.toArray s 0 0 (va_A (ω.1 σ) s.heap.size), D, va_A (ω.1 σ) s.heap.size, 0, 0))
  have hb := B.bytes
  have hr := B.returns
  have hlocks := B.notSynchronized
  have hxx := B.exec
  have hC : zOK C ω cc y.cls maxL fr lo := ⟨B.exec, B.bytes, hml, hown, zws_spec hts, hK, Nat.le_refl _, Nat.le_refl _, fun q h => Or.inr h, hX, hx0, Nat.zero_le _, Nat.zero_le _⟩
  have hR : zRT ty C ω maxL cc r := by
    intro pc lv' x τ hd hn hr' H locs ls qP qD qS ql
    exact W.zret (v := x) (ty := ty) hxx hb hr hn (fun t ht hW => ⟨⟨x, τ, rfl, hr', by rw [ht]; exact qP, va_K.moved hW.alike hK, qD⟩, qS.F ht⟩) qS.2.2 hd
  exact body C rfl rfl hC hR r h rfl s.heap [] _ hP hD0.self va_S.rf hl
theorem gg_tret {S : Type} {C : zK} {ω : zO S} {cc : ByteArray} {nL pc : Nat} {lv : List (Nat × Value)} {σ : S} {ty : FieldType} {r x : Int32} (hR : zRT ty C ω nL cc (r, σ)) (hd : decode cc pc = .ok (.ireturn, 1)) (hn : narrow ty (.int x) = .int x) : zG C ω nL (fun v => v = r) (some x) pc lv [.int x] σ := gg_y (fun h => hR pc lv x σ hd hn (by rw [h]))
theorem zm_Tr {S : Type} {ty : FieldType} {l : Launch} {D : va_G} {ω : zO S} {y : MethodName} {cc : ByteArray} {maxL fr lo : Nat} {av : List Value} {lv : List (Nat × Value)} {σ : S} {o : Option Int32} {r : Int32} (hy : plainName y.cls = true) (hX : zX ω.2.2) (hle : (lg_sl av).length ≤ maxL) (hlv : lv_args 0 av = lv)
    (body : ∀ C : zK, C.1.2.1 = l → C.2.2.2.1 = D → zOK C ω cc y.cls maxL fr lo → zRT ty C ω maxL cc (r, σ) → zG C ω maxL (fun v => v = r) o 0 lv [] σ) (h : o = some r) : zMI l D ω y (zws y cc maxL (some ty)) fr lo av σ (r, σ) :=
  zm_T (o := some (r, σ)) hy hX hle hlv (fun C h1 h2 hC hR v hv _ => body C h1 h2 hC hR r h rfl) rfl
theorem gg_str0 {α : Type} {C : zK} {A : Nat → Nat} {cA : Nat → ClassId} {cc : ByteArray} {nL fr lo pc : Nat} {E : α → Prop} {o : Option α} {lv : List (Nat × Value)} {st : List Value} {σ : zS} (hC : zOK C (wX A cA) cc RX6 nL fr lo) (hd : decode cc pc = .ok (.ldc 154, 2)) (k : zG C (wX A cA) nL E o (pc + 2) lv (.ref (A (100 + 0)) :: st) σ) : zG C (wX A cA) nL E o pc lv st σ :=
  fun v hv hE H locs ls hP hD hS hl => va_ldcS (own := RX6) hC.1 hC.2.1 hC.2.2.2.1 (zSX hC).2.1.1 hd (k v hv hE H locs ls hP hD hS hl)
theorem gg_str1 {α : Type} {C : zK} {A : Nat → Nat} {cA : Nat → ClassId} {cc : ByteArray} {nL fr lo pc : Nat} {E : α → Prop} {o : Option α} {lv : List (Nat × Value)} {st : List Value} {σ : zS} (hC : zOK C (wX A cA) cc RX6 nL fr lo) (hd : decode cc pc = .ok (.ldc 160, 2)) (k : zG C (wX A cA) nL E o (pc + 2) lv (.ref (A (100 + 1)) :: st) σ) : zG C (wX A cA) nL E o pc lv st σ :=
  fun v hv hE H locs ls hP hD hS hl => va_ldcS (own := RX6) hC.1 hC.2.1 hC.2.2.2.1 (zSX hC).2.1.2 hd (k v hv hE H locs ls hP hD hS hl)
theorem jL9 : Cond.fieldLink RJ0 9 "java/lang/String" "value" "[B" ∈ zT := zT_t 1293 (by decide +kernel) (by decide +kernel)
theorem jL15 : Cond.fieldLink RJ0 15 "java/lang/String" "coder" "B" ∈ zT := zT_t 1294 (by decide +kernel) (by decide +kernel)
theorem jL38 : Cond.fieldLink RJ0 38 "java/lang/String" "COMPACT_STRINGS" "Z" ∈ zT := zT_t 387 (by decide +kernel) (by decide +kernel)
theorem jL1053 : Cond.fieldLink RJ0 1053 "jdk/internal/util/Preconditions" "SIOOBE_FORMATTER" "Ljava/util/function/BiFunction;" ∈ zT := zT_t 403 (by decide +kernel) (by decide +kernel)
theorem gg_sval {α : Type} {C : zK} {A : Nat → Nat} {cA : Nat → ClassId} {cc : ByteArray} {nL fr lo pc : Nat} {E : α → Prop} {o : Option α} {lv : List (Nat × Value)} {st : List Value} {σ : zS} {t : Nat} (hC : zOK C (wX A cA) cc RJ0 nL fr lo) (hd : decode cc pc = .ok (.getfield 9, 3)) (ht : t < 2) (k : zG C (wX A cA) nL E o (pc + 3) lv (.ref (A (110 + t)) :: st) σ) : zG C (wX A cA) nL E o pc lv (.ref (A (100 + t)) :: st) σ :=
  fun v hv hE H locs ls hP hD hS hl => vk_getf hC.1 hC.2.1 ((zSX hC).1.1 t ht).2.2.1 hS hC.2.2.2.1 (hC.2.2.2.2.1 _ jL9) (fun _ h => h) hd (k v hv hE H locs ls hP hD hS hl)
theorem gg_scod {α : Type} {C : zK} {A : Nat → Nat} {cA : Nat → ClassId} {cc : ByteArray} {nL fr lo pc : Nat} {E : α → Prop} {o : Option α} {lv : List (Nat × Value)} {st : List Value} {σ : zS} {t : Nat} (hC : zOK C (wX A cA) cc RJ0 nL fr lo) (hd : decode cc pc = .ok (.getfield 15, 3)) (ht : t < 2) (k : zG C (wX A cA) nL E o (pc + 3) lv (.int 0 :: st) σ) : zG C (wX A cA) nL E o pc lv (.ref (A (100 + t)) :: st) σ :=
  fun v hv hE H locs ls hP hD hS hl => vk_getf hC.1 hC.2.1 ((zSX hC).1.1 t ht).2.1 hS hC.2.2.2.1 (hC.2.2.2.2.1 _ jL15) (fun _ h => h) hd (k v hv hE H locs ls hP hD hS hl)
theorem gg_scs {α : Type} {C : zK} {A : Nat → Nat} {cA : Nat → ClassId} {cc : ByteArray} {nL fr lo pc : Nat} {E : α → Prop} {o : Option α} {lv : List (Nat × Value)} {st : List Value} {σ : zS} (hC : zOK C (wX A cA) cc RJ0 nL fr lo) (hd : decode cc pc = .ok (.getstatic 38, 3)) (k : zG C (wX A cA) nL E o (pc + 3) lv (.int 1 :: st) σ) : zG C (wX A cA) nL E o pc lv st σ :=
  fun v hv hE H locs ls hP hD hS hl => va_gets hC.1 hC.2.1 (zSX hC).2.2.1 hS hC.2.2.2.1 (hC.2.2.2.2.1 _ jL38) (fun _ h => h) hd (k v hv hE H locs ls hP hD hS hl)
theorem gg_sfm {α : Type} {C : zK} {A : Nat → Nat} {cA : Nat → ClassId} {cc : ByteArray} {nL fr lo pc : Nat} {E : α → Prop} {o : Option α} {lv : List (Nat × Value)} {st : List Value} {σ : zS} (hC : zOK C (wX A cA) cc RJ0 nL fr lo) (hd : decode cc pc = .ok (.getstatic 1053, 3)) (k : ∀ w : Value, w.category = 1 → zG C (wX A cA) nL E o (pc + 3) lv (w :: st) σ) : zG C (wX A cA) nL E o pc lv st σ := by
  intro v hv hE H locs ls hP hD hS hl
  rcases (zSX hC).2.2.2 with hZ | ⟨t, hZ⟩
  · exact va_gets hC.1 hC.2.1 hZ hS hC.2.2.2.1 (hC.2.2.2.2.1 _ jL1053) (fun _ h => h) hd (k .null rfl v hv hE H locs ls hP hD hS hl)
  · exact va_gets hC.1 hC.2.1 hZ hS hC.2.2.2.1 (hC.2.2.2.2.1 _ jL1053) (fun _ h => h) hd (k (.ref t) rfl v hv hE H locs ls hP hD hS hl)
theorem gg_sbl {α : Type} {C : zK} {A : Nat → Nat} {cA : Nat → ClassId} {cc : ByteArray} {nL fr lo pc : Nat} {E : α → Prop} {o : Option α} {lv : List (Nat × Value)} {st : List Value} {σ : zS} {own : String} {t : Nat} (hC : zOK C (wX A cA) cc own nL fr lo) (hd : decode cc pc = .ok (.arraylength, 1)) (ht : t < 2) (k : zG C (wX A cA) nL E o (pc + 1) lv (.int 5 :: st) σ) : zG C (wX A cA) nL E o pc lv (.ref (A (110 + t)) :: st) σ :=
  fun v hv hE H locs ls hP hD hS hl => va_tlen hC.1 hC.2.1 ((zSX hC).1.1 t ht).2.2.2 hS (by rw [sLen t ht]; rfl) hd (k v hv hE H locs ls hP hD hS hl)
theorem gg_sbb {α : Type} {C : zK} {A : Nat → Nat} {cA : Nat → ClassId} {cc : ByteArray} {nL fr lo pc : Nat} {E : α → Prop} {o : Option α} {lv : List (Nat × Value)} {st : List Value} {σ : zS} {own : String} {t : Nat} {i : Int32} (hC : zOK C (wX A cA) cc own nL fr lo) (hd : decode cc pc = .ok (.baload, 1)) (ht : t < 2) (hi : vp_in i 5) (k : zG C (wX A cA) nL E o (pc + 1) lv (.int (sCh t i.toNatClampNeg) :: st) σ) : zG C (wX A cA) nL E o pc lv (.int i :: .ref (A (110 + t)) :: st) σ :=
  fun v hv hE H locs ls hP hD hS hl => va_tb hC.1 hC.2.1 ((zSX hC).1.1 t ht).2.2.2 hS (by rw [sLen t ht]; exact hi) rfl hd (k v hv hE H locs ls hP hD hS hl)
theorem gg_i2c {S α : Type} {C : zK} {ω : zO S} {cc : ByteArray} {own : String} {nL fr lo pc : Nat} {E : α → Prop} {o : Option α} {lv : List (Nat × Value)} {st : List Value} {σ : S} (hC : zOK C ω cc own nL fr lo) {x y : Int32} (hd : decode cc pc = .ok (.i2c, 1)) (hy : (x.toUInt32 % 65536).toInt32 = y) (k : zG C ω nL E o (pc + 1) lv (.int y :: st) σ) : zG C ω nL E o pc lv (.int x :: st) σ :=
  fun v hv hE H locs ls hP hD hS hl => lv_i2c hC.1 hC.2.1 hd hy (k v hv hE H locs ls hP hD hS hl)
theorem gg_prog {S α : Type} {C : zK} {ω : zO S} {nL pc : Nat} {E : α → Prop} {lv : List (Nat × Value)} {st : List Value} {σ : S} {o o' : Option α} (h : o = o') (k : zG C ω nL E o' pc lv st σ) : zG C ω nL E o pc lv st σ := h ▸ k
theorem gg_tretS {S : Type} {C : zK} {ω : zO S} {cc : ByteArray} {nL pc : Nat} {lv : List (Nat × Value)} {σ : S} {ty : FieldType} {r : Int32 × S} {x : Int32} (hR : zRT ty C ω nL cc r) (hd : decode cc pc = .ok (.ireturn, 1)) (hn : narrow ty (.int x) = .int x) : zG C ω nL (fun v => v = r) (some (x, σ)) pc lv [.int x] σ := gg_y (fun h => hR pc lv x σ hd hn h)
theorem vX6_409 : zCV RX6 409 "java/lang/String" yJ0_length_8abf5 cJ0_length_8abf5 1 (some .int) 0 := ⟨zT_t 379 (by decide +kernel) (by decide +kernel), zT_t 380 (by decide +kernel) (by decide +kernel), zT_t 381 (by decide +kernel) (by decide +kernel), zT_t 10 (by decide +kernel) (by decide +kernel), zT_t 382 (by decide +kernel) (by decide +kernel), by decide +kernel⟩
theorem vX6_414 : zCV RX6 414 "java/lang/String" yJ0_charAt_5068e cJ0_charAt_5068e 2 (some .char) 1 := ⟨zT_t 389 (by decide +kernel) (by decide +kernel), zT_t 390 (by decide +kernel) (by decide +kernel), zT_t 391 (by decide +kernel) (by decide +kernel), zT_t 10 (by decide +kernel) (by decide +kernel), zT_t 392 (by decide +kernel) (by decide +kernel), by decide +kernel⟩
theorem vJ0_335 : zCV RJ0 335 "java/lang/String" yJ0_coder_7d493 cJ0_coder_7d493 1 (some .byte) 0 := ⟨zT_t 383 (by decide +kernel) (by decide +kernel), zT_t 384 (by decide +kernel) (by decide +kernel), zT_t 385 (by decide +kernel) (by decide +kernel), zT_t 10 (by decide +kernel) (by decide +kernel), zT_t 386 (by decide +kernel) (by decide +kernel), by decide +kernel⟩
theorem vJ0_492 : zCV RJ0 492 "java/lang/String" yJ0_isLatin1_aae02 cJ0_isLatin1_aae02 1 (some .boolean) 0 := ⟨zT_t 393 (by decide +kernel) (by decide +kernel), zT_t 394 (by decide +kernel) (by decide +kernel), zT_t 395 (by decide +kernel) (by decide +kernel), zT_t 10 (by decide +kernel) (by decide +kernel), zT_t 396 (by decide +kernel) (by decide +kernel), by decide +kernel⟩
theorem cJ0_495 : zCT RJ0 495 yJ1_charAt_3b067 cJ1_charAt_3b067 2 (some .char) 2 := ⟨zT_t 397 (by decide +kernel) (by decide +kernel), zT_t 398 (by decide +kernel) (by decide +kernel), zT_t 11 (by decide +kernel) (by decide +kernel), zT_t 399 (by decide +kernel) (by decide +kernel), by decide +kernel⟩
theorem cJ1_9 : zCT RJ1 9 yJ0_checkIndex_df160 cJ0_checkIndex_df160 2 none 2 := ⟨zT_t 400 (by decide +kernel) (by decide +kernel), zT_t 401 (by decide +kernel) (by decide +kernel), zT_t 10 (by decide +kernel) (by decide +kernel), zT_t 402 (by decide +kernel) (by decide +kernel), by decide +kernel⟩
theorem cJ0_1059 : zCT RJ0 1059 yJ3_checkIndex_8e157 cJ3_checkIndex_8e157 3 (some .int) 3 := ⟨zT_t 405 (by decide +kernel) (by decide +kernel), zT_t 406 (by decide +kernel) (by decide +kernel), zT_t 12 (by decide +kernel) (by decide +kernel), zT_t 407 (by decide +kernel) (by decide +kernel), by decide +kernel⟩
set_option maxHeartbeats 4000000 in
set_option maxRecDepth 100000 in
theorem mJ_coder {l : Launch} {D : va_G} {A : Nat → Nat} {cA : Nat → ClassId} {σ : zS} {t : Nat} (ht : t < 2) : zMI l D (wX A cA) yJ0_coder_7d493 (zws yJ0_coder_7d493 cJ0_coder_7d493 1 (some .byte)) 0 0 [.ref (A (100 + t))] σ (0, σ) := by
  refine zm_Tr (o := some 0) (lv := [(0, .ref (A (100 + t)))]) rfl (sX_ok A) (Nat.le_of_ble_eq_true rfl) rfl (fun C _ _ hC hR => ?_) rfl
  refine gg_scs (pc := 0) hC dJ0_coder_7d493_0 ?_
  refine gg_prog (o' := if (1 : Int32) = 0 then none else some 0) rfl ?_
  refine gg_if_eq (pc := 3) hC dJ0_coder_7d493_3 (tgt := 13) rfl (fun h => absurd h (by decide)) (fun _ => ?_)
  refine gg_aload_n (pc := 6) hC dJ0_coder_7d493_6 (i := 0) rfl 0 rfl ?_
  refine gg_scod (pc := 7) hC dJ0_coder_7d493_7 ht ?_
  refine gg_goto (pc := 10) hC dJ0_coder_7d493_10 (tgt := 14) rfl ?_
  exact gg_tret (pc := 14) hR dJ0_coder_7d493_14 rfl
set_option maxHeartbeats 4000000 in
set_option maxRecDepth 100000 in
theorem mJ_length {l : Launch} {D : va_G} {A : Nat → Nat} {cA : Nat → ClassId} {σ : zS} {t : Nat} (ht : t < 2) : zMI l D (wX A cA) yJ0_length_8abf5 (zws yJ0_length_8abf5 cJ0_length_8abf5 1 (some .int)) 1 20 [.ref (A (100 + t))] σ (5, σ) := by
  refine zm_Ir (o := zy1 (some 0) (fun (x : Int32) => some (5 >>> (x &&& 31)))) (lv := [(0, .ref (A (100 + t)))]) rfl (sX_ok A) (Nat.le_of_ble_eq_true rfl) rfl (fun C _ _ hC hR => ?_) (by decide +kernel)
  refine gg_aload_n (pc := 0) hC dJ0_length_8abf5_0 (i := 0) rfl 0 rfl ?_
  refine gg_sval (pc := 1) hC dJ0_length_8abf5_1 ht ?_
  refine gg_sbl (pc := 4) hC dJ0_length_8abf5_4 ht ?_
  refine gg_aload_n (pc := 5) hC dJ0_length_8abf5_5 (i := 0) rfl 0 rfl ?_
  refine gg_callUIr (pc := 6) hC dJ0_length_8abf5_6 vJ0_335 (fun _ h => by cases h; exact mJ_coder ht) (Nat.le_of_ble_eq_true rfl) (Nat.le_of_ble_eq_true rfl) (As := []) (rest := [.int 5]) rfl rfl (Nat.le_of_ble_eq_true rfl) ht (fun x => ?_)
  refine gg_ishr (pc := 9) hC dJ0_length_8abf5_9 ?_
  exact gg_iretr (pc := 10) hR dJ0_length_8abf5_10
set_option maxHeartbeats 4000000 in
set_option maxRecDepth 100000 in
theorem mJ_isLatin1 {l : Launch} {D : va_G} {A : Nat → Nat} {cA : Nat → ClassId} {σ : zS} {t : Nat} (ht : t < 2) : zMI l D (wX A cA) yJ0_isLatin1_aae02 (zws yJ0_isLatin1_aae02 cJ0_isLatin1_aae02 1 (some .boolean)) 0 0 [.ref (A (100 + t))] σ (1, σ) := by
  refine zm_Zr (o := some 1) (lv := [(0, .ref (A (100 + t)))]) rfl (sX_ok A) (Nat.le_of_ble_eq_true rfl) rfl (fun C _ _ hC hR => ?_) rfl
  refine gg_scs (pc := 0) hC dJ0_isLatin1_aae02_0 ?_
  refine gg_prog (o' := if (1 : Int32) = 0 then none else some 1) rfl ?_
  refine gg_if_eq (pc := 3) hC dJ0_isLatin1_aae02_3 (tgt := 17) rfl (fun h => absurd h (by decide)) (fun _ => ?_)
  refine gg_aload_n (pc := 6) hC dJ0_isLatin1_aae02_6 (i := 0) rfl 0 rfl ?_
  refine gg_scod (pc := 7) hC dJ0_isLatin1_aae02_7 ht ?_
  refine gg_prog (o' := if (0 : Int32) = 0 then some 1 else none) rfl ?_
  refine gg_if_ne (pc := 10) hC dJ0_isLatin1_aae02_10 (tgt := 17) rfl (fun _ => ?_) (fun h => absurd rfl h)
  refine gg_iconst (pc := 13) hC dJ0_isLatin1_aae02_13 (x := 1) rfl ?_
  refine gg_goto (pc := 14) hC dJ0_isLatin1_aae02_14 (tgt := 18) rfl ?_
  exact gg_zretr (pc := 18) hR dJ0_isLatin1_aae02_18 rfl
theorem vp_in5 {i : Int32} (h : vp_in i 5) : ¬ i < 0 ∧ i < 5 := by
  have h0 : ¬ i < 0 := fun q => h (Or.inl q)
  have h1 : i.toNatClampNeg < 5 := Nat.not_le.mp fun q => h (Or.inr q)
  refine ⟨h0, ?_⟩
  rw [Int32.lt_iff_toInt_lt] at h0 ⊢
  have e0 : (0 : Int32).toInt = 0 := by decide
  have e5 : (5 : Int32).toInt = 5 := by decide
  rw [e0] at h0
  rw [e5]
  have e : i.toNatClampNeg = i.toInt.toNat := rfl
  omega
set_option maxHeartbeats 4000000 in
set_option maxRecDepth 100000 in
theorem mJ_check3 {l : Launch} {D : va_G} {A : Nat → Nat} {cA : Nat → ClassId} {σ : zS} {i : Int32} {w : Value} (hw : w.category = 1) (hi : vp_in i 5) : zMI l D (wX A cA) yJ3_checkIndex_8e157 (zws yJ3_checkIndex_8e157 cJ3_checkIndex_8e157 3 (some .int)) 0 0 [.int i, .int 5, w] σ (i, σ) := by
  have hle : (lg_sl [.int i, .int 5, w]).length ≤ 3 := by cases w <;> first | exact (Nat.le_of_ble_eq_true rfl) | cases hw
  refine zm_Ir (o := some i) (lv := [(0, .int i), (1, .int 5), (2, w)]) rfl (sX_ok A) hle rfl (fun C _ _ hC hR => ?_) rfl
  refine gg_iload_n (pc := 0) hC dJ3_checkIndex_8e157_0 (i := 0) rfl 0 rfl ?_
  refine gg_prog (o' := if i < 0 then none else some i) (if_neg (vp_in5 hi).1).symm ?_
  refine gg_if_lt (pc := 1) hC dJ3_checkIndex_8e157_1 (tgt := 9) rfl (fun h => absurd h (vp_in5 hi).1) (fun _ => ?_)
  refine gg_iload_n (pc := 4) hC dJ3_checkIndex_8e157_4 (i := 0) rfl 0 rfl ?_
  refine gg_iload_n (pc := 5) hC dJ3_checkIndex_8e157_5 (i := 1) rfl 1 rfl ?_
  refine gg_prog (o' := if i < 5 then some i else none) (if_pos (vp_in5 hi).2).symm ?_
  refine gg_icmp_lt (pc := 6) hC dJ3_checkIndex_8e157_6 (tgt := 16) rfl (fun _ => ?_) (fun h => absurd (vp_in5 hi).2 h)
  refine gg_iload_n (pc := 16) hC dJ3_checkIndex_8e157_16 (i := 0) rfl 0 rfl ?_
  exact gg_iretr (pc := 17) hR dJ3_checkIndex_8e157_17
set_option maxHeartbeats 4000000 in
set_option maxRecDepth 100000 in
theorem mJ_check2 {l : Launch} {D : va_G} {A : Nat → Nat} {cA : Nat → ClassId} {σ : zS} {i : Int32} (hi : vp_in i 5) : zMV l D (wX A cA) yJ0_checkIndex_df160 (zws yJ0_checkIndex_df160 cJ0_checkIndex_df160 2 none) 1 22 [.int i, .int 5] σ σ := by
  refine zm_V (o := zy1 (some i) (fun (_ : Int32) => some σ)) (lv := [(0, .int i), (1, .int 5)]) rfl (sX_ok A) (Nat.le_of_ble_eq_true rfl) rfl (fun C _ _ hC hR => ?_) rfl
  refine gg_iload_n (pc := 0) hC dJ0_checkIndex_df160_0 (i := 0) rfl 0 rfl ?_
  refine gg_iload_n (pc := 1) hC dJ0_checkIndex_df160_1 (i := 1) rfl 1 rfl ?_
  refine gg_sfm (pc := 2) hC dJ0_checkIndex_df160_2 (fun w hw => ?_)
  refine gg_callTIr (pc := 5) hC dJ0_checkIndex_df160_5 cJ0_1059 (fun _ h => by cases h; exact mJ_check3 hw hi) (Nat.le_of_ble_eq_true rfl) (Nat.le_of_ble_eq_true rfl) (As := [.int i, .int 5, w]) (rest := []) rfl rfl (Nat.le_of_ble_eq_true rfl) (fun x => ?_)
  refine gg_pop (pc := 8) hC dJ0_checkIndex_df160_8 rfl ?_
  exact gg_vret (pc := 9) hR dJ0_checkIndex_df160_9
set_option maxHeartbeats 4000000 in
set_option maxRecDepth 100000 in
theorem mJ_charAt1 {l : Launch} {D : va_G} {A : Nat → Nat} {cA : Nat → ClassId} {σ : zS} {t : Nat} (ht : t < 2) {i : Int32} (hi : vp_in i 5) : zMI l D (wX A cA) yJ1_charAt_3b067 (zws yJ1_charAt_3b067 cJ1_charAt_3b067 2 (some .char)) 2 43 [.ref (A (110 + t)), .int i] σ (sCh t i.toNatClampNeg, σ) := by
  have hk : i.toNatClampNeg < 5 := Nat.not_le.mp fun q => hi (Or.inr q)
  refine zm_T (o := zy1 (some σ) (fun (τ : zS) => some (sCh t i.toNatClampNeg, τ))) (lv := [(0, .ref (A (110 + t))), (1, .int i)]) rfl (sX_ok A) (Nat.le_of_ble_eq_true rfl) rfl (fun C _ _ hC hR => ?_) rfl
  refine gg_iload_n (pc := 0) hC dJ1_charAt_3b067_0 (i := 1) rfl 1 rfl ?_
  refine gg_aload_n (pc := 1) hC dJ1_charAt_3b067_1 (i := 0) rfl 0 rfl ?_
  refine gg_sbl (pc := 2) hC dJ1_charAt_3b067_2 ht ?_
  refine gg_callTV (pc := 3) hC dJ1_charAt_3b067_3 cJ1_9 (fun _ h => by cases h; exact mJ_check2 hi) (Nat.le_of_ble_eq_true rfl) (Nat.le_of_ble_eq_true rfl) (As := [.int i, .int 5]) (rest := []) rfl rfl (Nat.le_of_ble_eq_true rfl) (fun τ => ?_)
  refine gg_aload_n (pc := 6) hC dJ1_charAt_3b067_6 (i := 0) rfl 0 rfl ?_
  refine gg_iload_n (pc := 7) hC dJ1_charAt_3b067_7 (i := 1) rfl 1 rfl ?_
  refine gg_sbb (pc := 8) hC dJ1_charAt_3b067_8 ht hi ?_
  refine gg_sipush (pc := 9) hC dJ1_charAt_3b067_9 (x := 255) rfl ?_
  refine gg_iand (pc := 12) hC dJ1_charAt_3b067_12 ?_
  refine gg_i2c (pc := 13) hC dJ1_charAt_3b067_13 (sCh_c t ht _ hk).1 ?_
  exact gg_tretS (pc := 14) hR dJ1_charAt_3b067_14 (sCh_c t ht _ hk).2
set_option maxHeartbeats 4000000 in
set_option maxRecDepth 100000 in
theorem mJ_charAt {l : Launch} {D : va_G} {A : Nat → Nat} {cA : Nat → ClassId} {σ : zS} {t : Nat} (ht : t < 2) {i : Int32} (hi : vp_in i 5) : zMI l D (wX A cA) yJ0_charAt_5068e (zws yJ0_charAt_5068e cJ0_charAt_5068e 2 (some .char)) 3 64 [.ref (A (100 + t)), .int i] σ (sCh t i.toNatClampNeg, σ) := by
  have hk : i.toNatClampNeg < 5 := Nat.not_le.mp fun q => hi (Or.inr q)
  refine zm_Tr (o := zy1 (some 1) (fun (x : Int32) => if x = 0 then none else zy1 (some (sCh t i.toNatClampNeg)) (fun (y : Int32) => if y = sCh t i.toNatClampNeg then some y else none))) (lv := [(0, .ref (A (100 + t))), (1, .int i)]) rfl (sX_ok A) (Nat.le_of_ble_eq_true rfl) rfl (fun C _ _ hC hR => ?_) (by show (if sCh t i.toNatClampNeg = sCh t i.toNatClampNeg then some (sCh t i.toNatClampNeg) else none) = _; rw [if_pos rfl])
  refine gg_aload_n (pc := 0) hC dJ0_charAt_5068e_0 (i := 0) rfl 0 rfl ?_
  refine gg_callUIr (pc := 1) hC dJ0_charAt_5068e_1 vJ0_492 (fun _ h => by cases h; exact mJ_isLatin1 ht) (Nat.le_of_ble_eq_true rfl) (Nat.le_of_ble_eq_true rfl) (As := []) (rest := []) rfl rfl (Nat.le_of_ble_eq_true rfl) ht (fun x => ?_)
  refine gg_if_eq (pc := 4) hC dJ0_charAt_5068e_4 (tgt := 16) rfl (fun _ => gg_none (o := none)) (fun _ => ?_)
  refine gg_aload_n (pc := 7) hC dJ0_charAt_5068e_7 (i := 0) rfl 0 rfl ?_
  refine gg_sval (pc := 8) hC dJ0_charAt_5068e_8 ht ?_
  refine gg_iload_n (pc := 11) hC dJ0_charAt_5068e_11 (i := 1) rfl 1 rfl ?_
  refine gg_callTIr (pc := 12) hC dJ0_charAt_5068e_12 cJ0_495 (fun _ h => by cases h; exact mJ_charAt1 ht hi) (Nat.le_of_ble_eq_true rfl) (Nat.le_of_ble_eq_true rfl) (As := [.ref (A (110 + t)), .int i]) (rest := []) rfl rfl (Nat.le_of_ble_eq_true rfl) (fun y => ?_)
  refine gg_ite (fun h => ?_) (fun _ => gg_none (o := none))
  subst h
  exact gg_tret (pc := 15) hR dJ0_charAt_5068e_15 (sCh_c t ht _ hk).2
theorem gg_slen {α : Type} {C : zK} {A : Nat → Nat} {cA : Nat → ClassId} {cc : ByteArray} {nL pc : Nat} {E : α → Prop} {o : Option α} {lv : List (Nat × Value)} {st : List Value} {σ : zS} {t : Nat} (hC : zOK C (wX A cA) cc RX6 nL 4 85) (hd : decode cc pc = .ok (.invokevirtual 409, 3)) (ht : t < 2) (hcat : (st.map fun v => v.category).sum ≤ 8 := by exact Nat.le_of_ble_eq_true rfl) (k : zG C (wX A cA) nL E o (pc + 3) lv (.int 5 :: st) σ) : zG C (wX A cA) nL E o pc lv (.ref (A (100 + t)) :: st) σ :=
  fun v hv hE => gg_callUIr (K := fun x => if x = 5 then o else none) (o1 := some 5) hC hd vX6_409 (fun _ h => by cases h; exact mJ_length ht) (Nat.le_of_ble_eq_true rfl) (Nat.le_of_ble_eq_true rfl) (As := []) (rest := st) rfl rfl hcat ht (fun x => gg_ite (fun h => h ▸ k) (fun _ => gg_none (o := none))) v (by show (if (5 : Int32) = 5 then o else none) = some v; rw [if_pos rfl]; exact hv) hE
theorem gg_schar {α : Type} {C : zK} {A : Nat → Nat} {cA : Nat → ClassId} {cc : ByteArray} {nL pc : Nat} {E : α → Prop} {o : Option α} {lv : List (Nat × Value)} {st : List Value} {σ : zS} {t : Nat} {i : Int32} (hC : zOK C (wX A cA) cc RX6 nL 4 85) (hd : decode cc pc = .ok (.invokevirtual 414, 3)) (ht : t < 2) (hcat : (st.map fun v => v.category).sum ≤ 8 := by exact Nat.le_of_ble_eq_true rfl) (k : zG C (wX A cA) nL E o (pc + 3) lv (.int (sCh t i.toNatClampNeg) :: st) σ) : zG C (wX A cA) nL E (zg (zq i 5) o) pc lv (.int i :: .ref (A (100 + t)) :: st) σ := by
  intro v hv hE
  unfold zg at hv
  split at hv
  · next hy =>
    exact gg_callUIr (K := fun x => if x = sCh t i.toNatClampNeg then o else none) (o1 := some (sCh t i.toNatClampNeg)) hC hd vX6_414 (fun _ h => by cases h; exact mJ_charAt ht (zq_in hy)) (Nat.le_of_ble_eq_true rfl) (Nat.le_of_ble_eq_true rfl) (As := [.int i]) (rest := st) rfl rfl hcat ht (fun x => gg_ite (fun h => h ▸ k) (fun _ => gg_none (o := none))) v (by show (if sCh t i.toNatClampNeg = sCh t i.toNatClampNeg then o else none) = some v; rw [if_pos rfl]; exact hv) hE
  · cases hv

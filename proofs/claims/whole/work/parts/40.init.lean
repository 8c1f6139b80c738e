abbrev zTY (cA : Nat → ClassId) : List (ClassId × FieldType) := [(cA 0, .int), (cA 1, .long), (cA 2, .boolean), (cA 3, .double), (cA 4, .object "PeriodGates$Sheet")]
theorem zcls {D : va_G} {tys : List (ClassId × FieldType)} {s : State} {c1 c2 : ClassId} {ty : FieldType} (hK : va_K D vwCl tys s) (i j : Nat) (h1 : tys[i]? = some (c1, ty)) (h2 : tys[j]? = some (c2, ty)) : c2 = c1 := by
  have a := (hK.2 i _ h1).2
  have b := (hK.2 j _ h2).2
  unfold va_RA at a b
  cases ty with
  | object C =>
    obtain ⟨_, _, _, _, _, e1⟩ := a
    obtain ⟨_, _, _, _, _, e2⟩ := b
    exact Option.some.inj (e2.symm.trans e1)
  | _ => exact Option.some.inj (b.symm.trans a)
theorem zArr {s : State} {args : Array Value} {ty : FieldType} (hp : ∀ C, ty ≠ .object C) (h : (Cond.arrayClass ty).before args s = true) : ∃ cA : ClassId, ArrOfT s cA ty ∧ va_RA s cA ty := by
  obtain ⟨c, k, comp, h1, h2, h3⟩ := Cond.arrayClass_spec h
  refine ⟨c, fun n z => ⟨fun k h => (by cases h), k, h2, comp, h3⟩, ?_⟩
  unfold va_RA
  cases ty with
  | object C => exact absurd rfl (hp C)
  | _ => exact h1
theorem zArrO {s : State} {args : Array Value} {C : String} (h : (Cond.arrayOver (.object C)).before args s = true) : ∃ cA : ClassId, ArrOfT s cA (.object C) ∧ va_RA s cA (.object C) := by
  obtain ⟨comp, c, k, h1, h2, h3, h4, h5⟩ := Cond.arrayOver_spec h
  exact ⟨c, fun n z => ⟨fun k h => (by cases h), k, h3, comp, h4⟩, k, comp, h3, h4, h1, h5⟩
theorem zgoodI {y : MethodName} {c : ByteArray} {maxL : Nat} {ret : Option FieldType} (h : Cond.code y c maxL ret ∈ zT) : GoodIn zT (zws y c maxL ret) := zGood (fun w hw => by
  rcases List.mem_cons.mp hw with rfl | hw
  · exact h
  · exact hw)
theorem oI1 : Cond.instanceMethod objectInit ∈ zT := zT_t 20 (by decide +kernel) (by decide +kernel)
theorem oI2 : Cond.code objectInit ⟨#[0xb1]⟩ 1 none ∈ zT := zT_t 21 (by decide +kernel) (by decide +kernel)
theorem aC_int : Cond.arrayClass .int ∈ zT := zT_t 39 (by decide +kernel) (by decide +kernel)
theorem aC_long : Cond.arrayClass .long ∈ zT := zT_t 139 (by decide +kernel) (by decide +kernel)
theorem aC_boolean : Cond.arrayClass .boolean ∈ zT := zT_t 140 (by decide +kernel) (by decide +kernel)
theorem aC_double : Cond.arrayClass .double ∈ zT := zT_t 191 (by decide +kernel) (by decide +kernel)
theorem aC_byte : Cond.arrayClass .byte ∈ zT := zT_t 428 (by decide +kernel) (by decide +kernel)
theorem oL_RX6 : Cond.methodLink RX6 1 objectInit ∈ zT := zT_t 19 (by decide +kernel) (by decide +kernel)
theorem oL_RX5 : Cond.methodLink RX5 3 objectInit ∈ zT := zT_t 27 (by decide +kernel) (by decide +kernel)
theorem oL_RX0 : Cond.methodLink RX0 3 objectInit ∈ zT := zT_t 45 (by decide +kernel) (by decide +kernel)
theorem oL_RX1 : Cond.methodLink RX1 3 objectInit ∈ zT := zT_t 72 (by decide +kernel) (by decide +kernel)
theorem oL_RX2 : Cond.methodLink RX2 3 objectInit ∈ zT := zT_t 97 (by decide +kernel) (by decide +kernel)
theorem oL_RX4 : Cond.methodLink RX4 3 objectInit ∈ zT := zT_t 146 (by decide +kernel) (by decide +kernel)
theorem oL_RX3 : Cond.methodLink RX3 3 objectInit ∈ zT := zT_t 170 (by decide +kernel) (by decide +kernel)
theorem oL_RX7 : Cond.methodLink RX7 1 objectInit ∈ zT := zT_t 789 (by decide +kernel) (by decide +kernel)
theorem iZ6 : Cond.initialized RX6 ∈ zT := zT_t 1 (by decide +kernel) (by decide +kernel)
theorem iZ5 : Cond.initialized RX5 ∈ zT := zT_t 2 (by decide +kernel) (by decide +kernel)
theorem iZ0 : Cond.initialized RX0 ∈ zT := zT_t 3 (by decide +kernel) (by decide +kernel)
theorem iZ1 : Cond.initialized RX1 ∈ zT := zT_t 4 (by decide +kernel) (by decide +kernel)
theorem iZ2 : Cond.initialized RX2 ∈ zT := zT_t 5 (by decide +kernel) (by decide +kernel)
theorem iZ4 : Cond.initialized RX4 ∈ zT := zT_t 6 (by decide +kernel) (by decide +kernel)
theorem iZ3 : Cond.initialized RX3 ∈ zT := zT_t 7 (by decide +kernel) (by decide +kernel)
theorem iZ7 : Cond.initialized RX7 ∈ zT := zT_t 8 (by decide +kernel) (by decide +kernel)
theorem iS6 : Cond.instantiable RX6 12 ∈ zT := zT_t 15 (by decide +kernel) (by decide +kernel)
theorem iS5 : Cond.instantiable RX5 2 ∈ zT := zT_t 23 (by decide +kernel) (by decide +kernel)
theorem iS0 : Cond.instantiable RX0 4 ∈ zT := zT_t 41 (by decide +kernel) (by decide +kernel)
theorem iS1 : Cond.instantiable RX1 5 ∈ zT := zT_t 68 (by decide +kernel) (by decide +kernel)
theorem iS2 : Cond.instantiable RX2 10 ∈ zT := zT_t 93 (by decide +kernel) (by decide +kernel)
theorem iS4 : Cond.instantiable RX4 4 ∈ zT := zT_t 142 (by decide +kernel) (by decide +kernel)
theorem iS3 : Cond.instantiable RX3 5 ∈ zT := zT_t 166 (by decide +kernel) (by decide +kernel)
theorem iS7 : Cond.instantiable RX7 33 ∈ zT := zT_t 785 (by decide +kernel) (by decide +kernel)
theorem cK_RL_7 : Cond.classLink RL 7 RX6 ∈ zT := zT_t 14 (by decide +kernel) (by decide +kernel)
theorem cK_RX6_7 : Cond.classLink RX6 7 RX5 ∈ zT := zT_t 22 (by decide +kernel) (by decide +kernel)
theorem cK_RX6_16 : Cond.classLink RX6 16 RX0 ∈ zT := zT_t 40 (by decide +kernel) (by decide +kernel)
theorem cK_RX6_23 : Cond.classLink RX6 23 RX1 ∈ zT := zT_t 67 (by decide +kernel) (by decide +kernel)
theorem cK_RX6_30 : Cond.classLink RX6 30 RX2 ∈ zT := zT_t 92 (by decide +kernel) (by decide +kernel)
theorem cK_RX6_37 : Cond.classLink RX6 37 RX4 ∈ zT := zT_t 141 (by decide +kernel) (by decide +kernel)
theorem cK_RX6_44 : Cond.classLink RX6 44 RX3 ∈ zT := zT_t 164 (by decide +kernel) (by decide +kernel)
theorem cK_RL_10 : Cond.classLink RL 10 RX7 ∈ zT := zT_t 784 (by decide +kernel) (by decide +kernel)
theorem iL_RL_9 : Cond.methodLink RL 9 yX6_init ∈ zT := zT_t 16 (by decide +kernel) (by decide +kernel)
theorem iL_RX6_9 : Cond.methodLink RX6 9 yX5_init ∈ zT := zT_t 24 (by decide +kernel) (by decide +kernel)
theorem iL_RX6_18 : Cond.methodLink RX6 18 yX0_init ∈ zT := zT_t 42 (by decide +kernel) (by decide +kernel)
theorem iL_RX6_25 : Cond.methodLink RX6 25 yX1_init ∈ zT := zT_t 69 (by decide +kernel) (by decide +kernel)
theorem iL_RX6_32 : Cond.methodLink RX6 32 yX2_init ∈ zT := zT_t 94 (by decide +kernel) (by decide +kernel)
theorem iL_RX6_39 : Cond.methodLink RX6 39 yX4_init ∈ zT := zT_t 143 (by decide +kernel) (by decide +kernel)
theorem iL_RX6_71 : Cond.methodLink RX6 71 yX3_init ∈ zT := zT_t 167 (by decide +kernel) (by decide +kernel)
theorem iL_RL_12 : Cond.methodLink RL 12 yX7_init ∈ zT := zT_t 786 (by decide +kernel) (by decide +kernel)
theorem iM0 : Cond.instanceMethod yX0_init ∈ zT := zT_t 43 (by decide +kernel) (by decide +kernel)
theorem iC0 : Cond.code yX0_init cX0_init 1 none ∈ zT := zT_t 44 (by decide +kernel) (by decide +kernel)
theorem iM1 : Cond.instanceMethod yX1_init ∈ zT := zT_t 70 (by decide +kernel) (by decide +kernel)
theorem iC1 : Cond.code yX1_init cX1_init 1 none ∈ zT := zT_t 71 (by decide +kernel) (by decide +kernel)
theorem iM2 : Cond.instanceMethod yX2_init ∈ zT := zT_t 95 (by decide +kernel) (by decide +kernel)
theorem iC2 : Cond.code yX2_init cX2_init 1 none ∈ zT := zT_t 96 (by decide +kernel) (by decide +kernel)
theorem iM3 : Cond.instanceMethod yX3_init ∈ zT := zT_t 168 (by decide +kernel) (by decide +kernel)
theorem iC3 : Cond.code yX3_init cX3_init 1 none ∈ zT := zT_t 169 (by decide +kernel) (by decide +kernel)
theorem iM4 : Cond.instanceMethod yX4_init ∈ zT := zT_t 144 (by decide +kernel) (by decide +kernel)
theorem iC4 : Cond.code yX4_init cX4_init 1 none ∈ zT := zT_t 145 (by decide +kernel) (by decide +kernel)
theorem iM5 : Cond.instanceMethod yX5_init ∈ zT := zT_t 25 (by decide +kernel) (by decide +kernel)
theorem iC5 : Cond.code yX5_init cX5_init 1 none ∈ zT := zT_t 26 (by decide +kernel) (by decide +kernel)
theorem iM6 : Cond.instanceMethod yX6_init ∈ zT := zT_t 17 (by decide +kernel) (by decide +kernel)
theorem iC6 : Cond.code yX6_init cX6_init 2 none ∈ zT := zT_t 18 (by decide +kernel) (by decide +kernel)
theorem iM7 : Cond.instanceMethod yX7_init ∈ zT := zT_t 787 (by decide +kernel) (by decide +kernel)
theorem iC7 : Cond.code yX7_init cX7_init 2 none ∈ zT := zT_t 788 (by decide +kernel) (by decide +kernel)
def zIPre (D : va_G) (cA : Nat → ClassId) (ws : va_W) (sz : Nat) (U : State) : Prop := U.heap.size = sz ∧ va_P D vwCl ws U.heap ∧ va_K D vwCl (zTY cA) U ∧ va_D (fun _ => True) ws
theorem zIBlind {D : va_G} {cA : Nat → ClassId} {ws : va_W} {sz : Nat} {av : List Value} : FrameBlind (va_Pc av (zIPre D cA ws sz)) := by
  intro a U g mk q
  obtain ⟨q0, q1, qP, qK, qD⟩ := q
  exact ⟨q0, q1, qP, va_K.moved (u := U) (U := U.calling g mk a) (Vm.Alike.refl U.vm) qK, qD⟩
set_option maxHeartbeats 8000000 in
set_option maxRecDepth 100000 in
theorem nX5 (l : Launch) (D : va_G) (cA : Nat → ClassId) (h0 sz : Nat) : Met l yX5_init (zws yX5_init cX5_init 1 none) ({ frames := 1, cells := 1, slots := 32, locals := 20 }) (va_Pc [.ref h0] (zIPre D cA [(h0, .inr (5, [.null, .int 0]))] sz)) (va_Qv (fun _ : Nat → Nat => True) (fun a t => va_P D vwCl [(h0, .inr (5, [.ref (a 0), .int 0])), ((a 0), .inl (cA 0, 32, .inl (fun _ => 0)))] t.heap ∧ va_K D vwCl (zTY cA) t ∧ va_D (va_A [(h0, .inr (5, [.null, .int 0]))] sz) [(h0, .inr (5, [.ref (a 0), .int 0])), ((a 0), .inl (cA 0, 32, .inl (fun _ => 0)))]) (va_A [(h0, .inr (5, [.null, .int 0]))] sz)) 1 32 (va_A [(h0, .inr (5, [.null, .int 0]))] sz) := by
  refine Met.ofW (cc := cX5_init) (maxL := 1) (ret := none) (by decide +kernel) rfl ?_
  intro p e s m args below meth c s₁ B hml hv
  obtain ⟨rfl, hsz, hP, hK, hD0⟩ := hv
  have hx := B.exec
  have hb := B.bytes
  have hr := B.returns
  have hts := zws_spec (atoms_spec (ws := zws yX5_init cX5_init 1 none) B.pre)
  have hown : s.vm.findClass RX5 = some m.cls := findClass_of_methodNamed B.named
  have hin : meth.name = "<init>" := (name_of_methodNamed B.named B.method).1
  subst hsz
  have hD := hD0.self (sz := s.heap.size)
  generalize hAe : va_A [(h0, .inr (5, [.null, .int 0]))] s.heap.size = A at hD ⊢
  have hA : ∀ q : Nat, s.heap.size ≤ q → A q := fun q h => by rw [← hAe]; exact Or.inr h
  have hS : va_S A s.heap s.heap [] := va_S.rf
  have hl := lv_entry ([.ref h0]) (n := 1) (Nat.le_of_ble_eq_true rfl)
  rw [lg_entry_eq]
  generalize (lg_sl ([.ref h0]) ++ List.replicate (1 - (lg_sl ([.ref h0])).length) Slot.unset).toArray = ls at hl ⊢
  have hl : lv_has ls 1 [(0, .ref h0)] := hl
  refine lv_aload_n hx hb dX5_init_0 rfl (lv_at hl 0 rfl) ?_
  refine W.objInit hx hb hown (hts _ oL_RX5) (hts _ oI1) (hts _ oI2) rfl (by rw [hml]; exact hl.1) rfl dX5_init_1 (Nat.le_of_ble_eq_true rfl) (Nat.le_of_ble_eq_true rfl) ?_
  refine lv_aload_n hx hb dX5_init_4 rfl (lv_at hl 0 rfl) ?_
  refine lv_bipush (v := 32) hx hb dX5_init_5 (by decide) ?_
  refine va_newa (atype := .int) (ty := .int) hx hb (hts _ aC_int) rfl hK hP hD hS hA (a0 := (32, .inl (fun _ => 0))) (fun _ => rfl) (by decide) (N' := 32) (by decide) (Nat.le_of_ble_eq_true rfl) (Nat.le_of_ble_eq_true rfl) (Nat.le_of_ble_eq_true rfl) dX5_init_7 (fun q1 cq H hKq hP hD hS => ?_)
  have eq : cq = cA 0 := zcls hKq 0 5 rfl rfl
  subst eq
  clear hKq
  have hP : va_P D vwCl [(h0, .inr (5, [.null, .int 0])), (q1, .inl (cA 0, 32, .inl (fun _ => 0)))] H := hP
  have hD : va_D A [(h0, .inr (5, [.null, .int 0])), (q1, .inl (cA 0, 32, .inl (fun _ => 0)))] := hD
  refine W.widen (k := 1) (n := 32) (Nat.le_of_ble_eq_true rfl) (Nat.le_of_ble_eq_true rfl) ?_
  refine va_putF (D := D) (ci := 5) (v := .ref q1) (ty := .array .int) (C := RX5) (T := TX5) (N := 2) hx hb hts inZ5 tyX5 tyX5_ok nmX5 hown hK hP hD hS 0 rfl rfl 0 (by decide) (hts _ fX5_9.1) (fun _ h9 => h9) rfl hin rfl (by decide +kernel) rfl rfl (Nat.le_of_ble_eq_true rfl) dX5_init_9 (fun H locs hP hD hS => ?_)
  have hP : va_P D vwCl [(h0, .inr (5, [.ref q1, .int 0])), (q1, .inl (cA 0, 32, .inl (fun _ => 0)))] H := hP
  have hD : va_D A [(h0, .inr (5, [.ref q1, .int 0])), (q1, .inl (cA 0, 32, .inl (fun _ => 0)))] := hD
  refine lv_aload_n hx hb dX5_init_12 rfl (lv_at hl 0 rfl) ?_
  refine lv_iconst (v := 0) hx hb dX5_init_13 (by decide) ?_
  refine va_put (D := D) (ci := 5) (v := .int 0) (ty := .int) (C := RX5) (T := TX5) (N := 2) hx hb hts inZ5 tyX5 tyX5_ok nmX5 hown hK hP hD hS 0 rfl rfl 1 (by decide) (hts _ fX5_15.1) (fun _ h9 => h9) rfl (by decide +kernel) rfl rfl (Nat.le_of_ble_eq_true rfl) dX5_init_14 (fun H locs hP hD hS => ?_)
  have hP : va_P D vwCl [(h0, .inr (5, [.ref q1, .int 0])), (q1, .inl (cA 0, 32, .inl (fun _ => 0)))] H := hP
  have hD : va_D A [(h0, .inr (5, [.ref q1, .int 0])), (q1, .inl (cA 0, 32, .inl (fun _ => 0)))] := hD
  exact W.vret hx hb hr (fun t ht hW => ⟨⟨(fun _ => q1), rfl, trivial, by rw [ht]; exact hP, va_K.moved hW.alike hK, hD⟩, hS.F ht⟩) hS.2.2 dX5_init_17
set_option maxHeartbeats 8000000 in
set_option maxRecDepth 100000 in
theorem nX0 (l : Launch) (D : va_G) (cA : Nat → ClassId) (h0 sz : Nat) : Met l yX0_init (zws yX0_init cX0_init 1 none) ({ frames := 1, cells := 2, slots := 24, locals := 20 }) (va_Pc [.ref h0] (zIPre D cA [(h0, .inr (0, [.null, .null, .int 0, .int 0]))] sz)) (va_Qv (fun _ : Nat → Nat => True) (fun a t => va_P D vwCl [(h0, .inr (0, [.ref (a 0), .ref (a 1), .int 1, .int 0])), ((a 0), .inl (cA 0, 12, .inl (fun _ => 0))), ((a 1), .inl (cA 0, 12, .inl (fun _ => 0)))] t.heap ∧ va_K D vwCl (zTY cA) t ∧ va_D (va_A [(h0, .inr (0, [.null, .null, .int 0, .int 0]))] sz) [(h0, .inr (0, [.ref (a 0), .ref (a 1), .int 1, .int 0])), ((a 0), .inl (cA 0, 12, .inl (fun _ => 0))), ((a 1), .inl (cA 0, 12, .inl (fun _ => 0)))]) (va_A [(h0, .inr (0, [.null, .null, .int 0, .int 0]))] sz)) 2 24 (va_A [(h0, .inr (0, [.null, .null, .int 0, .int 0]))] sz) := by
  refine Met.ofW (cc := cX0_init) (maxL := 1) (ret := none) (by decide +kernel) rfl ?_
  intro p e s m args below meth c s₁ B hml hv
  obtain ⟨rfl, hsz, hP, hK, hD0⟩ := hv
  have hx := B.exec
  have hb := B.bytes
  have hr := B.returns
  have hts := zws_spec (atoms_spec (ws := zws yX0_init cX0_init 1 none) B.pre)
  have hown : s.vm.findClass RX0 = some m.cls := findClass_of_methodNamed B.named
  have hin : meth.name = "<init>" := (name_of_methodNamed B.named B.method).1
  subst hsz
  have hD := hD0.self (sz := s.heap.size)
  generalize hAe : va_A [(h0, .inr (0, [.null, .null, .int 0, .int 0]))] s.heap.size = A at hD ⊢
  have hA : ∀ q : Nat, s.heap.size ≤ q → A q := fun q h => by rw [← hAe]; exact Or.inr h
  have hS : va_S A s.heap s.heap [] := va_S.rf
  have hl := lv_entry ([.ref h0]) (n := 1) (Nat.le_of_ble_eq_true rfl)
  rw [lg_entry_eq]
  generalize (lg_sl ([.ref h0]) ++ List.replicate (1 - (lg_sl ([.ref h0])).length) Slot.unset).toArray = ls at hl ⊢
  have hl : lv_has ls 1 [(0, .ref h0)] := hl
  refine lv_aload_n hx hb dX0_init_0 rfl (lv_at hl 0 rfl) ?_
  refine W.objInit hx hb hown (hts _ oL_RX0) (hts _ oI1) (hts _ oI2) rfl (by rw [hml]; exact hl.1) rfl dX0_init_1 (Nat.le_of_ble_eq_true rfl) (Nat.le_of_ble_eq_true rfl) ?_
  refine lv_aload_n hx hb dX0_init_4 rfl (lv_at hl 0 rfl) ?_
  refine lv_bipush (v := 12) hx hb dX0_init_5 (by decide) ?_
  refine va_newa (atype := .int) (ty := .int) hx hb (hts _ aC_int) rfl hK hP hD hS hA (a0 := (12, .inl (fun _ => 0))) (fun _ => rfl) (by decide) (N' := 12) (by decide) (Nat.le_of_ble_eq_true rfl) (Nat.le_of_ble_eq_true rfl) (Nat.le_of_ble_eq_true rfl) dX0_init_7 (fun q1 cq H hKq hP hD hS => ?_)
  have eq : cq = cA 0 := zcls hKq 0 5 rfl rfl
  subst eq
  clear hKq
  have hP : va_P D vwCl [(h0, .inr (0, [.null, .null, .int 0, .int 0])), (q1, .inl (cA 0, 12, .inl (fun _ => 0)))] H := hP
  have hD : va_D A [(h0, .inr (0, [.null, .null, .int 0, .int 0])), (q1, .inl (cA 0, 12, .inl (fun _ => 0)))] := hD
  refine W.widen (k := 1) (n := 12) (Nat.le_of_ble_eq_true rfl) (Nat.le_of_ble_eq_true rfl) ?_
  refine va_putF (D := D) (ci := 0) (v := .ref q1) (ty := .array .int) (C := RX0) (T := TX0) (N := 4) hx hb hts inZ0 tyX0 tyX0_ok nmX0 hown hK hP hD hS 0 rfl rfl 0 (by decide) (hts _ fX0_9.1) (fun _ h9 => h9) rfl hin rfl (by decide +kernel) rfl rfl (Nat.le_of_ble_eq_true rfl) dX0_init_9 (fun H locs hP hD hS => ?_)
  have hP : va_P D vwCl [(h0, .inr (0, [.ref q1, .null, .int 0, .int 0])), (q1, .inl (cA 0, 12, .inl (fun _ => 0)))] H := hP
  have hD : va_D A [(h0, .inr (0, [.ref q1, .null, .int 0, .int 0])), (q1, .inl (cA 0, 12, .inl (fun _ => 0)))] := hD
  refine lv_aload_n hx hb dX0_init_12 rfl (lv_at hl 0 rfl) ?_
  refine lv_bipush (v := 12) hx hb dX0_init_13 (by decide) ?_
  refine va_newa (atype := .int) (ty := .int) hx hb (hts _ aC_int) rfl hK hP hD hS hA (a0 := (12, .inl (fun _ => 0))) (fun _ => rfl) (by decide) (N' := 12) (by decide) (Nat.le_of_ble_eq_true rfl) (Nat.le_of_ble_eq_true rfl) (Nat.le_of_ble_eq_true rfl) dX0_init_15 (fun q2 cq H hKq hP hD hS => ?_)
  have eq : cq = cA 0 := zcls hKq 0 5 rfl rfl
  subst eq
  clear hKq
  have hP : va_P D vwCl [(h0, .inr (0, [.ref q1, .null, .int 0, .int 0])), (q1, .inl (cA 0, 12, .inl (fun _ => 0))), (q2, .inl (cA 0, 12, .inl (fun _ => 0)))] H := hP
  have hD : va_D A [(h0, .inr (0, [.ref q1, .null, .int 0, .int 0])), (q1, .inl (cA 0, 12, .inl (fun _ => 0))), (q2, .inl (cA 0, 12, .inl (fun _ => 0)))] := hD
  refine W.widen (k := 2) (n := 24) (Nat.le_of_ble_eq_true rfl) (Nat.le_of_ble_eq_true rfl) ?_
  refine va_putF (D := D) (ci := 0) (v := .ref q2) (ty := .array .int) (C := RX0) (T := TX0) (N := 4) hx hb hts inZ0 tyX0 tyX0_ok nmX0 hown hK hP hD hS 0 rfl rfl 1 (by decide) (hts _ fX0_15.1) (fun _ h9 => h9) rfl hin rfl (by decide +kernel) rfl rfl (Nat.le_of_ble_eq_true rfl) dX0_init_17 (fun H locs hP hD hS => ?_)
  have hP : va_P D vwCl [(h0, .inr (0, [.ref q1, .ref q2, .int 0, .int 0])), (q1, .inl (cA 0, 12, .inl (fun _ => 0))), (q2, .inl (cA 0, 12, .inl (fun _ => 0)))] H := hP
  have hD : va_D A [(h0, .inr (0, [.ref q1, .ref q2, .int 0, .int 0])), (q1, .inl (cA 0, 12, .inl (fun _ => 0))), (q2, .inl (cA 0, 12, .inl (fun _ => 0)))] := hD
  refine lv_aload_n hx hb dX0_init_20 rfl (lv_at hl 0 rfl) ?_
  refine lv_iconst (v := 1) hx hb dX0_init_21 (by decide) ?_
  refine va_put (D := D) (ci := 0) (v := .int 1) (ty := .int) (C := RX0) (T := TX0) (N := 4) hx hb hts inZ0 tyX0 tyX0_ok nmX0 hown hK hP hD hS 0 rfl rfl 2 (by decide) (hts _ fX0_18.1) (fun _ h9 => h9) rfl (by decide +kernel) rfl rfl (Nat.le_of_ble_eq_true rfl) dX0_init_22 (fun H locs hP hD hS => ?_)
  have hP : va_P D vwCl [(h0, .inr (0, [.ref q1, .ref q2, .int 1, .int 0])), (q1, .inl (cA 0, 12, .inl (fun _ => 0))), (q2, .inl (cA 0, 12, .inl (fun _ => 0)))] H := hP
  have hD : va_D A [(h0, .inr (0, [.ref q1, .ref q2, .int 1, .int 0])), (q1, .inl (cA 0, 12, .inl (fun _ => 0))), (q2, .inl (cA 0, 12, .inl (fun _ => 0)))] := hD
  refine lv_aload_n hx hb dX0_init_25 rfl (lv_at hl 0 rfl) ?_
  refine lv_iconst (v := 0) hx hb dX0_init_26 (by decide) ?_
  refine va_put (D := D) (ci := 0) (v := .int 0) (ty := .int) (C := RX0) (T := TX0) (N := 4) hx hb hts inZ0 tyX0 tyX0_ok nmX0 hown hK hP hD hS 0 rfl rfl 3 (by decide) (hts _ fX0_22.1) (fun _ h9 => h9) rfl (by decide +kernel) rfl rfl (Nat.le_of_ble_eq_true rfl) dX0_init_27 (fun H locs hP hD hS => ?_)
  have hP : va_P D vwCl [(h0, .inr (0, [.ref q1, .ref q2, .int 1, .int 0])), (q1, .inl (cA 0, 12, .inl (fun _ => 0))), (q2, .inl (cA 0, 12, .inl (fun _ => 0)))] H := hP
  have hD : va_D A [(h0, .inr (0, [.ref q1, .ref q2, .int 1, .int 0])), (q1, .inl (cA 0, 12, .inl (fun _ => 0))), (q2, .inl (cA 0, 12, .inl (fun _ => 0)))] := hD
  exact W.vret hx hb hr (fun t ht hW => ⟨⟨(fun k => match k with | 0 => q1 | _ => q2), rfl, trivial, by rw [ht]; exact hP, va_K.moved hW.alike hK, hD⟩, hS.F ht⟩) hS.2.2 dX0_init_30
set_option maxHeartbeats 8000000 in
set_option maxRecDepth 100000 in
theorem nX1 (l : Launch) (D : va_G) (cA : Nat → ClassId) (h0 sz : Nat) : Met l yX1_init (zws yX1_init cX1_init 1 none) ({ frames := 1, cells := 4, slots := 32, locals := 20 }) (va_Pc [.ref h0] (zIPre D cA [(h0, .inr (1, [.null, .null, .null, .null, .int 0]))] sz)) (va_Qv (fun _ : Nat → Nat => True) (fun a t => va_P D vwCl [(h0, .inr (1, [.ref (a 0), .ref (a 1), .ref (a 2), .ref (a 3), .int 0])), ((a 0), .inl (cA 0, 8, .inl (fun _ => 0))), ((a 1), .inl (cA 0, 8, .inl (fun _ => 0))), ((a 2), .inl (cA 0, 8, .inl (fun _ => 0))), ((a 3), .inl (cA 0, 8, .inl (fun _ => 0)))] t.heap ∧ va_K D vwCl (zTY cA) t ∧ va_D (va_A [(h0, .inr (1, [.null, .null, .null, .null, .int 0]))] sz) [(h0, .inr (1, [.ref (a 0), .ref (a 1), .ref (a 2), .ref (a 3), .int 0])), ((a 0), .inl (cA 0, 8, .inl (fun _ => 0))), ((a 1), .inl (cA 0, 8, .inl (fun _ => 0))), ((a 2), .inl (cA 0, 8, .inl (fun _ => 0))), ((a 3), .inl (cA 0, 8, .inl (fun _ => 0)))]) (va_A [(h0, .inr (1, [.null, .null, .null, .null, .int 0]))] sz)) 4 32 (va_A [(h0, .inr (1, [.null, .null, .null, .null, .int 0]))] sz) := by
  refine Met.ofW (cc := cX1_init) (maxL := 1) (ret := none) (by decide +kernel) rfl ?_
  intro p e s m args below meth c s₁ B hml hv
  obtain ⟨rfl, hsz, hP, hK, hD0⟩ := hv
  have hx := B.exec
  have hb := B.bytes
  have hr := B.returns
  have hts := zws_spec (atoms_spec (ws := zws yX1_init cX1_init 1 none) B.pre)
  have hown : s.vm.findClass RX1 = some m.cls := findClass_of_methodNamed B.named
  have hin : meth.name = "<init>" := (name_of_methodNamed B.named B.method).1
  subst hsz
  have hD := hD0.self (sz := s.heap.size)
  generalize hAe : va_A [(h0, .inr (1, [.null, .null, .null, .null, .int 0]))] s.heap.size = A at hD ⊢
  have hA : ∀ q : Nat, s.heap.size ≤ q → A q := fun q h => by rw [← hAe]; exact Or.inr h
  have hS : va_S A s.heap s.heap [] := va_S.rf
  have hl := lv_entry ([.ref h0]) (n := 1) (Nat.le_of_ble_eq_true rfl)
  rw [lg_entry_eq]
  generalize (lg_sl ([.ref h0]) ++ List.replicate (1 - (lg_sl ([.ref h0])).length) Slot.unset).toArray = ls at hl ⊢
  have hl : lv_has ls 1 [(0, .ref h0)] := hl
  refine lv_aload_n hx hb dX1_init_0 rfl (lv_at hl 0 rfl) ?_
  refine W.objInit hx hb hown (hts _ oL_RX1) (hts _ oI1) (hts _ oI2) rfl (by rw [hml]; exact hl.1) rfl dX1_init_1 (Nat.le_of_ble_eq_true rfl) (Nat.le_of_ble_eq_true rfl) ?_
  refine lv_aload_n hx hb dX1_init_4 rfl (lv_at hl 0 rfl) ?_
  refine lv_bipush (v := 8) hx hb dX1_init_5 (by decide) ?_
  refine va_newa (atype := .int) (ty := .int) hx hb (hts _ aC_int) rfl hK hP hD hS hA (a0 := (8, .inl (fun _ => 0))) (fun _ => rfl) (by decide) (N' := 8) (by decide) (Nat.le_of_ble_eq_true rfl) (Nat.le_of_ble_eq_true rfl) (Nat.le_of_ble_eq_true rfl) dX1_init_7 (fun q1 cq H hKq hP hD hS => ?_)
  have eq : cq = cA 0 := zcls hKq 0 5 rfl rfl
  subst eq
  clear hKq
  have hP : va_P D vwCl [(h0, .inr (1, [.null, .null, .null, .null, .int 0])), (q1, .inl (cA 0, 8, .inl (fun _ => 0)))] H := hP
  have hD : va_D A [(h0, .inr (1, [.null, .null, .null, .null, .int 0])), (q1, .inl (cA 0, 8, .inl (fun _ => 0)))] := hD
  refine W.widen (k := 1) (n := 8) (Nat.le_of_ble_eq_true rfl) (Nat.le_of_ble_eq_true rfl) ?_
  refine va_putF (D := D) (ci := 1) (v := .ref q1) (ty := .array .int) (C := RX1) (T := TX1) (N := 5) hx hb hts inZ1 tyX1 tyX1_ok nmX1 hown hK hP hD hS 0 rfl rfl 0 (by decide) (hts _ fX1_9.1) (fun _ h9 => h9) rfl hin rfl (by decide +kernel) rfl rfl (Nat.le_of_ble_eq_true rfl) dX1_init_9 (fun H locs hP hD hS => ?_)
  have hP : va_P D vwCl [(h0, .inr (1, [.ref q1, .null, .null, .null, .int 0])), (q1, .inl (cA 0, 8, .inl (fun _ => 0)))] H := hP
  have hD : va_D A [(h0, .inr (1, [.ref q1, .null, .null, .null, .int 0])), (q1, .inl (cA 0, 8, .inl (fun _ => 0)))] := hD
  refine lv_aload_n hx hb dX1_init_12 rfl (lv_at hl 0 rfl) ?_
  refine lv_bipush (v := 8) hx hb dX1_init_13 (by decide) ?_
  refine va_newa (atype := .int) (ty := .int) hx hb (hts _ aC_int) rfl hK hP hD hS hA (a0 := (8, .inl (fun _ => 0))) (fun _ => rfl) (by decide) (N' := 8) (by decide) (Nat.le_of_ble_eq_true rfl) (Nat.le_of_ble_eq_true rfl) (Nat.le_of_ble_eq_true rfl) dX1_init_15 (fun q2 cq H hKq hP hD hS => ?_)
  have eq : cq = cA 0 := zcls hKq 0 5 rfl rfl
  subst eq
  clear hKq
  have hP : va_P D vwCl [(h0, .inr (1, [.ref q1, .null, .null, .null, .int 0])), (q1, .inl (cA 0, 8, .inl (fun _ => 0))), (q2, .inl (cA 0, 8, .inl (fun _ => 0)))] H := hP
  have hD : va_D A [(h0, .inr (1, [.ref q1, .null, .null, .null, .int 0])), (q1, .inl (cA 0, 8, .inl (fun _ => 0))), (q2, .inl (cA 0, 8, .inl (fun _ => 0)))] := hD
  refine W.widen (k := 2) (n := 16) (Nat.le_of_ble_eq_true rfl) (Nat.le_of_ble_eq_true rfl) ?_
  refine va_putF (D := D) (ci := 1) (v := .ref q2) (ty := .array .int) (C := RX1) (T := TX1) (N := 5) hx hb hts inZ1 tyX1 tyX1_ok nmX1 hown hK hP hD hS 0 rfl rfl 1 (by decide) (hts _ fX1_15.1) (fun _ h9 => h9) rfl hin rfl (by decide +kernel) rfl rfl (Nat.le_of_ble_eq_true rfl) dX1_init_17 (fun H locs hP hD hS => ?_)
  have hP : va_P D vwCl [(h0, .inr (1, [.ref q1, .ref q2, .null, .null, .int 0])), (q1, .inl (cA 0, 8, .inl (fun _ => 0))), (q2, .inl (cA 0, 8, .inl (fun _ => 0)))] H := hP
  have hD : va_D A [(h0, .inr (1, [.ref q1, .ref q2, .null, .null, .int 0])), (q1, .inl (cA 0, 8, .inl (fun _ => 0))), (q2, .inl (cA 0, 8, .inl (fun _ => 0)))] := hD
  refine lv_aload_n hx hb dX1_init_20 rfl (lv_at hl 0 rfl) ?_
  refine lv_bipush (v := 8) hx hb dX1_init_21 (by decide) ?_
  refine va_newa (atype := .int) (ty := .int) hx hb (hts _ aC_int) rfl hK hP hD hS hA (a0 := (8, .inl (fun _ => 0))) (fun _ => rfl) (by decide) (N' := 8) (by decide) (Nat.le_of_ble_eq_true rfl) (Nat.le_of_ble_eq_true rfl) (Nat.le_of_ble_eq_true rfl) dX1_init_23 (fun q3 cq H hKq hP hD hS => ?_)
  have eq : cq = cA 0 := zcls hKq 0 5 rfl rfl
  subst eq
  clear hKq
  have hP : va_P D vwCl [(h0, .inr (1, [.ref q1, .ref q2, .null, .null, .int 0])), (q1, .inl (cA 0, 8, .inl (fun _ => 0))), (q2, .inl (cA 0, 8, .inl (fun _ => 0))), (q3, .inl (cA 0, 8, .inl (fun _ => 0)))] H := hP
  have hD : va_D A [(h0, .inr (1, [.ref q1, .ref q2, .null, .null, .int 0])), (q1, .inl (cA 0, 8, .inl (fun _ => 0))), (q2, .inl (cA 0, 8, .inl (fun _ => 0))), (q3, .inl (cA 0, 8, .inl (fun _ => 0)))] := hD
  refine W.widen (k := 3) (n := 24) (Nat.le_of_ble_eq_true rfl) (Nat.le_of_ble_eq_true rfl) ?_
  refine va_putF (D := D) (ci := 1) (v := .ref q3) (ty := .array .int) (C := RX1) (T := TX1) (N := 5) hx hb hts inZ1 tyX1 tyX1_ok nmX1 hown hK hP hD hS 0 rfl rfl 2 (by decide) (hts _ fX1_18.1) (fun _ h9 => h9) rfl hin rfl (by decide +kernel) rfl rfl (Nat.le_of_ble_eq_true rfl) dX1_init_25 (fun H locs hP hD hS => ?_)
  have hP : va_P D vwCl [(h0, .inr (1, [.ref q1, .ref q2, .ref q3, .null, .int 0])), (q1, .inl (cA 0, 8, .inl (fun _ => 0))), (q2, .inl (cA 0, 8, .inl (fun _ => 0))), (q3, .inl (cA 0, 8, .inl (fun _ => 0)))] H := hP
  have hD : va_D A [(h0, .inr (1, [.ref q1, .ref q2, .ref q3, .null, .int 0])), (q1, .inl (cA 0, 8, .inl (fun _ => 0))), (q2, .inl (cA 0, 8, .inl (fun _ => 0))), (q3, .inl (cA 0, 8, .inl (fun _ => 0)))] := hD
  refine lv_aload_n hx hb dX1_init_28 rfl (lv_at hl 0 rfl) ?_
  refine lv_bipush (v := 8) hx hb dX1_init_29 (by decide) ?_
  refine va_newa (atype := .int) (ty := .int) hx hb (hts _ aC_int) rfl hK hP hD hS hA (a0 := (8, .inl (fun _ => 0))) (fun _ => rfl) (by decide) (N' := 8) (by decide) (Nat.le_of_ble_eq_true rfl) (Nat.le_of_ble_eq_true rfl) (Nat.le_of_ble_eq_true rfl) dX1_init_31 (fun q4 cq H hKq hP hD hS => ?_)
  have eq : cq = cA 0 := zcls hKq 0 5 rfl rfl
  subst eq
  clear hKq
  have hP : va_P D vwCl [(h0, .inr (1, [.ref q1, .ref q2, .ref q3, .null, .int 0])), (q1, .inl (cA 0, 8, .inl (fun _ => 0))), (q2, .inl (cA 0, 8, .inl (fun _ => 0))), (q3, .inl (cA 0, 8, .inl (fun _ => 0))), (q4, .inl (cA 0, 8, .inl (fun _ => 0)))] H := hP
  have hD : va_D A [(h0, .inr (1, [.ref q1, .ref q2, .ref q3, .null, .int 0])), (q1, .inl (cA 0, 8, .inl (fun _ => 0))), (q2, .inl (cA 0, 8, .inl (fun _ => 0))), (q3, .inl (cA 0, 8, .inl (fun _ => 0))), (q4, .inl (cA 0, 8, .inl (fun _ => 0)))] := hD
  refine W.widen (k := 4) (n := 32) (Nat.le_of_ble_eq_true rfl) (Nat.le_of_ble_eq_true rfl) ?_
  refine va_putF (D := D) (ci := 1) (v := .ref q4) (ty := .array .int) (C := RX1) (T := TX1) (N := 5) hx hb hts inZ1 tyX1 tyX1_ok nmX1 hown hK hP hD hS 0 rfl rfl 3 (by decide) (hts _ fX1_21.1) (fun _ h9 => h9) rfl hin rfl (by decide +kernel) rfl rfl (Nat.le_of_ble_eq_true rfl) dX1_init_33 (fun H locs hP hD hS => ?_)
  have hP : va_P D vwCl [(h0, .inr (1, [.ref q1, .ref q2, .ref q3, .ref q4, .int 0])), (q1, .inl (cA 0, 8, .inl (fun _ => 0))), (q2, .inl (cA 0, 8, .inl (fun _ => 0))), (q3, .inl (cA 0, 8, .inl (fun _ => 0))), (q4, .inl (cA 0, 8, .inl (fun _ => 0)))] H := hP
  have hD : va_D A [(h0, .inr (1, [.ref q1, .ref q2, .ref q3, .ref q4, .int 0])), (q1, .inl (cA 0, 8, .inl (fun _ => 0))), (q2, .inl (cA 0, 8, .inl (fun _ => 0))), (q3, .inl (cA 0, 8, .inl (fun _ => 0))), (q4, .inl (cA 0, 8, .inl (fun _ => 0)))] := hD
  refine lv_aload_n hx hb dX1_init_36 rfl (lv_at hl 0 rfl) ?_
  refine lv_iconst (v := 0) hx hb dX1_init_37 (by decide) ?_
  refine va_put (D := D) (ci := 1) (v := .int 0) (ty := .int) (C := RX1) (T := TX1) (N := 5) hx hb hts inZ1 tyX1 tyX1_ok nmX1 hown hK hP hD hS 0 rfl rfl 4 (by decide) (hts _ fX1_24.1) (fun _ h9 => h9) rfl (by decide +kernel) rfl rfl (Nat.le_of_ble_eq_true rfl) dX1_init_38 (fun H locs hP hD hS => ?_)
  have hP : va_P D vwCl [(h0, .inr (1, [.ref q1, .ref q2, .ref q3, .ref q4, .int 0])), (q1, .inl (cA 0, 8, .inl (fun _ => 0))), (q2, .inl (cA 0, 8, .inl (fun _ => 0))), (q3, .inl (cA 0, 8, .inl (fun _ => 0))), (q4, .inl (cA 0, 8, .inl (fun _ => 0)))] H := hP
  have hD : va_D A [(h0, .inr (1, [.ref q1, .ref q2, .ref q3, .ref q4, .int 0])), (q1, .inl (cA 0, 8, .inl (fun _ => 0))), (q2, .inl (cA 0, 8, .inl (fun _ => 0))), (q3, .inl (cA 0, 8, .inl (fun _ => 0))), (q4, .inl (cA 0, 8, .inl (fun _ => 0)))] := hD
  exact W.vret hx hb hr (fun t ht hW => ⟨⟨(fun k => match k with | 0 => q1 | 1 => q2 | 2 => q3 | _ => q4), rfl, trivial, by rw [ht]; exact hP, va_K.moved hW.alike hK, hD⟩, hS.F ht⟩) hS.2.2 dX1_init_41
set_option maxHeartbeats 8000000 in
set_option maxRecDepth 100000 in
theorem nX2 (l : Launch) (D : va_G) (cA : Nat → ClassId) (h0 sz : Nat) : Met l yX2_init (zws yX2_init cX2_init 1 none) ({ frames := 1, cells := 5, slots := 160, locals := 20 }) (va_Pc [.ref h0] (zIPre D cA [(h0, .inr (2, [.null, .null, .null, .null, .null, .int 0, .int 0, .long 0, .int 0, .int 0]))] sz)) (va_Qv (fun _ : Nat → Nat => True) (fun a t => va_P D vwCl [(h0, .inr (2, [.ref (a 0), .ref (a 1), .ref (a 2), .ref (a 3), .ref (a 4), .int 0, .int 1, .long 0, .int 0, .int 0])), ((a 0), .inl (cA 1, 32, .inr (.inl (fun _ => 0)))), ((a 1), .inl (cA 0, 32, .inl (fun _ => 0))), ((a 2), .inl (cA 2, 32, .inl (fun _ => 0))), ((a 3), .inl (cA 0, 32, .inl (fun _ => 0))), ((a 4), .inl (cA 1, 32, .inr (.inl (fun _ => 0))))] t.heap ∧ va_K D vwCl (zTY cA) t ∧ va_D (va_A [(h0, .inr (2, [.null, .null, .null, .null, .null, .int 0, .int 0, .long 0, .int 0, .int 0]))] sz) [(h0, .inr (2, [.ref (a 0), .ref (a 1), .ref (a 2), .ref (a 3), .ref (a 4), .int 0, .int 1, .long 0, .int 0, .int 0])), ((a 0), .inl (cA 1, 32, .inr (.inl (fun _ => 0)))), ((a 1), .inl (cA 0, 32, .inl (fun _ => 0))), ((a 2), .inl (cA 2, 32, .inl (fun _ => 0))), ((a 3), .inl (cA 0, 32, .inl (fun _ => 0))), ((a 4), .inl (cA 1, 32, .inr (.inl (fun _ => 0))))]) (va_A [(h0, .inr (2, [.null, .null, .null, .null, .null, .int 0, .int 0, .long 0, .int 0, .int 0]))] sz)) 5 160 (va_A [(h0, .inr (2, [.null, .null, .null, .null, .null, .int 0, .int 0, .long 0, .int 0, .int 0]))] sz) := by
  refine Met.ofW (cc := cX2_init) (maxL := 1) (ret := none) (by decide +kernel) rfl ?_
  intro p e s m args below meth c s₁ B hml hv
  obtain ⟨rfl, hsz, hP, hK, hD0⟩ := hv
  have hx := B.exec
  have hb := B.bytes
  have hr := B.returns
  have hts := zws_spec (atoms_spec (ws := zws yX2_init cX2_init 1 none) B.pre)
  have hown : s.vm.findClass RX2 = some m.cls := findClass_of_methodNamed B.named
  have hin : meth.name = "<init>" := (name_of_methodNamed B.named B.method).1
  subst hsz
  have hD := hD0.self (sz := s.heap.size)
  generalize hAe : va_A [(h0, .inr (2, [.null, .null, .null, .null, .null, .int 0, .int 0, .long 0, .int 0, .int 0]))] s.heap.size = A at hD ⊢
  have hA : ∀ q : Nat, s.heap.size ≤ q → A q := fun q h => by rw [← hAe]; exact Or.inr h
  have hS : va_S A s.heap s.heap [] := va_S.rf
  have hl := lv_entry ([.ref h0]) (n := 1) (Nat.le_of_ble_eq_true rfl)
  rw [lg_entry_eq]
  generalize (lg_sl ([.ref h0]) ++ List.replicate (1 - (lg_sl ([.ref h0])).length) Slot.unset).toArray = ls at hl ⊢
  have hl : lv_has ls 1 [(0, .ref h0)] := hl
  refine lv_aload_n hx hb dX2_init_0 rfl (lv_at hl 0 rfl) ?_
  refine W.objInit hx hb hown (hts _ oL_RX2) (hts _ oI1) (hts _ oI2) rfl (by rw [hml]; exact hl.1) rfl dX2_init_1 (Nat.le_of_ble_eq_true rfl) (Nat.le_of_ble_eq_true rfl) ?_
  refine lv_aload_n hx hb dX2_init_4 rfl (lv_at hl 0 rfl) ?_
  refine lv_bipush (v := 32) hx hb dX2_init_5 (by decide) ?_
  refine va_newa (atype := .long) (ty := .long) hx hb (hts _ aC_long) rfl hK hP hD hS hA (a0 := (32, .inr (.inl (fun _ => 0)))) (fun _ => rfl) (by decide) (N' := 32) (by decide) (Nat.le_of_ble_eq_true rfl) (Nat.le_of_ble_eq_true rfl) (Nat.le_of_ble_eq_true rfl) dX2_init_7 (fun q1 cq H hKq hP hD hS => ?_)
  have eq : cq = cA 1 := zcls hKq 1 5 rfl rfl
  subst eq
  clear hKq
  have hP : va_P D vwCl [(h0, .inr (2, [.null, .null, .null, .null, .null, .int 0, .int 0, .long 0, .int 0, .int 0])), (q1, .inl (cA 1, 32, .inr (.inl (fun _ => 0))))] H := hP
  have hD : va_D A [(h0, .inr (2, [.null, .null, .null, .null, .null, .int 0, .int 0, .long 0, .int 0, .int 0])), (q1, .inl (cA 1, 32, .inr (.inl (fun _ => 0))))] := hD
  refine W.widen (k := 1) (n := 32) (Nat.le_of_ble_eq_true rfl) (Nat.le_of_ble_eq_true rfl) ?_
  refine va_putF (D := D) (ci := 2) (v := .ref q1) (ty := .array .long) (C := RX2) (T := TX2) (N := 10) hx hb hts inZ2 tyX2 tyX2_ok nmX2 hown hK hP hD hS 0 rfl rfl 0 (by decide) (hts _ fX2_9.1) (fun _ h9 => h9) rfl hin rfl (by decide +kernel) rfl rfl (Nat.le_of_ble_eq_true rfl) dX2_init_9 (fun H locs hP hD hS => ?_)
  have hP : va_P D vwCl [(h0, .inr (2, [.ref q1, .null, .null, .null, .null, .int 0, .int 0, .long 0, .int 0, .int 0])), (q1, .inl (cA 1, 32, .inr (.inl (fun _ => 0))))] H := hP
  have hD : va_D A [(h0, .inr (2, [.ref q1, .null, .null, .null, .null, .int 0, .int 0, .long 0, .int 0, .int 0])), (q1, .inl (cA 1, 32, .inr (.inl (fun _ => 0))))] := hD
  refine lv_aload_n hx hb dX2_init_12 rfl (lv_at hl 0 rfl) ?_
  refine lv_bipush (v := 32) hx hb dX2_init_13 (by decide) ?_
  refine va_newa (atype := .int) (ty := .int) hx hb (hts _ aC_int) rfl hK hP hD hS hA (a0 := (32, .inl (fun _ => 0))) (fun _ => rfl) (by decide) (N' := 32) (by decide) (Nat.le_of_ble_eq_true rfl) (Nat.le_of_ble_eq_true rfl) (Nat.le_of_ble_eq_true rfl) dX2_init_15 (fun q2 cq H hKq hP hD hS => ?_)
  have eq : cq = cA 0 := zcls hKq 0 5 rfl rfl
  subst eq
  clear hKq
  have hP : va_P D vwCl [(h0, .inr (2, [.ref q1, .null, .null, .null, .null, .int 0, .int 0, .long 0, .int 0, .int 0])), (q1, .inl (cA 1, 32, .inr (.inl (fun _ => 0)))), (q2, .inl (cA 0, 32, .inl (fun _ => 0)))] H := hP
  have hD : va_D A [(h0, .inr (2, [.ref q1, .null, .null, .null, .null, .int 0, .int 0, .long 0, .int 0, .int 0])), (q1, .inl (cA 1, 32, .inr (.inl (fun _ => 0)))), (q2, .inl (cA 0, 32, .inl (fun _ => 0)))] := hD
  refine W.widen (k := 2) (n := 64) (Nat.le_of_ble_eq_true rfl) (Nat.le_of_ble_eq_true rfl) ?_
  refine va_putF (D := D) (ci := 2) (v := .ref q2) (ty := .array .int) (C := RX2) (T := TX2) (N := 10) hx hb hts inZ2 tyX2 tyX2_ok nmX2 hown hK hP hD hS 0 rfl rfl 1 (by decide) (hts _ fX2_15.1) (fun _ h9 => h9) rfl hin rfl (by decide +kernel) rfl rfl (Nat.le_of_ble_eq_true rfl) dX2_init_17 (fun H locs hP hD hS => ?_)
  have hP : va_P D vwCl [(h0, .inr (2, [.ref q1, .ref q2, .null, .null, .null, .int 0, .int 0, .long 0, .int 0, .int 0])), (q1, .inl (cA 1, 32, .inr (.inl (fun _ => 0)))), (q2, .inl (cA 0, 32, .inl (fun _ => 0)))] H := hP
  have hD : va_D A [(h0, .inr (2, [.ref q1, .ref q2, .null, .null, .null, .int 0, .int 0, .long 0, .int 0, .int 0])), (q1, .inl (cA 1, 32, .inr (.inl (fun _ => 0)))), (q2, .inl (cA 0, 32, .inl (fun _ => 0)))] := hD
  refine lv_aload_n hx hb dX2_init_20 rfl (lv_at hl 0 rfl) ?_
  refine lv_bipush (v := 32) hx hb dX2_init_21 (by decide) ?_
  refine va_newa (atype := .boolean) (ty := .boolean) hx hb (hts _ aC_boolean) rfl hK hP hD hS hA (a0 := (32, .inl (fun _ => 0))) (fun _ => rfl) (by decide) (N' := 32) (by decide) (Nat.le_of_ble_eq_true rfl) (Nat.le_of_ble_eq_true rfl) (Nat.le_of_ble_eq_true rfl) dX2_init_23 (fun q3 cq H hKq hP hD hS => ?_)
  have eq : cq = cA 2 := zcls hKq 2 5 rfl rfl
  subst eq
  clear hKq
  have hP : va_P D vwCl [(h0, .inr (2, [.ref q1, .ref q2, .null, .null, .null, .int 0, .int 0, .long 0, .int 0, .int 0])), (q1, .inl (cA 1, 32, .inr (.inl (fun _ => 0)))), (q2, .inl (cA 0, 32, .inl (fun _ => 0))), (q3, .inl (cA 2, 32, .inl (fun _ => 0)))] H := hP
  have hD : va_D A [(h0, .inr (2, [.ref q1, .ref q2, .null, .null, .null, .int 0, .int 0, .long 0, .int 0, .int 0])), (q1, .inl (cA 1, 32, .inr (.inl (fun _ => 0)))), (q2, .inl (cA 0, 32, .inl (fun _ => 0))), (q3, .inl (cA 2, 32, .inl (fun _ => 0)))] := hD
  refine W.widen (k := 3) (n := 96) (Nat.le_of_ble_eq_true rfl) (Nat.le_of_ble_eq_true rfl) ?_
  refine va_putF (D := D) (ci := 2) (v := .ref q3) (ty := .array .boolean) (C := RX2) (T := TX2) (N := 10) hx hb hts inZ2 tyX2 tyX2_ok nmX2 hown hK hP hD hS 0 rfl rfl 2 (by decide) (hts _ fX2_19.1) (fun _ h9 => h9) rfl hin rfl (by decide +kernel) rfl rfl (Nat.le_of_ble_eq_true rfl) dX2_init_25 (fun H locs hP hD hS => ?_)
  have hP : va_P D vwCl [(h0, .inr (2, [.ref q1, .ref q2, .ref q3, .null, .null, .int 0, .int 0, .long 0, .int 0, .int 0])), (q1, .inl (cA 1, 32, .inr (.inl (fun _ => 0)))), (q2, .inl (cA 0, 32, .inl (fun _ => 0))), (q3, .inl (cA 2, 32, .inl (fun _ => 0)))] H := hP
  have hD : va_D A [(h0, .inr (2, [.ref q1, .ref q2, .ref q3, .null, .null, .int 0, .int 0, .long 0, .int 0, .int 0])), (q1, .inl (cA 1, 32, .inr (.inl (fun _ => 0)))), (q2, .inl (cA 0, 32, .inl (fun _ => 0))), (q3, .inl (cA 2, 32, .inl (fun _ => 0)))] := hD
  refine lv_aload_n hx hb dX2_init_28 rfl (lv_at hl 0 rfl) ?_
  refine lv_bipush (v := 32) hx hb dX2_init_29 (by decide) ?_
  refine va_newa (atype := .int) (ty := .int) hx hb (hts _ aC_int) rfl hK hP hD hS hA (a0 := (32, .inl (fun _ => 0))) (fun _ => rfl) (by decide) (N' := 32) (by decide) (Nat.le_of_ble_eq_true rfl) (Nat.le_of_ble_eq_true rfl) (Nat.le_of_ble_eq_true rfl) dX2_init_31 (fun q4 cq H hKq hP hD hS => ?_)
  have eq : cq = cA 0 := zcls hKq 0 5 rfl rfl
  subst eq
  clear hKq
  have hP : va_P D vwCl [(h0, .inr (2, [.ref q1, .ref q2, .ref q3, .null, .null, .int 0, .int 0, .long 0, .int 0, .int 0])), (q1, .inl (cA 1, 32, .inr (.inl (fun _ => 0)))), (q2, .inl (cA 0, 32, .inl (fun _ => 0))), (q3, .inl (cA 2, 32, .inl (fun _ => 0))), (q4, .inl (cA 0, 32, .inl (fun _ => 0)))] H := hP
  have hD : va_D A [(h0, .inr (2, [.ref q1, .ref q2, .ref q3, .null, .null, .int 0, .int 0, .long 0, .int 0, .int 0])), (q1, .inl (cA 1, 32, .inr (.inl (fun _ => 0)))), (q2, .inl (cA 0, 32, .inl (fun _ => 0))), (q3, .inl (cA 2, 32, .inl (fun _ => 0))), (q4, .inl (cA 0, 32, .inl (fun _ => 0)))] := hD
  refine W.widen (k := 4) (n := 128) (Nat.le_of_ble_eq_true rfl) (Nat.le_of_ble_eq_true rfl) ?_
  refine va_putF (D := D) (ci := 2) (v := .ref q4) (ty := .array .int) (C := RX2) (T := TX2) (N := 10) hx hb hts inZ2 tyX2 tyX2_ok nmX2 hown hK hP hD hS 0 rfl rfl 3 (by decide) (hts _ fX2_23.1) (fun _ h9 => h9) rfl hin rfl (by decide +kernel) rfl rfl (Nat.le_of_ble_eq_true rfl) dX2_init_33 (fun H locs hP hD hS => ?_)
  have hP : va_P D vwCl [(h0, .inr (2, [.ref q1, .ref q2, .ref q3, .ref q4, .null, .int 0, .int 0, .long 0, .int 0, .int 0])), (q1, .inl (cA 1, 32, .inr (.inl (fun _ => 0)))), (q2, .inl (cA 0, 32, .inl (fun _ => 0))), (q3, .inl (cA 2, 32, .inl (fun _ => 0))), (q4, .inl (cA 0, 32, .inl (fun _ => 0)))] H := hP
  have hD : va_D A [(h0, .inr (2, [.ref q1, .ref q2, .ref q3, .ref q4, .null, .int 0, .int 0, .long 0, .int 0, .int 0])), (q1, .inl (cA 1, 32, .inr (.inl (fun _ => 0)))), (q2, .inl (cA 0, 32, .inl (fun _ => 0))), (q3, .inl (cA 2, 32, .inl (fun _ => 0))), (q4, .inl (cA 0, 32, .inl (fun _ => 0)))] := hD
  refine lv_aload_n hx hb dX2_init_36 rfl (lv_at hl 0 rfl) ?_
  refine lv_bipush (v := 32) hx hb dX2_init_37 (by decide) ?_
  refine va_newa (atype := .long) (ty := .long) hx hb (hts _ aC_long) rfl hK hP hD hS hA (a0 := (32, .inr (.inl (fun _ => 0)))) (fun _ => rfl) (by decide) (N' := 32) (by decide) (Nat.le_of_ble_eq_true rfl) (Nat.le_of_ble_eq_true rfl) (Nat.le_of_ble_eq_true rfl) dX2_init_39 (fun q5 cq H hKq hP hD hS => ?_)
  have eq : cq = cA 1 := zcls hKq 1 5 rfl rfl
  subst eq
  clear hKq
  have hP : va_P D vwCl [(h0, .inr (2, [.ref q1, .ref q2, .ref q3, .ref q4, .null, .int 0, .int 0, .long 0, .int 0, .int 0])), (q1, .inl (cA 1, 32, .inr (.inl (fun _ => 0)))), (q2, .inl (cA 0, 32, .inl (fun _ => 0))), (q3, .inl (cA 2, 32, .inl (fun _ => 0))), (q4, .inl (cA 0, 32, .inl (fun _ => 0))), (q5, .inl (cA 1, 32, .inr (.inl (fun _ => 0))))] H := hP
  have hD : va_D A [(h0, .inr (2, [.ref q1, .ref q2, .ref q3, .ref q4, .null, .int 0, .int 0, .long 0, .int 0, .int 0])), (q1, .inl (cA 1, 32, .inr (.inl (fun _ => 0)))), (q2, .inl (cA 0, 32, .inl (fun _ => 0))), (q3, .inl (cA 2, 32, .inl (fun _ => 0))), (q4, .inl (cA 0, 32, .inl (fun _ => 0))), (q5, .inl (cA 1, 32, .inr (.inl (fun _ => 0))))] := hD
  refine W.widen (k := 5) (n := 160) (Nat.le_of_ble_eq_true rfl) (Nat.le_of_ble_eq_true rfl) ?_
  refine va_putF (D := D) (ci := 2) (v := .ref q5) (ty := .array .long) (C := RX2) (T := TX2) (N := 10) hx hb hts inZ2 tyX2 tyX2_ok nmX2 hown hK hP hD hS 0 rfl rfl 4 (by decide) (hts _ fX2_26.1) (fun _ h9 => h9) rfl hin rfl (by decide +kernel) rfl rfl (Nat.le_of_ble_eq_true rfl) dX2_init_41 (fun H locs hP hD hS => ?_)
  have hP : va_P D vwCl [(h0, .inr (2, [.ref q1, .ref q2, .ref q3, .ref q4, .ref q5, .int 0, .int 0, .long 0, .int 0, .int 0])), (q1, .inl (cA 1, 32, .inr (.inl (fun _ => 0)))), (q2, .inl (cA 0, 32, .inl (fun _ => 0))), (q3, .inl (cA 2, 32, .inl (fun _ => 0))), (q4, .inl (cA 0, 32, .inl (fun _ => 0))), (q5, .inl (cA 1, 32, .inr (.inl (fun _ => 0))))] H := hP
  have hD : va_D A [(h0, .inr (2, [.ref q1, .ref q2, .ref q3, .ref q4, .ref q5, .int 0, .int 0, .long 0, .int 0, .int 0])), (q1, .inl (cA 1, 32, .inr (.inl (fun _ => 0)))), (q2, .inl (cA 0, 32, .inl (fun _ => 0))), (q3, .inl (cA 2, 32, .inl (fun _ => 0))), (q4, .inl (cA 0, 32, .inl (fun _ => 0))), (q5, .inl (cA 1, 32, .inr (.inl (fun _ => 0))))] := hD
  refine lv_aload_n hx hb dX2_init_44 rfl (lv_at hl 0 rfl) ?_
  refine lv_iconst (v := 0) hx hb dX2_init_45 (by decide) ?_
  refine va_put (D := D) (ci := 2) (v := .int 0) (ty := .int) (C := RX2) (T := TX2) (N := 10) hx hb hts inZ2 tyX2 tyX2_ok nmX2 hown hK hP hD hS 0 rfl rfl 5 (by decide) (hts _ fX2_29.1) (fun _ h9 => h9) rfl (by decide +kernel) rfl rfl (Nat.le_of_ble_eq_true rfl) dX2_init_46 (fun H locs hP hD hS => ?_)
  have hP : va_P D vwCl [(h0, .inr (2, [.ref q1, .ref q2, .ref q3, .ref q4, .ref q5, .int 0, .int 0, .long 0, .int 0, .int 0])), (q1, .inl (cA 1, 32, .inr (.inl (fun _ => 0)))), (q2, .inl (cA 0, 32, .inl (fun _ => 0))), (q3, .inl (cA 2, 32, .inl (fun _ => 0))), (q4, .inl (cA 0, 32, .inl (fun _ => 0))), (q5, .inl (cA 1, 32, .inr (.inl (fun _ => 0))))] H := hP
  have hD : va_D A [(h0, .inr (2, [.ref q1, .ref q2, .ref q3, .ref q4, .ref q5, .int 0, .int 0, .long 0, .int 0, .int 0])), (q1, .inl (cA 1, 32, .inr (.inl (fun _ => 0)))), (q2, .inl (cA 0, 32, .inl (fun _ => 0))), (q3, .inl (cA 2, 32, .inl (fun _ => 0))), (q4, .inl (cA 0, 32, .inl (fun _ => 0))), (q5, .inl (cA 1, 32, .inr (.inl (fun _ => 0))))] := hD
  refine lv_aload_n hx hb dX2_init_49 rfl (lv_at hl 0 rfl) ?_
  refine lv_iconst (v := 1) hx hb dX2_init_50 (by decide) ?_
  refine va_put (D := D) (ci := 2) (v := .int 1) (ty := .int) (C := RX2) (T := TX2) (N := 10) hx hb hts inZ2 tyX2 tyX2_ok nmX2 hown hK hP hD hS 0 rfl rfl 6 (by decide) (hts _ fX2_33.1) (fun _ h9 => h9) rfl (by decide +kernel) rfl rfl (Nat.le_of_ble_eq_true rfl) dX2_init_51 (fun H locs hP hD hS => ?_)
  have hP : va_P D vwCl [(h0, .inr (2, [.ref q1, .ref q2, .ref q3, .ref q4, .ref q5, .int 0, .int 1, .long 0, .int 0, .int 0])), (q1, .inl (cA 1, 32, .inr (.inl (fun _ => 0)))), (q2, .inl (cA 0, 32, .inl (fun _ => 0))), (q3, .inl (cA 2, 32, .inl (fun _ => 0))), (q4, .inl (cA 0, 32, .inl (fun _ => 0))), (q5, .inl (cA 1, 32, .inr (.inl (fun _ => 0))))] H := hP
  have hD : va_D A [(h0, .inr (2, [.ref q1, .ref q2, .ref q3, .ref q4, .ref q5, .int 0, .int 1, .long 0, .int 0, .int 0])), (q1, .inl (cA 1, 32, .inr (.inl (fun _ => 0)))), (q2, .inl (cA 0, 32, .inl (fun _ => 0))), (q3, .inl (cA 2, 32, .inl (fun _ => 0))), (q4, .inl (cA 0, 32, .inl (fun _ => 0))), (q5, .inl (cA 1, 32, .inr (.inl (fun _ => 0))))] := hD
  refine lv_aload_n hx hb dX2_init_54 rfl (lv_at hl 0 rfl) ?_
  refine lv_lconst (v := 0) hx hb dX2_init_55 (by decide) ?_
  refine va_put (D := D) (ci := 2) (v := .long 0) (ty := .long) (C := RX2) (T := TX2) (N := 10) hx hb hts inZ2 tyX2 tyX2_ok nmX2 hown hK hP hD hS 0 rfl rfl 7 (by decide) (hts _ fX2_36.1) (fun _ h9 => h9) rfl (by decide +kernel) rfl rfl (Nat.le_of_ble_eq_true rfl) dX2_init_56 (fun H locs hP hD hS => ?_)
  have hP : va_P D vwCl [(h0, .inr (2, [.ref q1, .ref q2, .ref q3, .ref q4, .ref q5, .int 0, .int 1, .long 0, .int 0, .int 0])), (q1, .inl (cA 1, 32, .inr (.inl (fun _ => 0)))), (q2, .inl (cA 0, 32, .inl (fun _ => 0))), (q3, .inl (cA 2, 32, .inl (fun _ => 0))), (q4, .inl (cA 0, 32, .inl (fun _ => 0))), (q5, .inl (cA 1, 32, .inr (.inl (fun _ => 0))))] H := hP
  have hD : va_D A [(h0, .inr (2, [.ref q1, .ref q2, .ref q3, .ref q4, .ref q5, .int 0, .int 1, .long 0, .int 0, .int 0])), (q1, .inl (cA 1, 32, .inr (.inl (fun _ => 0)))), (q2, .inl (cA 0, 32, .inl (fun _ => 0))), (q3, .inl (cA 2, 32, .inl (fun _ => 0))), (q4, .inl (cA 0, 32, .inl (fun _ => 0))), (q5, .inl (cA 1, 32, .inr (.inl (fun _ => 0))))] := hD
  refine lv_aload_n hx hb dX2_init_59 rfl (lv_at hl 0 rfl) ?_
  refine lv_iconst (v := 0) hx hb dX2_init_60 (by decide) ?_
  refine va_put (D := D) (ci := 2) (v := .int 0) (ty := .int) (C := RX2) (T := TX2) (N := 10) hx hb hts inZ2 tyX2 tyX2_ok nmX2 hown hK hP hD hS 0 rfl rfl 8 (by decide) (hts _ fX2_40.1) (fun _ h9 => h9) rfl (by decide +kernel) rfl rfl (Nat.le_of_ble_eq_true rfl) dX2_init_61 (fun H locs hP hD hS => ?_)
  have hP : va_P D vwCl [(h0, .inr (2, [.ref q1, .ref q2, .ref q3, .ref q4, .ref q5, .int 0, .int 1, .long 0, .int 0, .int 0])), (q1, .inl (cA 1, 32, .inr (.inl (fun _ => 0)))), (q2, .inl (cA 0, 32, .inl (fun _ => 0))), (q3, .inl (cA 2, 32, .inl (fun _ => 0))), (q4, .inl (cA 0, 32, .inl (fun _ => 0))), (q5, .inl (cA 1, 32, .inr (.inl (fun _ => 0))))] H := hP
  have hD : va_D A [(h0, .inr (2, [.ref q1, .ref q2, .ref q3, .ref q4, .ref q5, .int 0, .int 1, .long 0, .int 0, .int 0])), (q1, .inl (cA 1, 32, .inr (.inl (fun _ => 0)))), (q2, .inl (cA 0, 32, .inl (fun _ => 0))), (q3, .inl (cA 2, 32, .inl (fun _ => 0))), (q4, .inl (cA 0, 32, .inl (fun _ => 0))), (q5, .inl (cA 1, 32, .inr (.inl (fun _ => 0))))] := hD
  refine lv_aload_n hx hb dX2_init_64 rfl (lv_at hl 0 rfl) ?_
  refine lv_iconst (v := 0) hx hb dX2_init_65 (by decide) ?_
  refine va_put (D := D) (ci := 2) (v := .int 0) (ty := .int) (C := RX2) (T := TX2) (N := 10) hx hb hts inZ2 tyX2 tyX2_ok nmX2 hown hK hP hD hS 0 rfl rfl 9 (by decide) (hts _ fX2_43.1) (fun _ h9 => h9) rfl (by decide +kernel) rfl rfl (Nat.le_of_ble_eq_true rfl) dX2_init_66 (fun H locs hP hD hS => ?_)
  have hP : va_P D vwCl [(h0, .inr (2, [.ref q1, .ref q2, .ref q3, .ref q4, .ref q5, .int 0, .int 1, .long 0, .int 0, .int 0])), (q1, .inl (cA 1, 32, .inr (.inl (fun _ => 0)))), (q2, .inl (cA 0, 32, .inl (fun _ => 0))), (q3, .inl (cA 2, 32, .inl (fun _ => 0))), (q4, .inl (cA 0, 32, .inl (fun _ => 0))), (q5, .inl (cA 1, 32, .inr (.inl (fun _ => 0))))] H := hP
  have hD : va_D A [(h0, .inr (2, [.ref q1, .ref q2, .ref q3, .ref q4, .ref q5, .int 0, .int 1, .long 0, .int 0, .int 0])), (q1, .inl (cA 1, 32, .inr (.inl (fun _ => 0)))), (q2, .inl (cA 0, 32, .inl (fun _ => 0))), (q3, .inl (cA 2, 32, .inl (fun _ => 0))), (q4, .inl (cA 0, 32, .inl (fun _ => 0))), (q5, .inl (cA 1, 32, .inr (.inl (fun _ => 0))))] := hD
  exact W.vret hx hb hr (fun t ht hW => ⟨⟨(fun k => match k with | 0 => q1 | 1 => q2 | 2 => q3 | 3 => q4 | _ => q5), rfl, trivial, by rw [ht]; exact hP, va_K.moved hW.alike hK, hD⟩, hS.F ht⟩) hS.2.2 dX2_init_69
set_option maxHeartbeats 8000000 in
set_option maxRecDepth 100000 in
theorem nX4 (l : Launch) (D : va_G) (cA : Nat → ClassId) (h0 sz : Nat) : Met l yX4_init (zws yX4_init cX4_init 1 none) ({ frames := 1, cells := 3, slots := 47, locals := 20 }) (va_Pc [.ref h0] (zIPre D cA [(h0, .inr (4, [.null, .null, .null, .int 0]))] sz)) (va_Qv (fun _ : Nat → Nat => True) (fun a t => va_P D vwCl [(h0, .inr (4, [.ref (a 0), .ref (a 1), .ref (a 2), .int 0])), ((a 0), .inl (cA 1, 16, .inr (.inl (fun _ => 0)))), ((a 1), .inl (cA 1, 16, .inr (.inl (fun _ => 0)))), ((a 2), .inl (cA 0, 15, .inl (fun _ => 0)))] t.heap ∧ va_K D vwCl (zTY cA) t ∧ va_D (va_A [(h0, .inr (4, [.null, .null, .null, .int 0]))] sz) [(h0, .inr (4, [.ref (a 0), .ref (a 1), .ref (a 2), .int 0])), ((a 0), .inl (cA 1, 16, .inr (.inl (fun _ => 0)))), ((a 1), .inl (cA 1, 16, .inr (.inl (fun _ => 0)))), ((a 2), .inl (cA 0, 15, .inl (fun _ => 0)))]) (va_A [(h0, .inr (4, [.null, .null, .null, .int 0]))] sz)) 3 47 (va_A [(h0, .inr (4, [.null, .null, .null, .int 0]))] sz) := by
  refine Met.ofW (cc := cX4_init) (maxL := 1) (ret := none) (by decide +kernel) rfl ?_
  intro p e s m args below meth c s₁ B hml hv
  obtain ⟨rfl, hsz, hP, hK, hD0⟩ := hv
  have hx := B.exec
  have hb := B.bytes
  have hr := B.returns
  have hts := zws_spec (atoms_spec (ws := zws yX4_init cX4_init 1 none) B.pre)
  have hown : s.vm.findClass RX4 = some m.cls := findClass_of_methodNamed B.named
  have hin : meth.name = "<init>" := (name_of_methodNamed B.named B.method).1
  subst hsz
  have hD := hD0.self (sz := s.heap.size)
  generalize hAe : va_A [(h0, .inr (4, [.null, .null, .null, .int 0]))] s.heap.size = A at hD ⊢
  have hA : ∀ q : Nat, s.heap.size ≤ q → A q := fun q h => by rw [← hAe]; exact Or.inr h
  have hS : va_S A s.heap s.heap [] := va_S.rf
  have hl := lv_entry ([.ref h0]) (n := 1) (Nat.le_of_ble_eq_true rfl)
  rw [lg_entry_eq]
  generalize (lg_sl ([.ref h0]) ++ List.replicate (1 - (lg_sl ([.ref h0])).length) Slot.unset).toArray = ls at hl ⊢
  have hl : lv_has ls 1 [(0, .ref h0)] := hl
  refine lv_aload_n hx hb dX4_init_0 rfl (lv_at hl 0 rfl) ?_
  refine W.objInit hx hb hown (hts _ oL_RX4) (hts _ oI1) (hts _ oI2) rfl (by rw [hml]; exact hl.1) rfl dX4_init_1 (Nat.le_of_ble_eq_true rfl) (Nat.le_of_ble_eq_true rfl) ?_
  refine lv_aload_n hx hb dX4_init_4 rfl (lv_at hl 0 rfl) ?_
  refine lv_bipush (v := 16) hx hb dX4_init_5 (by decide) ?_
  refine va_newa (atype := .long) (ty := .long) hx hb (hts _ aC_long) rfl hK hP hD hS hA (a0 := (16, .inr (.inl (fun _ => 0)))) (fun _ => rfl) (by decide) (N' := 16) (by decide) (Nat.le_of_ble_eq_true rfl) (Nat.le_of_ble_eq_true rfl) (Nat.le_of_ble_eq_true rfl) dX4_init_7 (fun q1 cq H hKq hP hD hS => ?_)
  have eq : cq = cA 1 := zcls hKq 1 5 rfl rfl
  subst eq
  clear hKq
  have hP : va_P D vwCl [(h0, .inr (4, [.null, .null, .null, .int 0])), (q1, .inl (cA 1, 16, .inr (.inl (fun _ => 0))))] H := hP
  have hD : va_D A [(h0, .inr (4, [.null, .null, .null, .int 0])), (q1, .inl (cA 1, 16, .inr (.inl (fun _ => 0))))] := hD
  refine W.widen (k := 1) (n := 16) (Nat.le_of_ble_eq_true rfl) (Nat.le_of_ble_eq_true rfl) ?_
  refine va_putF (D := D) (ci := 4) (v := .ref q1) (ty := .array .long) (C := RX4) (T := TX4) (N := 4) hx hb hts inZ4 tyX4 tyX4_ok nmX4 hown hK hP hD hS 0 rfl rfl 0 (by decide) (hts _ fX4_9.1) (fun _ h9 => h9) rfl hin rfl (by decide +kernel) rfl rfl (Nat.le_of_ble_eq_true rfl) dX4_init_9 (fun H locs hP hD hS => ?_)
  have hP : va_P D vwCl [(h0, .inr (4, [.ref q1, .null, .null, .int 0])), (q1, .inl (cA 1, 16, .inr (.inl (fun _ => 0))))] H := hP
  have hD : va_D A [(h0, .inr (4, [.ref q1, .null, .null, .int 0])), (q1, .inl (cA 1, 16, .inr (.inl (fun _ => 0))))] := hD
  refine lv_aload_n hx hb dX4_init_12 rfl (lv_at hl 0 rfl) ?_
  refine lv_bipush (v := 16) hx hb dX4_init_13 (by decide) ?_
  refine va_newa (atype := .long) (ty := .long) hx hb (hts _ aC_long) rfl hK hP hD hS hA (a0 := (16, .inr (.inl (fun _ => 0)))) (fun _ => rfl) (by decide) (N' := 16) (by decide) (Nat.le_of_ble_eq_true rfl) (Nat.le_of_ble_eq_true rfl) (Nat.le_of_ble_eq_true rfl) dX4_init_15 (fun q2 cq H hKq hP hD hS => ?_)
  have eq : cq = cA 1 := zcls hKq 1 5 rfl rfl
  subst eq
  clear hKq
  have hP : va_P D vwCl [(h0, .inr (4, [.ref q1, .null, .null, .int 0])), (q1, .inl (cA 1, 16, .inr (.inl (fun _ => 0)))), (q2, .inl (cA 1, 16, .inr (.inl (fun _ => 0))))] H := hP
  have hD : va_D A [(h0, .inr (4, [.ref q1, .null, .null, .int 0])), (q1, .inl (cA 1, 16, .inr (.inl (fun _ => 0)))), (q2, .inl (cA 1, 16, .inr (.inl (fun _ => 0))))] := hD
  refine W.widen (k := 2) (n := 32) (Nat.le_of_ble_eq_true rfl) (Nat.le_of_ble_eq_true rfl) ?_
  refine va_putF (D := D) (ci := 4) (v := .ref q2) (ty := .array .long) (C := RX4) (T := TX4) (N := 4) hx hb hts inZ4 tyX4 tyX4_ok nmX4 hown hK hP hD hS 0 rfl rfl 1 (by decide) (hts _ fX4_15.1) (fun _ h9 => h9) rfl hin rfl (by decide +kernel) rfl rfl (Nat.le_of_ble_eq_true rfl) dX4_init_17 (fun H locs hP hD hS => ?_)
  have hP : va_P D vwCl [(h0, .inr (4, [.ref q1, .ref q2, .null, .int 0])), (q1, .inl (cA 1, 16, .inr (.inl (fun _ => 0)))), (q2, .inl (cA 1, 16, .inr (.inl (fun _ => 0))))] H := hP
  have hD : va_D A [(h0, .inr (4, [.ref q1, .ref q2, .null, .int 0])), (q1, .inl (cA 1, 16, .inr (.inl (fun _ => 0)))), (q2, .inl (cA 1, 16, .inr (.inl (fun _ => 0))))] := hD
  refine lv_aload_n hx hb dX4_init_20 rfl (lv_at hl 0 rfl) ?_
  refine lv_bipush (v := 15) hx hb dX4_init_21 (by decide) ?_
  refine va_newa (atype := .int) (ty := .int) hx hb (hts _ aC_int) rfl hK hP hD hS hA (a0 := (15, .inl (fun _ => 0))) (fun _ => rfl) (by decide) (N' := 15) (by decide) (Nat.le_of_ble_eq_true rfl) (Nat.le_of_ble_eq_true rfl) (Nat.le_of_ble_eq_true rfl) dX4_init_23 (fun q3 cq H hKq hP hD hS => ?_)
  have eq : cq = cA 0 := zcls hKq 0 5 rfl rfl
  subst eq
  clear hKq
  have hP : va_P D vwCl [(h0, .inr (4, [.ref q1, .ref q2, .null, .int 0])), (q1, .inl (cA 1, 16, .inr (.inl (fun _ => 0)))), (q2, .inl (cA 1, 16, .inr (.inl (fun _ => 0)))), (q3, .inl (cA 0, 15, .inl (fun _ => 0)))] H := hP
  have hD : va_D A [(h0, .inr (4, [.ref q1, .ref q2, .null, .int 0])), (q1, .inl (cA 1, 16, .inr (.inl (fun _ => 0)))), (q2, .inl (cA 1, 16, .inr (.inl (fun _ => 0)))), (q3, .inl (cA 0, 15, .inl (fun _ => 0)))] := hD
  refine W.widen (k := 3) (n := 47) (Nat.le_of_ble_eq_true rfl) (Nat.le_of_ble_eq_true rfl) ?_
  refine va_putF (D := D) (ci := 4) (v := .ref q3) (ty := .array .int) (C := RX4) (T := TX4) (N := 4) hx hb hts inZ4 tyX4 tyX4_ok nmX4 hown hK hP hD hS 0 rfl rfl 2 (by decide) (hts _ fX4_18.1) (fun _ h9 => h9) rfl hin rfl (by decide +kernel) rfl rfl (Nat.le_of_ble_eq_true rfl) dX4_init_25 (fun H locs hP hD hS => ?_)
  have hP : va_P D vwCl [(h0, .inr (4, [.ref q1, .ref q2, .ref q3, .int 0])), (q1, .inl (cA 1, 16, .inr (.inl (fun _ => 0)))), (q2, .inl (cA 1, 16, .inr (.inl (fun _ => 0)))), (q3, .inl (cA 0, 15, .inl (fun _ => 0)))] H := hP
  have hD : va_D A [(h0, .inr (4, [.ref q1, .ref q2, .ref q3, .int 0])), (q1, .inl (cA 1, 16, .inr (.inl (fun _ => 0)))), (q2, .inl (cA 1, 16, .inr (.inl (fun _ => 0)))), (q3, .inl (cA 0, 15, .inl (fun _ => 0)))] := hD
  refine lv_aload_n hx hb dX4_init_28 rfl (lv_at hl 0 rfl) ?_
  refine lv_iconst (v := 0) hx hb dX4_init_29 (by decide) ?_
  refine va_put (D := D) (ci := 4) (v := .int 0) (ty := .int) (C := RX4) (T := TX4) (N := 4) hx hb hts inZ4 tyX4 tyX4_ok nmX4 hown hK hP hD hS 0 rfl rfl 3 (by decide) (hts _ fX4_22.1) (fun _ h9 => h9) rfl (by decide +kernel) rfl rfl (Nat.le_of_ble_eq_true rfl) dX4_init_30 (fun H locs hP hD hS => ?_)
  have hP : va_P D vwCl [(h0, .inr (4, [.ref q1, .ref q2, .ref q3, .int 0])), (q1, .inl (cA 1, 16, .inr (.inl (fun _ => 0)))), (q2, .inl (cA 1, 16, .inr (.inl (fun _ => 0)))), (q3, .inl (cA 0, 15, .inl (fun _ => 0)))] H := hP
  have hD : va_D A [(h0, .inr (4, [.ref q1, .ref q2, .ref q3, .int 0])), (q1, .inl (cA 1, 16, .inr (.inl (fun _ => 0)))), (q2, .inl (cA 1, 16, .inr (.inl (fun _ => 0)))), (q3, .inl (cA 0, 15, .inl (fun _ => 0)))] := hD
  exact W.vret hx hb hr (fun t ht hW => ⟨⟨(fun k => match k with | 0 => q1 | 1 => q2 | _ => q3), rfl, trivial, by rw [ht]; exact hP, va_K.moved hW.alike hK, hD⟩, hS.F ht⟩) hS.2.2 dX4_init_33
set_option maxHeartbeats 8000000 in
set_option maxRecDepth 100000 in
theorem nX3 (l : Launch) (D : va_G) (cA : Nat → ClassId) (h0 sz : Nat) : Met l yX3_init (zws yX3_init cX3_init 1 none) ({ frames := 1, cells := 3, slots := 120, locals := 20 }) (va_Pc [.ref h0] (zIPre D cA [(h0, .inr (3, [.null, .null, .null, .int 0, .int 0]))] sz)) (va_Qv (fun _ : Nat → Nat => True) (fun a t => va_P D vwCl [(h0, .inr (3, [.ref (a 0), .ref (a 1), .ref (a 2), .int (-1), .int 0])), ((a 0), .inl (cA 1, 40, .inr (.inl (fun _ => 0)))), ((a 1), .inl (cA 3, 40, .inr (.inr (.inr (.inl (fun _ => 0)))))), ((a 2), .inl (cA 2, 40, .inl (fun _ => 0)))] t.heap ∧ va_K D vwCl (zTY cA) t ∧ va_D (va_A [(h0, .inr (3, [.null, .null, .null, .int 0, .int 0]))] sz) [(h0, .inr (3, [.ref (a 0), .ref (a 1), .ref (a 2), .int (-1), .int 0])), ((a 0), .inl (cA 1, 40, .inr (.inl (fun _ => 0)))), ((a 1), .inl (cA 3, 40, .inr (.inr (.inr (.inl (fun _ => 0)))))), ((a 2), .inl (cA 2, 40, .inl (fun _ => 0)))]) (va_A [(h0, .inr (3, [.null, .null, .null, .int 0, .int 0]))] sz)) 3 120 (va_A [(h0, .inr (3, [.null, .null, .null, .int 0, .int 0]))] sz) := by
  refine Met.ofW (cc := cX3_init) (maxL := 1) (ret := none) (by decide +kernel) rfl ?_
  intro p e s m args below meth c s₁ B hml hv
  obtain ⟨rfl, hsz, hP, hK, hD0⟩ := hv
  have hx := B.exec
  have hb := B.bytes
  have hr := B.returns
  have hts := zws_spec (atoms_spec (ws := zws yX3_init cX3_init 1 none) B.pre)
  have hown : s.vm.findClass RX3 = some m.cls := findClass_of_methodNamed B.named
  have hin : meth.name = "<init>" := (name_of_methodNamed B.named B.method).1
  subst hsz
  have hD := hD0.self (sz := s.heap.size)
  generalize hAe : va_A [(h0, .inr (3, [.null, .null, .null, .int 0, .int 0]))] s.heap.size = A at hD ⊢
  have hA : ∀ q : Nat, s.heap.size ≤ q → A q := fun q h => by rw [← hAe]; exact Or.inr h
  have hS : va_S A s.heap s.heap [] := va_S.rf
  have hl := lv_entry ([.ref h0]) (n := 1) (Nat.le_of_ble_eq_true rfl)
  rw [lg_entry_eq]
  generalize (lg_sl ([.ref h0]) ++ List.replicate (1 - (lg_sl ([.ref h0])).length) Slot.unset).toArray = ls at hl ⊢
  have hl : lv_has ls 1 [(0, .ref h0)] := hl
  refine lv_aload_n hx hb dX3_init_0 rfl (lv_at hl 0 rfl) ?_
  refine W.objInit hx hb hown (hts _ oL_RX3) (hts _ oI1) (hts _ oI2) rfl (by rw [hml]; exact hl.1) rfl dX3_init_1 (Nat.le_of_ble_eq_true rfl) (Nat.le_of_ble_eq_true rfl) ?_
  refine lv_aload_n hx hb dX3_init_4 rfl (lv_at hl 0 rfl) ?_
  refine lv_bipush (v := 40) hx hb dX3_init_5 (by decide) ?_
  refine va_newa (atype := .long) (ty := .long) hx hb (hts _ aC_long) rfl hK hP hD hS hA (a0 := (40, .inr (.inl (fun _ => 0)))) (fun _ => rfl) (by decide) (N' := 40) (by decide) (Nat.le_of_ble_eq_true rfl) (Nat.le_of_ble_eq_true rfl) (Nat.le_of_ble_eq_true rfl) dX3_init_7 (fun q1 cq H hKq hP hD hS => ?_)
  have eq : cq = cA 1 := zcls hKq 1 5 rfl rfl
  subst eq
  clear hKq
  have hP : va_P D vwCl [(h0, .inr (3, [.null, .null, .null, .int 0, .int 0])), (q1, .inl (cA 1, 40, .inr (.inl (fun _ => 0))))] H := hP
  have hD : va_D A [(h0, .inr (3, [.null, .null, .null, .int 0, .int 0])), (q1, .inl (cA 1, 40, .inr (.inl (fun _ => 0))))] := hD
  refine W.widen (k := 1) (n := 40) (Nat.le_of_ble_eq_true rfl) (Nat.le_of_ble_eq_true rfl) ?_
  refine va_putF (D := D) (ci := 3) (v := .ref q1) (ty := .array .long) (C := RX3) (T := TX3) (N := 5) hx hb hts inZ3 tyX3 tyX3_ok nmX3 hown hK hP hD hS 0 rfl rfl 0 (by decide) (hts _ fX3_9.1) (fun _ h9 => h9) rfl hin rfl (by decide +kernel) rfl rfl (Nat.le_of_ble_eq_true rfl) dX3_init_9 (fun H locs hP hD hS => ?_)
  have hP : va_P D vwCl [(h0, .inr (3, [.ref q1, .null, .null, .int 0, .int 0])), (q1, .inl (cA 1, 40, .inr (.inl (fun _ => 0))))] H := hP
  have hD : va_D A [(h0, .inr (3, [.ref q1, .null, .null, .int 0, .int 0])), (q1, .inl (cA 1, 40, .inr (.inl (fun _ => 0))))] := hD
  refine lv_aload_n hx hb dX3_init_12 rfl (lv_at hl 0 rfl) ?_
  refine lv_bipush (v := 40) hx hb dX3_init_13 (by decide) ?_
  refine va_newa (atype := .double) (ty := .double) hx hb (hts _ aC_double) rfl hK hP hD hS hA (a0 := (40, .inr (.inr (.inr (.inl (fun _ => 0)))))) (fun _ => rfl) (by decide) (N' := 40) (by decide) (Nat.le_of_ble_eq_true rfl) (Nat.le_of_ble_eq_true rfl) (Nat.le_of_ble_eq_true rfl) dX3_init_15 (fun q2 cq H hKq hP hD hS => ?_)
  have eq : cq = cA 3 := zcls hKq 3 5 rfl rfl
  subst eq
  clear hKq
  have hP : va_P D vwCl [(h0, .inr (3, [.ref q1, .null, .null, .int 0, .int 0])), (q1, .inl (cA 1, 40, .inr (.inl (fun _ => 0)))), (q2, .inl (cA 3, 40, .inr (.inr (.inr (.inl (fun _ => 0))))))] H := hP
  have hD : va_D A [(h0, .inr (3, [.ref q1, .null, .null, .int 0, .int 0])), (q1, .inl (cA 1, 40, .inr (.inl (fun _ => 0)))), (q2, .inl (cA 3, 40, .inr (.inr (.inr (.inl (fun _ => 0))))))] := hD
  refine W.widen (k := 2) (n := 80) (Nat.le_of_ble_eq_true rfl) (Nat.le_of_ble_eq_true rfl) ?_
  refine va_putF (D := D) (ci := 3) (v := .ref q2) (ty := .array .double) (C := RX3) (T := TX3) (N := 5) hx hb hts inZ3 tyX3 tyX3_ok nmX3 hown hK hP hD hS 0 rfl rfl 1 (by decide) (hts _ fX3_15.1) (fun _ h9 => h9) rfl hin rfl (by decide +kernel) rfl rfl (Nat.le_of_ble_eq_true rfl) dX3_init_17 (fun H locs hP hD hS => ?_)
  have hP : va_P D vwCl [(h0, .inr (3, [.ref q1, .ref q2, .null, .int 0, .int 0])), (q1, .inl (cA 1, 40, .inr (.inl (fun _ => 0)))), (q2, .inl (cA 3, 40, .inr (.inr (.inr (.inl (fun _ => 0))))))] H := hP
  have hD : va_D A [(h0, .inr (3, [.ref q1, .ref q2, .null, .int 0, .int 0])), (q1, .inl (cA 1, 40, .inr (.inl (fun _ => 0)))), (q2, .inl (cA 3, 40, .inr (.inr (.inr (.inl (fun _ => 0))))))] := hD
  refine lv_aload_n hx hb dX3_init_20 rfl (lv_at hl 0 rfl) ?_
  refine lv_bipush (v := 40) hx hb dX3_init_21 (by decide) ?_
  refine va_newa (atype := .boolean) (ty := .boolean) hx hb (hts _ aC_boolean) rfl hK hP hD hS hA (a0 := (40, .inl (fun _ => 0))) (fun _ => rfl) (by decide) (N' := 40) (by decide) (Nat.le_of_ble_eq_true rfl) (Nat.le_of_ble_eq_true rfl) (Nat.le_of_ble_eq_true rfl) dX3_init_23 (fun q3 cq H hKq hP hD hS => ?_)
  have eq : cq = cA 2 := zcls hKq 2 5 rfl rfl
  subst eq
  clear hKq
  have hP : va_P D vwCl [(h0, .inr (3, [.ref q1, .ref q2, .null, .int 0, .int 0])), (q1, .inl (cA 1, 40, .inr (.inl (fun _ => 0)))), (q2, .inl (cA 3, 40, .inr (.inr (.inr (.inl (fun _ => 0)))))), (q3, .inl (cA 2, 40, .inl (fun _ => 0)))] H := hP
  have hD : va_D A [(h0, .inr (3, [.ref q1, .ref q2, .null, .int 0, .int 0])), (q1, .inl (cA 1, 40, .inr (.inl (fun _ => 0)))), (q2, .inl (cA 3, 40, .inr (.inr (.inr (.inl (fun _ => 0)))))), (q3, .inl (cA 2, 40, .inl (fun _ => 0)))] := hD
  refine W.widen (k := 3) (n := 120) (Nat.le_of_ble_eq_true rfl) (Nat.le_of_ble_eq_true rfl) ?_
  refine va_putF (D := D) (ci := 3) (v := .ref q3) (ty := .array .boolean) (C := RX3) (T := TX3) (N := 5) hx hb hts inZ3 tyX3 tyX3_ok nmX3 hown hK hP hD hS 0 rfl rfl 2 (by decide) (hts _ fX3_19.1) (fun _ h9 => h9) rfl hin rfl (by decide +kernel) rfl rfl (Nat.le_of_ble_eq_true rfl) dX3_init_25 (fun H locs hP hD hS => ?_)
  have hP : va_P D vwCl [(h0, .inr (3, [.ref q1, .ref q2, .ref q3, .int 0, .int 0])), (q1, .inl (cA 1, 40, .inr (.inl (fun _ => 0)))), (q2, .inl (cA 3, 40, .inr (.inr (.inr (.inl (fun _ => 0)))))), (q3, .inl (cA 2, 40, .inl (fun _ => 0)))] H := hP
  have hD : va_D A [(h0, .inr (3, [.ref q1, .ref q2, .ref q3, .int 0, .int 0])), (q1, .inl (cA 1, 40, .inr (.inl (fun _ => 0)))), (q2, .inl (cA 3, 40, .inr (.inr (.inr (.inl (fun _ => 0)))))), (q3, .inl (cA 2, 40, .inl (fun _ => 0)))] := hD
  refine lv_aload_n hx hb dX3_init_28 rfl (lv_at hl 0 rfl) ?_
  refine lv_iconst (v := -1) hx hb dX3_init_29 (by decide) ?_
  refine va_put (D := D) (ci := 3) (v := .int (-1)) (ty := .int) (C := RX3) (T := TX3) (N := 5) hx hb hts inZ3 tyX3 tyX3_ok nmX3 hown hK hP hD hS 0 rfl rfl 3 (by decide) (hts _ fX3_23.1) (fun _ h9 => h9) rfl (by decide +kernel) rfl rfl (Nat.le_of_ble_eq_true rfl) dX3_init_30 (fun H locs hP hD hS => ?_)
  have hP : va_P D vwCl [(h0, .inr (3, [.ref q1, .ref q2, .ref q3, .int (-1), .int 0])), (q1, .inl (cA 1, 40, .inr (.inl (fun _ => 0)))), (q2, .inl (cA 3, 40, .inr (.inr (.inr (.inl (fun _ => 0)))))), (q3, .inl (cA 2, 40, .inl (fun _ => 0)))] H := hP
  have hD : va_D A [(h0, .inr (3, [.ref q1, .ref q2, .ref q3, .int (-1), .int 0])), (q1, .inl (cA 1, 40, .inr (.inl (fun _ => 0)))), (q2, .inl (cA 3, 40, .inr (.inr (.inr (.inl (fun _ => 0)))))), (q3, .inl (cA 2, 40, .inl (fun _ => 0)))] := hD
  refine lv_aload_n hx hb dX3_init_33 rfl (lv_at hl 0 rfl) ?_
  refine lv_iconst (v := 0) hx hb dX3_init_34 (by decide) ?_
  refine va_put (D := D) (ci := 3) (v := .int 0) (ty := .int) (C := RX3) (T := TX3) (N := 5) hx hb hts inZ3 tyX3 tyX3_ok nmX3 hown hK hP hD hS 0 rfl rfl 4 (by decide) (hts _ fX3_27.1) (fun _ h9 => h9) rfl (by decide +kernel) rfl rfl (Nat.le_of_ble_eq_true rfl) dX3_init_35 (fun H locs hP hD hS => ?_)
  have hP : va_P D vwCl [(h0, .inr (3, [.ref q1, .ref q2, .ref q3, .int (-1), .int 0])), (q1, .inl (cA 1, 40, .inr (.inl (fun _ => 0)))), (q2, .inl (cA 3, 40, .inr (.inr (.inr (.inl (fun _ => 0)))))), (q3, .inl (cA 2, 40, .inl (fun _ => 0)))] H := hP
  have hD : va_D A [(h0, .inr (3, [.ref q1, .ref q2, .ref q3, .int (-1), .int 0])), (q1, .inl (cA 1, 40, .inr (.inl (fun _ => 0)))), (q2, .inl (cA 3, 40, .inr (.inr (.inr (.inl (fun _ => 0)))))), (q3, .inl (cA 2, 40, .inl (fun _ => 0)))] := hD
  exact W.vret hx hb hr (fun t ht hW => ⟨⟨(fun k => match k with | 0 => q1 | 1 => q2 | _ => q3), rfl, trivial, by rw [ht]; exact hP, va_K.moved hW.alike hK, hD⟩, hS.F ht⟩) hS.2.2 dX3_init_38

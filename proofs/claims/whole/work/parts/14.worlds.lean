/-- what the texts "dense" and "known" are, and the statics that their reading asks for -/
def sX (A : Nat → Nat) : (Nat → Prop) → State → Heap → Prop := fun B U H => vk_S 2 [5, 5] [[100, 101, 110, 115, 101], [107, 110, 111, 119, 110]] (fun i => A (100 + i)) (fun i => A (110 + i)) B U H ∧ (vk_R "PeriodGates" 154 "dense" (A 100) U ∧ vk_R "PeriodGates" 160 "known" (A 101) U) ∧ va_Z "java/lang/String" "COMPACT_STRINGS" "Z" (.int 1) B U H ∧ va_Zq "jdk/internal/util/Preconditions" "SIOOBE_FORMATTER" "Ljava/util/function/BiFunction;" B U H
theorem sX_ok (A : Nat → Nat) : zX (sX A) := by
  refine ⟨fun B B' U H H' h hq hs => ?_, fun B s U H hW h => ?_, fun B s U H hv h => ?_⟩
  · exact ⟨(h.1.kept hq).narrow hs, h.2.1, (h.2.2.1.kept hq).narrow hs, (h.2.2.2.kept hq).narrow hs⟩
  · exact ⟨h.1.moved hW.alike, ⟨h.2.1.1.warm hW, h.2.1.2.warm hW⟩, h.2.2.1.moved hW.alike, h.2.2.2.moved hW.alike⟩
  · have ha : s.vm.Alike U.vm := by rw [hv]; exact Vm.Alike.refl s.vm
    exact ⟨h.1.moved ha, ⟨h.2.1.1.same hv, h.2.1.2.same hv⟩, h.2.2.1.moved ha, h.2.2.2.moved ha⟩
theorem sM_ok : zX (fun _ _ _ => True) := ⟨fun _ _ _ _ _ _ _ _ => trivial, fun _ _ _ _ _ _ => trivial, fun _ _ _ _ _ _ => trivial⟩
def cS (A : Nat → Nat) (σ : zS) (k : Nat) : Nat × va_E := (A (23 + k), .inr (3, [.ref (A (27 + k)), .ref (A (31 + k)), .ref (A (35 + k)), .int (zi σ (20 + k)), .int (zi σ (30 + k))]))
def cW (A : Nat → Nat) (cA : Nat → ClassId) (σ : zS) (k : Nat) : Nat × va_E := (A (27 + k), .inl (cA 1, 40, .inr (.inl (zj σ (10 + k)))))
def cR (A : Nat → Nat) (cA : Nat → ClassId) (σ : zS) (k : Nat) : Nat × va_E := (A (31 + k), .inl (cA 3, 40, .inr (.inr (.inr (.inl (zd σ (0 + k)))))))
def cN (A : Nat → Nat) (cA : Nat → ClassId) (σ : zS) (k : Nat) : Nat × va_E := (A (35 + k), .inl (cA 2, 40, .inl (za σ (20 + k))))
def wX (A : Nat → Nat) (cA : Nat → ClassId) : zO zS := (fun σ => [(A 0, .inr (6, [.ref (A 1), .ref (A 2), .ref (A 3), .ref (A 4), .ref (A 5), .ref (A 6), .ref (A 7), .int (zi σ 0), .int (zi σ 1), .int (zi σ 2), .int (zi σ 3), .int (zi σ 4)])),
  (A 1, .inr (5, [.ref (A 8), .int (zi σ 5)])),
  (A 2, .inr (0, [.ref (A 9), .ref (A 10), .int (zi σ 6), .int (zi σ 7)])),
  (A 3, .inr (1, [.ref (A 11), .ref (A 12), .ref (A 13), .ref (A 14), .int (zi σ 8)])),
  (A 4, .inr (2, [.ref (A 15), .ref (A 16), .ref (A 17), .ref (A 18), .ref (A 19), .int (zi σ 9), .int (zi σ 10), .long (zl σ 0), .int (zi σ 11), .int (zi σ 12)])),
  (A 5, .inr (4, [.ref (A 20), .ref (A 21), .ref (A 22), .int (zi σ 13)])),
  (A 6, .inl (cA 4, 4, .inr (.inr (.inr (.inr (fun j => some (A (23 + j)))))))),
  (A 7, .inl (cA 0, 5, .inl (za σ 0))),
  (A 8, .inl (cA 0, 32, .inl (za σ 1))),
  (A 9, .inl (cA 0, 12, .inl (za σ 2))),
  (A 10, .inl (cA 0, 12, .inl (za σ 3))),
  (A 11, .inl (cA 0, 8, .inl (za σ 4))),
  (A 12, .inl (cA 0, 8, .inl (za σ 5))),
  (A 13, .inl (cA 0, 8, .inl (za σ 6))),
  (A 14, .inl (cA 0, 8, .inl (za σ 7))),
  (A 15, .inl (cA 1, 32, .inr (.inl (zj σ 0)))),
  (A 16, .inl (cA 0, 32, .inl (za σ 8))),
  (A 17, .inl (cA 2, 32, .inl (za σ 9))),
  (A 18, .inl (cA 0, 32, .inl (za σ 10))),
  (A 19, .inl (cA 1, 32, .inr (.inl (zj σ 1)))),
  (A 20, .inl (cA 1, 16, .inr (.inl (zj σ 2)))),
  (A 21, .inl (cA 1, 16, .inr (.inl (zj σ 3)))),
  (A 22, .inl (cA 0, 15, .inl (za σ 11))),
  cS A σ 0,
  cS A σ 1,
  cS A σ 2,
  cS A σ 3,
  cW A cA σ 0,
  cW A cA σ 1,
  cW A cA σ 2,
  cW A cA σ 3,
  cR A cA σ 0,
  cR A cA σ 1,
  cR A cA σ 2,
  cR A cA σ 3,
  cN A cA σ 0,
  cN A cA σ 1,
  cN A cA σ 2,
  cN A cA σ 3],
  [(cA 0, .int), (cA 1, .long), (cA 2, .boolean), (cA 3, .double), (cA 4, .object "PeriodGates$Sheet")], sX A)
theorem pX_0 {A : Nat → Nat} {cA : Nat → ClassId} {σ : zS} : ((wX A cA).1 σ)[0]? = some (A 0, .inr (6, [.ref (A 1), .ref (A 2), .ref (A 3), .ref (A 4), .ref (A 5), .ref (A 6), .ref (A 7), .int (zi σ 0), .int (zi σ 1), .int (zi σ 2), .int (zi σ 3), .int (zi σ 4)])) := rfl
theorem pX_1 {A : Nat → Nat} {cA : Nat → ClassId} {σ : zS} : ((wX A cA).1 σ)[1]? = some (A 1, .inr (5, [.ref (A 8), .int (zi σ 5)])) := rfl
theorem pX_2 {A : Nat → Nat} {cA : Nat → ClassId} {σ : zS} : ((wX A cA).1 σ)[2]? = some (A 2, .inr (0, [.ref (A 9), .ref (A 10), .int (zi σ 6), .int (zi σ 7)])) := rfl
theorem pX_3 {A : Nat → Nat} {cA : Nat → ClassId} {σ : zS} : ((wX A cA).1 σ)[3]? = some (A 3, .inr (1, [.ref (A 11), .ref (A 12), .ref (A 13), .ref (A 14), .int (zi σ 8)])) := rfl
theorem pX_4 {A : Nat → Nat} {cA : Nat → ClassId} {σ : zS} : ((wX A cA).1 σ)[4]? = some (A 4, .inr (2, [.ref (A 15), .ref (A 16), .ref (A 17), .ref (A 18), .ref (A 19), .int (zi σ 9), .int (zi σ 10), .long (zl σ 0), .int (zi σ 11), .int (zi σ 12)])) := rfl
theorem pX_5 {A : Nat → Nat} {cA : Nat → ClassId} {σ : zS} : ((wX A cA).1 σ)[5]? = some (A 5, .inr (4, [.ref (A 20), .ref (A 21), .ref (A 22), .int (zi σ 13)])) := rfl
theorem pX_6 {A : Nat → Nat} {cA : Nat → ClassId} {σ : zS} : ((wX A cA).1 σ)[6]? = some (A 6, .inl (cA 4, 4, .inr (.inr (.inr (.inr (fun j => some (A (23 + j)))))))) := rfl
theorem pX_7 {A : Nat → Nat} {cA : Nat → ClassId} {σ : zS} : ((wX A cA).1 σ)[7]? = some (A 7, .inl (cA 0, 5, .inl (za σ 0))) := rfl
theorem pX_8 {A : Nat → Nat} {cA : Nat → ClassId} {σ : zS} : ((wX A cA).1 σ)[8]? = some (A 8, .inl (cA 0, 32, .inl (za σ 1))) := rfl
theorem pX_9 {A : Nat → Nat} {cA : Nat → ClassId} {σ : zS} : ((wX A cA).1 σ)[9]? = some (A 9, .inl (cA 0, 12, .inl (za σ 2))) := rfl
theorem pX_10 {A : Nat → Nat} {cA : Nat → ClassId} {σ : zS} : ((wX A cA).1 σ)[10]? = some (A 10, .inl (cA 0, 12, .inl (za σ 3))) := rfl
theorem pX_11 {A : Nat → Nat} {cA : Nat → ClassId} {σ : zS} : ((wX A cA).1 σ)[11]? = some (A 11, .inl (cA 0, 8, .inl (za σ 4))) := rfl
theorem pX_12 {A : Nat → Nat} {cA : Nat → ClassId} {σ : zS} : ((wX A cA).1 σ)[12]? = some (A 12, .inl (cA 0, 8, .inl (za σ 5))) := rfl
theorem pX_13 {A : Nat → Nat} {cA : Nat → ClassId} {σ : zS} : ((wX A cA).1 σ)[13]? = some (A 13, .inl (cA 0, 8, .inl (za σ 6))) := rfl
theorem pX_14 {A : Nat → Nat} {cA : Nat → ClassId} {σ : zS} : ((wX A cA).1 σ)[14]? = some (A 14, .inl (cA 0, 8, .inl (za σ 7))) := rfl
theorem pX_15 {A : Nat → Nat} {cA : Nat → ClassId} {σ : zS} : ((wX A cA).1 σ)[15]? = some (A 15, .inl (cA 1, 32, .inr (.inl (zj σ 0)))) := rfl
theorem pX_16 {A : Nat → Nat} {cA : Nat → ClassId} {σ : zS} : ((wX A cA).1 σ)[16]? = some (A 16, .inl (cA 0, 32, .inl (za σ 8))) := rfl
theorem pX_17 {A : Nat → Nat} {cA : Nat → ClassId} {σ : zS} : ((wX A cA).1 σ)[17]? = some (A 17, .inl (cA 2, 32, .inl (za σ 9))) := rfl
theorem pX_18 {A : Nat → Nat} {cA : Nat → ClassId} {σ : zS} : ((wX A cA).1 σ)[18]? = some (A 18, .inl (cA 0, 32, .inl (za σ 10))) := rfl
theorem pX_19 {A : Nat → Nat} {cA : Nat → ClassId} {σ : zS} : ((wX A cA).1 σ)[19]? = some (A 19, .inl (cA 1, 32, .inr (.inl (zj σ 1)))) := rfl
theorem pX_20 {A : Nat → Nat} {cA : Nat → ClassId} {σ : zS} : ((wX A cA).1 σ)[20]? = some (A 20, .inl (cA 1, 16, .inr (.inl (zj σ 2)))) := rfl
theorem pX_21 {A : Nat → Nat} {cA : Nat → ClassId} {σ : zS} : ((wX A cA).1 σ)[21]? = some (A 21, .inl (cA 1, 16, .inr (.inl (zj σ 3)))) := rfl
theorem pX_22 {A : Nat → Nat} {cA : Nat → ClassId} {σ : zS} : ((wX A cA).1 σ)[22]? = some (A 22, .inl (cA 0, 15, .inl (za σ 11))) := rfl
theorem pX_cS {A : Nat → Nat} {cA : Nat → ClassId} {σ : zS} {k : Nat} (hk : k < 4) : ((wX A cA).1 σ)[23 + k]? = some (A (23 + k), .inr (3, [.ref (A (27 + k)), .ref (A (31 + k)), .ref (A (35 + k)), .int (zi σ (20 + k)), .int (zi σ (30 + k))])) := by
  match k, hk with
  | 0, _ => rfl
  | 1, _ => rfl
  | 2, _ => rfl
  | 3, _ => rfl
theorem pX_cW {A : Nat → Nat} {cA : Nat → ClassId} {σ : zS} {k : Nat} (hk : k < 4) : ((wX A cA).1 σ)[27 + k]? = some (A (27 + k), .inl (cA 1, 40, .inr (.inl (zj σ (10 + k))))) := by
  match k, hk with
  | 0, _ => rfl
  | 1, _ => rfl
  | 2, _ => rfl
  | 3, _ => rfl
theorem pX_cR {A : Nat → Nat} {cA : Nat → ClassId} {σ : zS} {k : Nat} (hk : k < 4) : ((wX A cA).1 σ)[31 + k]? = some (A (31 + k), .inl (cA 3, 40, .inr (.inr (.inr (.inl (zd σ (0 + k))))))) := by
  match k, hk with
  | 0, _ => rfl
  | 1, _ => rfl
  | 2, _ => rfl
  | 3, _ => rfl
theorem pX_cN {A : Nat → Nat} {cA : Nat → ClassId} {σ : zS} {k : Nat} (hk : k < 4) : ((wX A cA).1 σ)[35 + k]? = some (A (35 + k), .inl (cA 2, 40, .inl (za σ (20 + k)))) := by
  match k, hk with
  | 0, _ => rfl
  | 1, _ => rfl
  | 2, _ => rfl
  | 3, _ => rfl
theorem sX_7 {A : Nat → Nat} {cA : Nat → ClassId} {σ : zS} {i : Nat} {v : Int32} : ((wX A cA).1 σ).set 7 (A 7, .inl (cA 0, 5, .inl (upd (za σ 0) i v))) = (wX A cA).1 (wa σ 0 i v) := rfl
theorem sX_8 {A : Nat → Nat} {cA : Nat → ClassId} {σ : zS} {i : Nat} {v : Int32} : ((wX A cA).1 σ).set 8 (A 8, .inl (cA 0, 32, .inl (upd (za σ 1) i v))) = (wX A cA).1 (wa σ 1 i v) := rfl
theorem sX_9 {A : Nat → Nat} {cA : Nat → ClassId} {σ : zS} {i : Nat} {v : Int32} : ((wX A cA).1 σ).set 9 (A 9, .inl (cA 0, 12, .inl (upd (za σ 2) i v))) = (wX A cA).1 (wa σ 2 i v) := rfl
theorem sX_10 {A : Nat → Nat} {cA : Nat → ClassId} {σ : zS} {i : Nat} {v : Int32} : ((wX A cA).1 σ).set 10 (A 10, .inl (cA 0, 12, .inl (upd (za σ 3) i v))) = (wX A cA).1 (wa σ 3 i v) := rfl
theorem sX_11 {A : Nat → Nat} {cA : Nat → ClassId} {σ : zS} {i : Nat} {v : Int32} : ((wX A cA).1 σ).set 11 (A 11, .inl (cA 0, 8, .inl (upd (za σ 4) i v))) = (wX A cA).1 (wa σ 4 i v) := rfl
theorem sX_12 {A : Nat → Nat} {cA : Nat → ClassId} {σ : zS} {i : Nat} {v : Int32} : ((wX A cA).1 σ).set 12 (A 12, .inl (cA 0, 8, .inl (upd (za σ 5) i v))) = (wX A cA).1 (wa σ 5 i v) := rfl
theorem sX_13 {A : Nat → Nat} {cA : Nat → ClassId} {σ : zS} {i : Nat} {v : Int32} : ((wX A cA).1 σ).set 13 (A 13, .inl (cA 0, 8, .inl (upd (za σ 6) i v))) = (wX A cA).1 (wa σ 6 i v) := rfl
theorem sX_14 {A : Nat → Nat} {cA : Nat → ClassId} {σ : zS} {i : Nat} {v : Int32} : ((wX A cA).1 σ).set 14 (A 14, .inl (cA 0, 8, .inl (upd (za σ 7) i v))) = (wX A cA).1 (wa σ 7 i v) := rfl
theorem sX_15 {A : Nat → Nat} {cA : Nat → ClassId} {σ : zS} {i : Nat} {v : Int64} : ((wX A cA).1 σ).set 15 (A 15, .inl (cA 1, 32, .inr (.inl (vp_updL (zj σ 0) i v)))) = (wX A cA).1 (wj σ 0 i v) := rfl
theorem sX_16 {A : Nat → Nat} {cA : Nat → ClassId} {σ : zS} {i : Nat} {v : Int32} : ((wX A cA).1 σ).set 16 (A 16, .inl (cA 0, 32, .inl (upd (za σ 8) i v))) = (wX A cA).1 (wa σ 8 i v) := rfl
theorem sX_17 {A : Nat → Nat} {cA : Nat → ClassId} {σ : zS} {i : Nat} {v : Int32} : ((wX A cA).1 σ).set 17 (A 17, .inl (cA 2, 32, .inl (upd (za σ 9) i v))) = (wX A cA).1 (wa σ 9 i v) := rfl
theorem sX_18 {A : Nat → Nat} {cA : Nat → ClassId} {σ : zS} {i : Nat} {v : Int32} : ((wX A cA).1 σ).set 18 (A 18, .inl (cA 0, 32, .inl (upd (za σ 10) i v))) = (wX A cA).1 (wa σ 10 i v) := rfl
theorem sX_19 {A : Nat → Nat} {cA : Nat → ClassId} {σ : zS} {i : Nat} {v : Int64} : ((wX A cA).1 σ).set 19 (A 19, .inl (cA 1, 32, .inr (.inl (vp_updL (zj σ 1) i v)))) = (wX A cA).1 (wj σ 1 i v) := rfl
theorem sX_20 {A : Nat → Nat} {cA : Nat → ClassId} {σ : zS} {i : Nat} {v : Int64} : ((wX A cA).1 σ).set 20 (A 20, .inl (cA 1, 16, .inr (.inl (vp_updL (zj σ 2) i v)))) = (wX A cA).1 (wj σ 2 i v) := rfl
theorem sX_21 {A : Nat → Nat} {cA : Nat → ClassId} {σ : zS} {i : Nat} {v : Int64} : ((wX A cA).1 σ).set 21 (A 21, .inl (cA 1, 16, .inr (.inl (vp_updL (zj σ 3) i v)))) = (wX A cA).1 (wj σ 3 i v) := rfl
theorem sX_22 {A : Nat → Nat} {cA : Nat → ClassId} {σ : zS} {i : Nat} {v : Int32} : ((wX A cA).1 σ).set 22 (A 22, .inl (cA 0, 15, .inl (upd (za σ 11) i v))) = (wX A cA).1 (wa σ 11 i v) := rfl
theorem sX_0_7 {A : Nat → Nat} {cA : Nat → ClassId} {σ : zS} {v : Int32} : ((wX A cA).1 σ).set 0 (A 0, .inr (6, [.ref (A 1), .ref (A 2), .ref (A 3), .ref (A 4), .ref (A 5), .ref (A 6), .ref (A 7), .int (zi σ 0), .int (zi σ 1), .int (zi σ 2), .int (zi σ 3), .int (zi σ 4)].set 7 (.int v))) = (wX A cA).1 (wi σ 0 v) := rfl
theorem sX_0_8 {A : Nat → Nat} {cA : Nat → ClassId} {σ : zS} {v : Int32} : ((wX A cA).1 σ).set 0 (A 0, .inr (6, [.ref (A 1), .ref (A 2), .ref (A 3), .ref (A 4), .ref (A 5), .ref (A 6), .ref (A 7), .int (zi σ 0), .int (zi σ 1), .int (zi σ 2), .int (zi σ 3), .int (zi σ 4)].set 8 (.int v))) = (wX A cA).1 (wi σ 1 v) := rfl
theorem sX_0_9 {A : Nat → Nat} {cA : Nat → ClassId} {σ : zS} {v : Int32} : ((wX A cA).1 σ).set 0 (A 0, .inr (6, [.ref (A 1), .ref (A 2), .ref (A 3), .ref (A 4), .ref (A 5), .ref (A 6), .ref (A 7), .int (zi σ 0), .int (zi σ 1), .int (zi σ 2), .int (zi σ 3), .int (zi σ 4)].set 9 (.int v))) = (wX A cA).1 (wi σ 2 v) := rfl
theorem sX_0_10 {A : Nat → Nat} {cA : Nat → ClassId} {σ : zS} {v : Int32} : ((wX A cA).1 σ).set 0 (A 0, .inr (6, [.ref (A 1), .ref (A 2), .ref (A 3), .ref (A 4), .ref (A 5), .ref (A 6), .ref (A 7), .int (zi σ 0), .int (zi σ 1), .int (zi σ 2), .int (zi σ 3), .int (zi σ 4)].set 10 (.int v))) = (wX A cA).1 (wi σ 3 v) := rfl
theorem sX_0_11 {A : Nat → Nat} {cA : Nat → ClassId} {σ : zS} {v : Int32} : ((wX A cA).1 σ).set 0 (A 0, .inr (6, [.ref (A 1), .ref (A 2), .ref (A 3), .ref (A 4), .ref (A 5), .ref (A 6), .ref (A 7), .int (zi σ 0), .int (zi σ 1), .int (zi σ 2), .int (zi σ 3), .int (zi σ 4)].set 11 (.int v))) = (wX A cA).1 (wi σ 4 v) := rfl
theorem sX_1_1 {A : Nat → Nat} {cA : Nat → ClassId} {σ : zS} {v : Int32} : ((wX A cA).1 σ).set 1 (A 1, .inr (5, [.ref (A 8), .int (zi σ 5)].set 1 (.int v))) = (wX A cA).1 (wi σ 5 v) := rfl
theorem sX_2_2 {A : Nat → Nat} {cA : Nat → ClassId} {σ : zS} {v : Int32} : ((wX A cA).1 σ).set 2 (A 2, .inr (0, [.ref (A 9), .ref (A 10), .int (zi σ 6), .int (zi σ 7)].set 2 (.int v))) = (wX A cA).1 (wi σ 6 v) := rfl
theorem sX_2_3 {A : Nat → Nat} {cA : Nat → ClassId} {σ : zS} {v : Int32} : ((wX A cA).1 σ).set 2 (A 2, .inr (0, [.ref (A 9), .ref (A 10), .int (zi σ 6), .int (zi σ 7)].set 3 (.int v))) = (wX A cA).1 (wi σ 7 v) := rfl
theorem sX_3_4 {A : Nat → Nat} {cA : Nat → ClassId} {σ : zS} {v : Int32} : ((wX A cA).1 σ).set 3 (A 3, .inr (1, [.ref (A 11), .ref (A 12), .ref (A 13), .ref (A 14), .int (zi σ 8)].set 4 (.int v))) = (wX A cA).1 (wi σ 8 v) := rfl
theorem sX_4_5 {A : Nat → Nat} {cA : Nat → ClassId} {σ : zS} {v : Int32} : ((wX A cA).1 σ).set 4 (A 4, .inr (2, [.ref (A 15), .ref (A 16), .ref (A 17), .ref (A 18), .ref (A 19), .int (zi σ 9), .int (zi σ 10), .long (zl σ 0), .int (zi σ 11), .int (zi σ 12)].set 5 (.int v))) = (wX A cA).1 (wi σ 9 v) := rfl
theorem sX_4_6 {A : Nat → Nat} {cA : Nat → ClassId} {σ : zS} {v : Int32} : ((wX A cA).1 σ).set 4 (A 4, .inr (2, [.ref (A 15), .ref (A 16), .ref (A 17), .ref (A 18), .ref (A 19), .int (zi σ 9), .int (zi σ 10), .long (zl σ 0), .int (zi σ 11), .int (zi σ 12)].set 6 (.int v))) = (wX A cA).1 (wi σ 10 v) := rfl
theorem sX_4_7 {A : Nat → Nat} {cA : Nat → ClassId} {σ : zS} {v : Int64} : ((wX A cA).1 σ).set 4 (A 4, .inr (2, [.ref (A 15), .ref (A 16), .ref (A 17), .ref (A 18), .ref (A 19), .int (zi σ 9), .int (zi σ 10), .long (zl σ 0), .int (zi σ 11), .int (zi σ 12)].set 7 (.long v))) = (wX A cA).1 (wl σ 0 v) := rfl
theorem sX_4_8 {A : Nat → Nat} {cA : Nat → ClassId} {σ : zS} {v : Int32} : ((wX A cA).1 σ).set 4 (A 4, .inr (2, [.ref (A 15), .ref (A 16), .ref (A 17), .ref (A 18), .ref (A 19), .int (zi σ 9), .int (zi σ 10), .long (zl σ 0), .int (zi σ 11), .int (zi σ 12)].set 8 (.int v))) = (wX A cA).1 (wi σ 11 v) := rfl
theorem sX_4_9 {A : Nat → Nat} {cA : Nat → ClassId} {σ : zS} {v : Int32} : ((wX A cA).1 σ).set 4 (A 4, .inr (2, [.ref (A 15), .ref (A 16), .ref (A 17), .ref (A 18), .ref (A 19), .int (zi σ 9), .int (zi σ 10), .long (zl σ 0), .int (zi σ 11), .int (zi σ 12)].set 9 (.int v))) = (wX A cA).1 (wi σ 12 v) := rfl
theorem sX_5_3 {A : Nat → Nat} {cA : Nat → ClassId} {σ : zS} {v : Int32} : ((wX A cA).1 σ).set 5 (A 5, .inr (4, [.ref (A 20), .ref (A 21), .ref (A 22), .int (zi σ 13)].set 3 (.int v))) = (wX A cA).1 (wi σ 13 v) := rfl
theorem sX_cW {A : Nat → Nat} {cA : Nat → ClassId} {σ : zS} {i k : Nat} {v : Int64} (hk : k < 4) : ((wX A cA).1 σ).set (27 + k) (A (27 + k), .inl (cA 1, 40, .inr (.inl (vp_updL (zj σ (10 + k)) i v)))) = (wX A cA).1 (wj σ (10 + k) i v) := by
  match k, hk with
  | 0, _ => rfl
  | 1, _ => rfl
  | 2, _ => rfl
  | 3, _ => rfl
theorem sX_cR {A : Nat → Nat} {cA : Nat → ClassId} {σ : zS} {i k : Nat} {v : UInt64} (hk : k < 4) : ((wX A cA).1 σ).set (31 + k) (A (31 + k), .inl (cA 3, 40, .inr (.inr (.inr (.inl (vf_upd (zd σ (0 + k)) i v)))))) = (wX A cA).1 (wd σ (0 + k) i v) := by
  match k, hk with
  | 0, _ => rfl
  | 1, _ => rfl
  | 2, _ => rfl
  | 3, _ => rfl
theorem sX_cN {A : Nat → Nat} {cA : Nat → ClassId} {σ : zS} {i k : Nat} {v : Int32} (hk : k < 4) : ((wX A cA).1 σ).set (35 + k) (A (35 + k), .inl (cA 2, 40, .inl (upd (za σ (20 + k)) i v))) = (wX A cA).1 (wa σ (20 + k) i v) := by
  match k, hk with
  | 0, _ => rfl
  | 1, _ => rfl
  | 2, _ => rfl
  | 3, _ => rfl
theorem sX_cS_3 {A : Nat → Nat} {cA : Nat → ClassId} {σ : zS} {k : Nat} {v : Int32} (hk : k < 4) : ((wX A cA).1 σ).set (23 + k) (A (23 + k), .inr (3, [.ref (A (27 + k)), .ref (A (31 + k)), .ref (A (35 + k)), .int (zi σ (20 + k)), .int (zi σ (30 + k))].set 3 (.int v))) = (wX A cA).1 (wi σ (20 + k) v) := by
  match k, hk with
  | 0, _ => rfl
  | 1, _ => rfl
  | 2, _ => rfl
  | 3, _ => rfl
theorem sX_cS_4 {A : Nat → Nat} {cA : Nat → ClassId} {σ : zS} {k : Nat} {v : Int32} (hk : k < 4) : ((wX A cA).1 σ).set (23 + k) (A (23 + k), .inr (3, [.ref (A (27 + k)), .ref (A (31 + k)), .ref (A (35 + k)), .int (zi σ (20 + k)), .int (zi σ (30 + k))].set 4 (.int v))) = (wX A cA).1 (wi σ (30 + k) v) := by
  match k, hk with
  | 0, _ => rfl
  | 1, _ => rfl
  | 2, _ => rfl
  | 3, _ => rfl
theorem gg_sheets {α : Type} {C : zK} {A : Nat → Nat} {cA : Nat → ClassId} {cc : ByteArray} {own : String} {nL fr lo pc : Nat} {E : α → Prop} {o : Option α} {lv : List (Nat × Value)} {st : List Value} {σ : zS} (hC : zOK C (wX A cA) cc own nL fr lo) (hd : decode cc pc = .ok (.aaload, 1)) {i : Int32} (kk : i.toNatClampNeg < 4 → zG C (wX A cA) nL E o (pc + 1) lv (.ref (A (23 + i.toNatClampNeg)) :: st) σ) : zG C (wX A cA) nL E (zg (zq i 4) o) pc lv (.int i :: .ref (A 6) :: st) σ := gg_aald hC hd 6 4 pX_6 rfl kk
def wM (A : Nat → Nat) (cA : Nat → ClassId) : zO zS := (fun σ => [(A 0, .inr (7, [.ref (A 1), .int (zi σ 0), .ref (A 2), .ref (A 3), .ref (A 4), .ref (A 5), .ref (A 6), .int (zi σ 1), .int (zi σ 2), .int (zi σ 3), .ref (A 7), .ref (A 8), .ref (A 9), .ref (A 10), .ref (A 11), .long (zl σ 0), .long (zl σ 1), .ref (A 12), .ref (A 13), .int (zi σ 4), .long (zl σ 2), .long (zl σ 3), .long (zl σ 4), .long (zl σ 5), .ref (A 14), .ref (A 15), .ref (A 16), .ref (A 17), .ref (A 18), .ref (A 19), .ref (A 20), .ref (A 21), .int (zi σ 5)])),
  (A 1, .inl (cA 0, 32, .inl (za σ 0))),
  (A 2, .inl (cA 2, 60, .inl (za σ 1))),
  (A 3, .inl (cA 0, 12, .inl (za σ 2))),
  (A 4, .inl (cA 0, 60, .inl (za σ 3))),
  (A 5, .inl (cA 0, 14, .inl (za σ 4))),
  (A 6, .inl (cA 0, 5, .inl (za σ 5))),
  (A 7, .inl (cA 1, 32, .inr (.inl (zj σ 0)))),
  (A 8, .inl (cA 0, 32, .inl (za σ 6))),
  (A 9, .inl (cA 0, 32, .inl (za σ 7))),
  (A 10, .inl (cA 2, 32, .inl (za σ 8))),
  (A 11, .inl (cA 1, 32, .inr (.inl (zj σ 1)))),
  (A 12, .inl (cA 0, 8, .inl (za σ 9))),
  (A 13, .inl (cA 0, 8, .inl (za σ 10))),
  (A 14, .inl (cA 0, 4, .inl (za σ 11))),
  (A 15, .inl (cA 0, 4, .inl (za σ 12))),
  (A 16, .inl (cA 1, 160, .inr (.inl (zj σ 2)))),
  (A 17, .inl (cA 3, 160, .inr (.inr (.inr (.inl (zd σ 0)))))),
  (A 18, .inl (cA 2, 160, .inl (za σ 13))),
  (A 19, .inl (cA 1, 40, .inr (.inl (zj σ 3)))),
  (A 20, .inl (cA 3, 40, .inr (.inr (.inr (.inl (zd σ 1)))))),
  (A 21, .inl (cA 2, 40, .inl (za σ 14)))],
  [(cA 0, .int), (cA 1, .long), (cA 2, .boolean), (cA 3, .double), (cA 4, .object "PeriodGates$Sheet")], fun _ _ _ => True)
theorem pM_0 {A : Nat → Nat} {cA : Nat → ClassId} {σ : zS} : ((wM A cA).1 σ)[0]? = some (A 0, .inr (7, [.ref (A 1), .int (zi σ 0), .ref (A 2), .ref (A 3), .ref (A 4), .ref (A 5), .ref (A 6), .int (zi σ 1), .int (zi σ 2), .int (zi σ 3), .ref (A 7), .ref (A 8), .ref (A 9), .ref (A 10), .ref (A 11), .long (zl σ 0), .long (zl σ 1), .ref (A 12), .ref (A 13), .int (zi σ 4), .long (zl σ 2), .long (zl σ 3), .long (zl σ 4), .long (zl σ 5), .ref (A 14), .ref (A 15), .ref (A 16), .ref (A 17), .ref (A 18), .ref (A 19), .ref (A 20), .ref (A 21), .int (zi σ 5)])) := rfl
theorem pM_1 {A : Nat → Nat} {cA : Nat → ClassId} {σ : zS} : ((wM A cA).1 σ)[1]? = some (A 1, .inl (cA 0, 32, .inl (za σ 0))) := rfl
theorem pM_2 {A : Nat → Nat} {cA : Nat → ClassId} {σ : zS} : ((wM A cA).1 σ)[2]? = some (A 2, .inl (cA 2, 60, .inl (za σ 1))) := rfl
theorem pM_3 {A : Nat → Nat} {cA : Nat → ClassId} {σ : zS} : ((wM A cA).1 σ)[3]? = some (A 3, .inl (cA 0, 12, .inl (za σ 2))) := rfl
theorem pM_4 {A : Nat → Nat} {cA : Nat → ClassId} {σ : zS} : ((wM A cA).1 σ)[4]? = some (A 4, .inl (cA 0, 60, .inl (za σ 3))) := rfl
theorem pM_5 {A : Nat → Nat} {cA : Nat → ClassId} {σ : zS} : ((wM A cA).1 σ)[5]? = some (A 5, .inl (cA 0, 14, .inl (za σ 4))) := rfl
theorem pM_6 {A : Nat → Nat} {cA : Nat → ClassId} {σ : zS} : ((wM A cA).1 σ)[6]? = some (A 6, .inl (cA 0, 5, .inl (za σ 5))) := rfl
theorem pM_7 {A : Nat → Nat} {cA : Nat → ClassId} {σ : zS} : ((wM A cA).1 σ)[7]? = some (A 7, .inl (cA 1, 32, .inr (.inl (zj σ 0)))) := rfl
theorem pM_8 {A : Nat → Nat} {cA : Nat → ClassId} {σ : zS} : ((wM A cA).1 σ)[8]? = some (A 8, .inl (cA 0, 32, .inl (za σ 6))) := rfl
theorem pM_9 {A : Nat → Nat} {cA : Nat → ClassId} {σ : zS} : ((wM A cA).1 σ)[9]? = some (A 9, .inl (cA 0, 32, .inl (za σ 7))) := rfl
theorem pM_10 {A : Nat → Nat} {cA : Nat → ClassId} {σ : zS} : ((wM A cA).1 σ)[10]? = some (A 10, .inl (cA 2, 32, .inl (za σ 8))) := rfl
theorem pM_11 {A : Nat → Nat} {cA : Nat → ClassId} {σ : zS} : ((wM A cA).1 σ)[11]? = some (A 11, .inl (cA 1, 32, .inr (.inl (zj σ 1)))) := rfl
theorem pM_12 {A : Nat → Nat} {cA : Nat → ClassId} {σ : zS} : ((wM A cA).1 σ)[12]? = some (A 12, .inl (cA 0, 8, .inl (za σ 9))) := rfl
theorem pM_13 {A : Nat → Nat} {cA : Nat → ClassId} {σ : zS} : ((wM A cA).1 σ)[13]? = some (A 13, .inl (cA 0, 8, .inl (za σ 10))) := rfl
theorem pM_14 {A : Nat → Nat} {cA : Nat → ClassId} {σ : zS} : ((wM A cA).1 σ)[14]? = some (A 14, .inl (cA 0, 4, .inl (za σ 11))) := rfl
theorem pM_15 {A : Nat → Nat} {cA : Nat → ClassId} {σ : zS} : ((wM A cA).1 σ)[15]? = some (A 15, .inl (cA 0, 4, .inl (za σ 12))) := rfl
theorem pM_16 {A : Nat → Nat} {cA : Nat → ClassId} {σ : zS} : ((wM A cA).1 σ)[16]? = some (A 16, .inl (cA 1, 160, .inr (.inl (zj σ 2)))) := rfl
theorem pM_17 {A : Nat → Nat} {cA : Nat → ClassId} {σ : zS} : ((wM A cA).1 σ)[17]? = some (A 17, .inl (cA 3, 160, .inr (.inr (.inr (.inl (zd σ 0)))))) := rfl
theorem pM_18 {A : Nat → Nat} {cA : Nat → ClassId} {σ : zS} : ((wM A cA).1 σ)[18]? = some (A 18, .inl (cA 2, 160, .inl (za σ 13))) := rfl
theorem pM_19 {A : Nat → Nat} {cA : Nat → ClassId} {σ : zS} : ((wM A cA).1 σ)[19]? = some (A 19, .inl (cA 1, 40, .inr (.inl (zj σ 3)))) := rfl
theorem pM_20 {A : Nat → Nat} {cA : Nat → ClassId} {σ : zS} : ((wM A cA).1 σ)[20]? = some (A 20, .inl (cA 3, 40, .inr (.inr (.inr (.inl (zd σ 1)))))) := rfl
theorem pM_21 {A : Nat → Nat} {cA : Nat → ClassId} {σ : zS} : ((wM A cA).1 σ)[21]? = some (A 21, .inl (cA 2, 40, .inl (za σ 14))) := rfl
theorem sM_1 {A : Nat → Nat} {cA : Nat → ClassId} {σ : zS} {i : Nat} {v : Int32} : ((wM A cA).1 σ).set 1 (A 1, .inl (cA 0, 32, .inl (upd (za σ 0) i v))) = (wM A cA).1 (wa σ 0 i v) := rfl
theorem sM_2 {A : Nat → Nat} {cA : Nat → ClassId} {σ : zS} {i : Nat} {v : Int32} : ((wM A cA).1 σ).set 2 (A 2, .inl (cA 2, 60, .inl (upd (za σ 1) i v))) = (wM A cA).1 (wa σ 1 i v) := rfl
theorem sM_3 {A : Nat → Nat} {cA : Nat → ClassId} {σ : zS} {i : Nat} {v : Int32} : ((wM A cA).1 σ).set 3 (A 3, .inl (cA 0, 12, .inl (upd (za σ 2) i v))) = (wM A cA).1 (wa σ 2 i v) := rfl
theorem sM_4 {A : Nat → Nat} {cA : Nat → ClassId} {σ : zS} {i : Nat} {v : Int32} : ((wM A cA).1 σ).set 4 (A 4, .inl (cA 0, 60, .inl (upd (za σ 3) i v))) = (wM A cA).1 (wa σ 3 i v) := rfl
theorem sM_5 {A : Nat → Nat} {cA : Nat → ClassId} {σ : zS} {i : Nat} {v : Int32} : ((wM A cA).1 σ).set 5 (A 5, .inl (cA 0, 14, .inl (upd (za σ 4) i v))) = (wM A cA).1 (wa σ 4 i v) := rfl
theorem sM_6 {A : Nat → Nat} {cA : Nat → ClassId} {σ : zS} {i : Nat} {v : Int32} : ((wM A cA).1 σ).set 6 (A 6, .inl (cA 0, 5, .inl (upd (za σ 5) i v))) = (wM A cA).1 (wa σ 5 i v) := rfl
theorem sM_7 {A : Nat → Nat} {cA : Nat → ClassId} {σ : zS} {i : Nat} {v : Int64} : ((wM A cA).1 σ).set 7 (A 7, .inl (cA 1, 32, .inr (.inl (vp_updL (zj σ 0) i v)))) = (wM A cA).1 (wj σ 0 i v) := rfl
theorem sM_8 {A : Nat → Nat} {cA : Nat → ClassId} {σ : zS} {i : Nat} {v : Int32} : ((wM A cA).1 σ).set 8 (A 8, .inl (cA 0, 32, .inl (upd (za σ 6) i v))) = (wM A cA).1 (wa σ 6 i v) := rfl
theorem sM_9 {A : Nat → Nat} {cA : Nat → ClassId} {σ : zS} {i : Nat} {v : Int32} : ((wM A cA).1 σ).set 9 (A 9, .inl (cA 0, 32, .inl (upd (za σ 7) i v))) = (wM A cA).1 (wa σ 7 i v) := rfl
theorem sM_10 {A : Nat → Nat} {cA : Nat → ClassId} {σ : zS} {i : Nat} {v : Int32} : ((wM A cA).1 σ).set 10 (A 10, .inl (cA 2, 32, .inl (upd (za σ 8) i v))) = (wM A cA).1 (wa σ 8 i v) := rfl
theorem sM_11 {A : Nat → Nat} {cA : Nat → ClassId} {σ : zS} {i : Nat} {v : Int64} : ((wM A cA).1 σ).set 11 (A 11, .inl (cA 1, 32, .inr (.inl (vp_updL (zj σ 1) i v)))) = (wM A cA).1 (wj σ 1 i v) := rfl
theorem sM_12 {A : Nat → Nat} {cA : Nat → ClassId} {σ : zS} {i : Nat} {v : Int32} : ((wM A cA).1 σ).set 12 (A 12, .inl (cA 0, 8, .inl (upd (za σ 9) i v))) = (wM A cA).1 (wa σ 9 i v) := rfl
theorem sM_13 {A : Nat → Nat} {cA : Nat → ClassId} {σ : zS} {i : Nat} {v : Int32} : ((wM A cA).1 σ).set 13 (A 13, .inl (cA 0, 8, .inl (upd (za σ 10) i v))) = (wM A cA).1 (wa σ 10 i v) := rfl
theorem sM_14 {A : Nat → Nat} {cA : Nat → ClassId} {σ : zS} {i : Nat} {v : Int32} : ((wM A cA).1 σ).set 14 (A 14, .inl (cA 0, 4, .inl (upd (za σ 11) i v))) = (wM A cA).1 (wa σ 11 i v) := rfl
theorem sM_15 {A : Nat → Nat} {cA : Nat → ClassId} {σ : zS} {i : Nat} {v : Int32} : ((wM A cA).1 σ).set 15 (A 15, .inl (cA 0, 4, .inl (upd (za σ 12) i v))) = (wM A cA).1 (wa σ 12 i v) := rfl
theorem sM_16 {A : Nat → Nat} {cA : Nat → ClassId} {σ : zS} {i : Nat} {v : Int64} : ((wM A cA).1 σ).set 16 (A 16, .inl (cA 1, 160, .inr (.inl (vp_updL (zj σ 2) i v)))) = (wM A cA).1 (wj σ 2 i v) := rfl
theorem sM_17 {A : Nat → Nat} {cA : Nat → ClassId} {σ : zS} {i : Nat} {v : UInt64} : ((wM A cA).1 σ).set 17 (A 17, .inl (cA 3, 160, .inr (.inr (.inr (.inl (vf_upd (zd σ 0) i v)))))) = (wM A cA).1 (wd σ 0 i v) := rfl
theorem sM_18 {A : Nat → Nat} {cA : Nat → ClassId} {σ : zS} {i : Nat} {v : Int32} : ((wM A cA).1 σ).set 18 (A 18, .inl (cA 2, 160, .inl (upd (za σ 13) i v))) = (wM A cA).1 (wa σ 13 i v) := rfl
theorem sM_19 {A : Nat → Nat} {cA : Nat → ClassId} {σ : zS} {i : Nat} {v : Int64} : ((wM A cA).1 σ).set 19 (A 19, .inl (cA 1, 40, .inr (.inl (vp_updL (zj σ 3) i v)))) = (wM A cA).1 (wj σ 3 i v) := rfl
theorem sM_20 {A : Nat → Nat} {cA : Nat → ClassId} {σ : zS} {i : Nat} {v : UInt64} : ((wM A cA).1 σ).set 20 (A 20, .inl (cA 3, 40, .inr (.inr (.inr (.inl (vf_upd (zd σ 1) i v)))))) = (wM A cA).1 (wd σ 1 i v) := rfl
theorem sM_21 {A : Nat → Nat} {cA : Nat → ClassId} {σ : zS} {i : Nat} {v : Int32} : ((wM A cA).1 σ).set 21 (A 21, .inl (cA 2, 40, .inl (upd (za σ 14) i v))) = (wM A cA).1 (wa σ 14 i v) := rfl
theorem sM_0_1 {A : Nat → Nat} {cA : Nat → ClassId} {σ : zS} {v : Int32} : ((wM A cA).1 σ).set 0 (A 0, .inr (7, [.ref (A 1), .int (zi σ 0), .ref (A 2), .ref (A 3), .ref (A 4), .ref (A 5), .ref (A 6), .int (zi σ 1), .int (zi σ 2), .int (zi σ 3), .ref (A 7), .ref (A 8), .ref (A 9), .ref (A 10), .ref (A 11), .long (zl σ 0), .long (zl σ 1), .ref (A 12), .ref (A 13), .int (zi σ 4), .long (zl σ 2), .long (zl σ 3), .long (zl σ 4), .long (zl σ 5), .ref (A 14), .ref (A 15), .ref (A 16), .ref (A 17), .ref (A 18), .ref (A 19), .ref (A 20), .ref (A 21), .int (zi σ 5)].set 1 (.int v))) = (wM A cA).1 (wi σ 0 v) := rfl
theorem sM_0_7 {A : Nat → Nat} {cA : Nat → ClassId} {σ : zS} {v : Int32} : ((wM A cA).1 σ).set 0 (A 0, .inr (7, [.ref (A 1), .int (zi σ 0), .ref (A 2), .ref (A 3), .ref (A 4), .ref (A 5), .ref (A 6), .int (zi σ 1), .int (zi σ 2), .int (zi σ 3), .ref (A 7), .ref (A 8), .ref (A 9), .ref (A 10), .ref (A 11), .long (zl σ 0), .long (zl σ 1), .ref (A 12), .ref (A 13), .int (zi σ 4), .long (zl σ 2), .long (zl σ 3), .long (zl σ 4), .long (zl σ 5), .ref (A 14), .ref (A 15), .ref (A 16), .ref (A 17), .ref (A 18), .ref (A 19), .ref (A 20), .ref (A 21), .int (zi σ 5)].set 7 (.int v))) = (wM A cA).1 (wi σ 1 v) := rfl
theorem sM_0_8 {A : Nat → Nat} {cA : Nat → ClassId} {σ : zS} {v : Int32} : ((wM A cA).1 σ).set 0 (A 0, .inr (7, [.ref (A 1), .int (zi σ 0), .ref (A 2), .ref (A 3), .ref (A 4), .ref (A 5), .ref (A 6), .int (zi σ 1), .int (zi σ 2), .int (zi σ 3), .ref (A 7), .ref (A 8), .ref (A 9), .ref (A 10), .ref (A 11), .long (zl σ 0), .long (zl σ 1), .ref (A 12), .ref (A 13), .int (zi σ 4), .long (zl σ 2), .long (zl σ 3), .long (zl σ 4), .long (zl σ 5), .ref (A 14), .ref (A 15), .ref (A 16), .ref (A 17), .ref (A 18), .ref (A 19), .ref (A 20), .ref (A 21), .int (zi σ 5)].set 8 (.int v))) = (wM A cA).1 (wi σ 2 v) := rfl
theorem sM_0_9 {A : Nat → Nat} {cA : Nat → ClassId} {σ : zS} {v : Int32} : ((wM A cA).1 σ).set 0 (A 0, .inr (7, [.ref (A 1), .int (zi σ 0), .ref (A 2), .ref (A 3), .ref (A 4), .ref (A 5), .ref (A 6), .int (zi σ 1), .int (zi σ 2), .int (zi σ 3), .ref (A 7), .ref (A 8), .ref (A 9), .ref (A 10), .ref (A 11), .long (zl σ 0), .long (zl σ 1), .ref (A 12), .ref (A 13), .int (zi σ 4), .long (zl σ 2), .long (zl σ 3), .long (zl σ 4), .long (zl σ 5), .ref (A 14), .ref (A 15), .ref (A 16), .ref (A 17), .ref (A 18), .ref (A 19), .ref (A 20), .ref (A 21), .int (zi σ 5)].set 9 (.int v))) = (wM A cA).1 (wi σ 3 v) := rfl
theorem sM_0_15 {A : Nat → Nat} {cA : Nat → ClassId} {σ : zS} {v : Int64} : ((wM A cA).1 σ).set 0 (A 0, .inr (7, [.ref (A 1), .int (zi σ 0), .ref (A 2), .ref (A 3), .ref (A 4), .ref (A 5), .ref (A 6), .int (zi σ 1), .int (zi σ 2), .int (zi σ 3), .ref (A 7), .ref (A 8), .ref (A 9), .ref (A 10), .ref (A 11), .long (zl σ 0), .long (zl σ 1), .ref (A 12), .ref (A 13), .int (zi σ 4), .long (zl σ 2), .long (zl σ 3), .long (zl σ 4), .long (zl σ 5), .ref (A 14), .ref (A 15), .ref (A 16), .ref (A 17), .ref (A 18), .ref (A 19), .ref (A 20), .ref (A 21), .int (zi σ 5)].set 15 (.long v))) = (wM A cA).1 (wl σ 0 v) := rfl
theorem sM_0_16 {A : Nat → Nat} {cA : Nat → ClassId} {σ : zS} {v : Int64} : ((wM A cA).1 σ).set 0 (A 0, .inr (7, [.ref (A 1), .int (zi σ 0), .ref (A 2), .ref (A 3), .ref (A 4), .ref (A 5), .ref (A 6), .int (zi σ 1), .int (zi σ 2), .int (zi σ 3), .ref (A 7), .ref (A 8), .ref (A 9), .ref (A 10), .ref (A 11), .long (zl σ 0), .long (zl σ 1), .ref (A 12), .ref (A 13), .int (zi σ 4), .long (zl σ 2), .long (zl σ 3), .long (zl σ 4), .long (zl σ 5), .ref (A 14), .ref (A 15), .ref (A 16), .ref (A 17), .ref (A 18), .ref (A 19), .ref (A 20), .ref (A 21), .int (zi σ 5)].set 16 (.long v))) = (wM A cA).1 (wl σ 1 v) := rfl
theorem sM_0_19 {A : Nat → Nat} {cA : Nat → ClassId} {σ : zS} {v : Int32} : ((wM A cA).1 σ).set 0 (A 0, .inr (7, [.ref (A 1), .int (zi σ 0), .ref (A 2), .ref (A 3), .ref (A 4), .ref (A 5), .ref (A 6), .int (zi σ 1), .int (zi σ 2), .int (zi σ 3), .ref (A 7), .ref (A 8), .ref (A 9), .ref (A 10), .ref (A 11), .long (zl σ 0), .long (zl σ 1), .ref (A 12), .ref (A 13), .int (zi σ 4), .long (zl σ 2), .long (zl σ 3), .long (zl σ 4), .long (zl σ 5), .ref (A 14), .ref (A 15), .ref (A 16), .ref (A 17), .ref (A 18), .ref (A 19), .ref (A 20), .ref (A 21), .int (zi σ 5)].set 19 (.int v))) = (wM A cA).1 (wi σ 4 v) := rfl
theorem sM_0_20 {A : Nat → Nat} {cA : Nat → ClassId} {σ : zS} {v : Int64} : ((wM A cA).1 σ).set 0 (A 0, .inr (7, [.ref (A 1), .int (zi σ 0), .ref (A 2), .ref (A 3), .ref (A 4), .ref (A 5), .ref (A 6), .int (zi σ 1), .int (zi σ 2), .int (zi σ 3), .ref (A 7), .ref (A 8), .ref (A 9), .ref (A 10), .ref (A 11), .long (zl σ 0), .long (zl σ 1), .ref (A 12), .ref (A 13), .int (zi σ 4), .long (zl σ 2), .long (zl σ 3), .long (zl σ 4), .long (zl σ 5), .ref (A 14), .ref (A 15), .ref (A 16), .ref (A 17), .ref (A 18), .ref (A 19), .ref (A 20), .ref (A 21), .int (zi σ 5)].set 20 (.long v))) = (wM A cA).1 (wl σ 2 v) := rfl
theorem sM_0_21 {A : Nat → Nat} {cA : Nat → ClassId} {σ : zS} {v : Int64} : ((wM A cA).1 σ).set 0 (A 0, .inr (7, [.ref (A 1), .int (zi σ 0), .ref (A 2), .ref (A 3), .ref (A 4), .ref (A 5), .ref (A 6), .int (zi σ 1), .int (zi σ 2), .int (zi σ 3), .ref (A 7), .ref (A 8), .ref (A 9), .ref (A 10), .ref (A 11), .long (zl σ 0), .long (zl σ 1), .ref (A 12), .ref (A 13), .int (zi σ 4), .long (zl σ 2), .long (zl σ 3), .long (zl σ 4), .long (zl σ 5), .ref (A 14), .ref (A 15), .ref (A 16), .ref (A 17), .ref (A 18), .ref (A 19), .ref (A 20), .ref (A 21), .int (zi σ 5)].set 21 (.long v))) = (wM A cA).1 (wl σ 3 v) := rfl
theorem sM_0_22 {A : Nat → Nat} {cA : Nat → ClassId} {σ : zS} {v : Int64} : ((wM A cA).1 σ).set 0 (A 0, .inr (7, [.ref (A 1), .int (zi σ 0), .ref (A 2), .ref (A 3), .ref (A 4), .ref (A 5), .ref (A 6), .int (zi σ 1), .int (zi σ 2), .int (zi σ 3), .ref (A 7), .ref (A 8), .ref (A 9), .ref (A 10), .ref (A 11), .long (zl σ 0), .long (zl σ 1), .ref (A 12), .ref (A 13), .int (zi σ 4), .long (zl σ 2), .long (zl σ 3), .long (zl σ 4), .long (zl σ 5), .ref (A 14), .ref (A 15), .ref (A 16), .ref (A 17), .ref (A 18), .ref (A 19), .ref (A 20), .ref (A 21), .int (zi σ 5)].set 22 (.long v))) = (wM A cA).1 (wl σ 4 v) := rfl
theorem sM_0_23 {A : Nat → Nat} {cA : Nat → ClassId} {σ : zS} {v : Int64} : ((wM A cA).1 σ).set 0 (A 0, .inr (7, [.ref (A 1), .int (zi σ 0), .ref (A 2), .ref (A 3), .ref (A 4), .ref (A 5), .ref (A 6), .int (zi σ 1), .int (zi σ 2), .int (zi σ 3), .ref (A 7), .ref (A 8), .ref (A 9), .ref (A 10), .ref (A 11), .long (zl σ 0), .long (zl σ 1), .ref (A 12), .ref (A 13), .int (zi σ 4), .long (zl σ 2), .long (zl σ 3), .long (zl σ 4), .long (zl σ 5), .ref (A 14), .ref (A 15), .ref (A 16), .ref (A 17), .ref (A 18), .ref (A 19), .ref (A 20), .ref (A 21), .int (zi σ 5)].set 23 (.long v))) = (wM A cA).1 (wl σ 5 v) := rfl
theorem sM_0_32 {A : Nat → Nat} {cA : Nat → ClassId} {σ : zS} {v : Int32} : ((wM A cA).1 σ).set 0 (A 0, .inr (7, [.ref (A 1), .int (zi σ 0), .ref (A 2), .ref (A 3), .ref (A 4), .ref (A 5), .ref (A 6), .int (zi σ 1), .int (zi σ 2), .int (zi σ 3), .ref (A 7), .ref (A 8), .ref (A 9), .ref (A 10), .ref (A 11), .long (zl σ 0), .long (zl σ 1), .ref (A 12), .ref (A 13), .int (zi σ 4), .long (zl σ 2), .long (zl σ 3), .long (zl σ 4), .long (zl σ 5), .ref (A 14), .ref (A 15), .ref (A 16), .ref (A 17), .ref (A 18), .ref (A 19), .ref (A 20), .ref (A 21), .int (zi σ 5)].set 32 (.int v))) = (wM A cA).1 (wi σ 5 v) := rfl
theorem tX0_2 : zT2 TX0 4 tyX0 := ⟨tyX0_ok, nmX0⟩
theorem tX1_2 : zT2 TX1 5 tyX1 := ⟨tyX1_ok, nmX1⟩
theorem tX2_2 : zT2 TX2 10 tyX2 := ⟨tyX2_ok, nmX2⟩
theorem tX3_2 : zT2 TX3 5 tyX3 := ⟨tyX3_ok, nmX3⟩
theorem tX4_2 : zT2 TX4 4 tyX4 := ⟨tyX4_ok, nmX4⟩
theorem tX5_2 : zT2 TX5 2 tyX5 := ⟨tyX5_ok, nmX5⟩
theorem tX6_2 : zT2 TX6 12 tyX6 := ⟨tyX6_ok, nmX6⟩
theorem tX7_2 : zT2 TX7 33 tyX7 := ⟨tyX7_ok, nmX7⟩

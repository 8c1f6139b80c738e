theorem gg_iconst {S α : Type} {C : zK} {ω : zO S} {cc : ByteArray} {own : String} {nL fr lo pc : Nat} {E : α → Prop} {o : Option α} {lv : List (Nat × Value)} {st : List Value} {σ : S} (hC : zOK C ω cc own nL fr lo) {n : Int} {x : Int32} (hd : decode cc pc = .ok (.iconst n, 1)) (hx : Int32.ofInt n = x) (k : zG C ω nL E o (pc + 1) lv (.int x :: st) σ) : zG C ω nL E o pc lv st σ :=
  fun v hv hE H locs ls hP hD hS hl => lv_iconst hC.1 hC.2.1 hd hx (k v hv hE H locs ls hP hD hS hl)
theorem gg_bipush {S α : Type} {C : zK} {ω : zO S} {cc : ByteArray} {own : String} {nL fr lo pc : Nat} {E : α → Prop} {o : Option α} {lv : List (Nat × Value)} {st : List Value} {σ : S} (hC : zOK C ω cc own nL fr lo) {n : Int} {x : Int32} (hd : decode cc pc = .ok (.bipush n, 2)) (hx : (Int8.ofInt n).toInt32 = x) (k : zG C ω nL E o (pc + 2) lv (.int x :: st) σ) : zG C ω nL E o pc lv st σ :=
  fun v hv hE H locs ls hP hD hS hl => lv_bipush hC.1 hC.2.1 hd hx (k v hv hE H locs ls hP hD hS hl)
theorem gg_sipush {S α : Type} {C : zK} {ω : zO S} {cc : ByteArray} {own : String} {nL fr lo pc : Nat} {E : α → Prop} {o : Option α} {lv : List (Nat × Value)} {st : List Value} {σ : S} (hC : zOK C ω cc own nL fr lo) {n : Int} {x : Int32} (hd : decode cc pc = .ok (.sipush n, 3)) (hx : (Int16.ofInt n).toInt32 = x) (k : zG C ω nL E o (pc + 3) lv (.int x :: st) σ) : zG C ω nL E o pc lv st σ :=
  fun v hv hE H locs ls hP hD hS hl => lv_sipush hC.1 hC.2.1 hd hx (k v hv hE H locs ls hP hD hS hl)
theorem gg_lconst {S α : Type} {C : zK} {ω : zO S} {cc : ByteArray} {own : String} {nL fr lo pc : Nat} {E : α → Prop} {o : Option α} {lv : List (Nat × Value)} {st : List Value} {σ : S} (hC : zOK C ω cc own nL fr lo) {n : Fin 2} {x : Int64} (hd : decode cc pc = .ok (.lconst n, 1)) (hx : Int64.ofNat (n : Nat) = x) (k : zG C ω nL E o (pc + 1) lv (.long x :: st) σ) : zG C ω nL E o pc lv st σ :=
  fun v hv hE H locs ls hP hD hS hl => lv_lconst hC.1 hC.2.1 hd hx (k v hv hE H locs ls hP hD hS hl)
theorem gg_dconst0 {S α : Type} {C : zK} {ω : zO S} {cc : ByteArray} {own : String} {nL fr lo pc : Nat} {E : α → Prop} {o : Option α} {lv : List (Nat × Value)} {st : List Value} {σ : S} (hC : zOK C ω cc own nL fr lo)  (hd : decode cc pc = .ok (.dconst 0, 1))  (k : zG C ω nL E o (pc + 1) lv (.double FP.dconst0 :: st) σ) : zG C ω nL E o pc lv st σ :=
  fun v hv hE H locs ls hP hD hS hl => lv_dconst0 hC.1 hC.2.1 hd (k v hv hE H locs ls hP hD hS hl)
theorem gg_ldc {S α : Type} {C : zK} {ω : zO S} {cc : ByteArray} {own : String} {nL fr lo pc : Nat} {E : α → Prop} {o : Option α} {lv : List (Nat × Value)} {st : List Value} {σ : S} (hC : zOK C ω cc own nL fr lo) {i : Nat} {x : Int32} (hd : decode cc pc = .ok (.ldc i, 2)) (hw : Cond.constant own i x ∈ zT) (k : zG C ω nL E o (pc + 2) lv (.int x :: st) σ) : zG C ω nL E o pc lv st σ :=
  fun v hv hE H locs ls hP hD hS hl => lv_ldc hC.1 hC.2.1 hC.2.2.2.1 (hC.2.2.2.2.1 _ hw) hd (k v hv hE H locs ls hP hD hS hl)
theorem gg_ldcf {S α : Type} {C : zK} {ω : zO S} {cc : ByteArray} {own : String} {nL fr lo pc : Nat} {E : α → Prop} {o : Option α} {lv : List (Nat × Value)} {st : List Value} {σ : S} (hC : zOK C ω cc own nL fr lo) {i : Nat} {x : UInt32} (hd : decode cc pc = .ok (.ldc i, 2)) (hw : Cond.constantFloat own i x ∈ zT) (k : zG C ω nL E o (pc + 2) lv (.float x :: st) σ) : zG C ω nL E o pc lv st σ :=
  fun v hv hE H locs ls hP hD hS hl => lv_ldcf hC.1 hC.2.1 hC.2.2.2.1 (hC.2.2.2.2.1 _ hw) hd (k v hv hE H locs ls hP hD hS hl)
theorem gg_ldc2 {S α : Type} {C : zK} {ω : zO S} {cc : ByteArray} {own : String} {nL fr lo pc : Nat} {E : α → Prop} {o : Option α} {lv : List (Nat × Value)} {st : List Value} {σ : S} (hC : zOK C ω cc own nL fr lo) {i : Nat} {x : Int64} (hd : decode cc pc = .ok (.ldc2_w i, 3)) (hw : Cond.constantLong own i x ∈ zT) (k : zG C ω nL E o (pc + 3) lv (.long x :: st) σ) : zG C ω nL E o pc lv st σ :=
  fun v hv hE H locs ls hP hD hS hl => lv_ldc2 hC.1 hC.2.1 hC.2.2.2.1 (hC.2.2.2.2.1 _ hw) hd (k v hv hE H locs ls hP hD hS hl)
theorem gg_ldc2d {S α : Type} {C : zK} {ω : zO S} {cc : ByteArray} {own : String} {nL fr lo pc : Nat} {E : α → Prop} {o : Option α} {lv : List (Nat × Value)} {st : List Value} {σ : S} (hC : zOK C ω cc own nL fr lo) {i : Nat} {x : UInt64} (hd : decode cc pc = .ok (.ldc2_w i, 3)) (hw : Cond.constantDouble own i x ∈ zT) (k : zG C ω nL E o (pc + 3) lv (.double x :: st) σ) : zG C ω nL E o pc lv st σ :=
  fun v hv hE H locs ls hP hD hS hl => lv_ldc2d hC.1 hC.2.1 hC.2.2.2.1 (hC.2.2.2.2.1 _ hw) hd (k v hv hE H locs ls hP hD hS hl)
theorem gg_iload_n {S α : Type} {C : zK} {ω : zO S} {cc : ByteArray} {own : String} {nL fr lo pc : Nat} {E : α → Prop} {o : Option α} {lv : List (Nat × Value)} {st : List Value} {σ : S} (hC : zOK C ω cc own nL fr lo) {k4 : Fin 4} {i : Nat} {x : Int32} (hd : decode cc pc = .ok (.iload_n k4, 1)) (hi : (k4 : Nat) = i) (j : Nat) (hj : lv[j]? = some (i, .int x)) (k : zG C ω nL E o (pc + 1) lv (.int x :: st) σ) : zG C ω nL E o pc lv st σ :=
  fun v hv hE H locs ls hP hD hS hl => lv_iload_n hC.1 hC.2.1 hd hi (lv_at hl j hj) (k v hv hE H locs ls hP hD hS hl)
theorem gg_iload {S α : Type} {C : zK} {ω : zO S} {cc : ByteArray} {own : String} {nL fr lo pc : Nat} {E : α → Prop} {o : Option α} {lv : List (Nat × Value)} {st : List Value} {σ : S} (hC : zOK C ω cc own nL fr lo) {i : Nat} {x : Int32} (hd : decode cc pc = .ok (.iload i, 2)) (j : Nat) (hj : lv[j]? = some (i, .int x)) (k : zG C ω nL E o (pc + 2) lv (.int x :: st) σ) : zG C ω nL E o pc lv st σ :=
  fun v hv hE H locs ls hP hD hS hl => lv_iload hC.1 hC.2.1 hd (lv_at hl j hj) (k v hv hE H locs ls hP hD hS hl)
theorem gg_istore_n {S α : Type} {C : zK} {ω : zO S} {cc : ByteArray} {own : String} {nL fr lo pc : Nat} {E : α → Prop} {o : Option α} {lv : List (Nat × Value)} {st : List Value} {σ : S} (hC : zOK C ω cc own nL fr lo) {k4 : Fin 4} {i : Nat} {x : Int32} {lv' : List (Nat × Value)} (hd : decode cc pc = .ok (.istore_n k4, 1)) (hi : (k4 : Nat) = i) (hn : i < nL) (hl' : (i, Value.int x) :: lv.filter (fun q => !(q.1 == i) && !(q.1 + 1 == i && q.2.category == 2)) = lv') (k : zG C ω nL E o (pc + 1) lv' st σ) : zG C ω nL E o pc lv (.int x :: st) σ :=
  fun v hv hE H locs ls hP hD hS hl => lv_istore_n hC.1 hC.2.1 hd hi hl hn hl' (fun ls' h' => k v hv hE H locs ls' hP hD hS h')
theorem gg_istore {S α : Type} {C : zK} {ω : zO S} {cc : ByteArray} {own : String} {nL fr lo pc : Nat} {E : α → Prop} {o : Option α} {lv : List (Nat × Value)} {st : List Value} {σ : S} (hC : zOK C ω cc own nL fr lo) {i : Nat} {x : Int32} {lv' : List (Nat × Value)} (hd : decode cc pc = .ok (.istore i, 2)) (hn : i < nL) (hl' : (i, Value.int x) :: lv.filter (fun q => !(q.1 == i) && !(q.1 + 1 == i && q.2.category == 2)) = lv') (k : zG C ω nL E o (pc + 2) lv' st σ) : zG C ω nL E o pc lv (.int x :: st) σ :=
  fun v hv hE H locs ls hP hD hS hl => lv_istore hC.1 hC.2.1 hd hl hn hl' (fun ls' h' => k v hv hE H locs ls' hP hD hS h')
theorem gg_lload_n {S α : Type} {C : zK} {ω : zO S} {cc : ByteArray} {own : String} {nL fr lo pc : Nat} {E : α → Prop} {o : Option α} {lv : List (Nat × Value)} {st : List Value} {σ : S} (hC : zOK C ω cc own nL fr lo) {k4 : Fin 4} {i : Nat} {x : Int64} (hd : decode cc pc = .ok (.lload_n k4, 1)) (hi : (k4 : Nat) = i) (j : Nat) (hj : lv[j]? = some (i, .long x)) (k : zG C ω nL E o (pc + 1) lv (.long x :: st) σ) : zG C ω nL E o pc lv st σ :=
  fun v hv hE H locs ls hP hD hS hl => lv_lload_n hC.1 hC.2.1 hd hi (lv_at hl j hj) (k v hv hE H locs ls hP hD hS hl)
theorem gg_lload {S α : Type} {C : zK} {ω : zO S} {cc : ByteArray} {own : String} {nL fr lo pc : Nat} {E : α → Prop} {o : Option α} {lv : List (Nat × Value)} {st : List Value} {σ : S} (hC : zOK C ω cc own nL fr lo) {i : Nat} {x : Int64} (hd : decode cc pc = .ok (.lload i, 2)) (j : Nat) (hj : lv[j]? = some (i, .long x)) (k : zG C ω nL E o (pc + 2) lv (.long x :: st) σ) : zG C ω nL E o pc lv st σ :=
  fun v hv hE H locs ls hP hD hS hl => lv_lload hC.1 hC.2.1 hd (lv_at hl j hj) (k v hv hE H locs ls hP hD hS hl)
theorem gg_lstore_n {S α : Type} {C : zK} {ω : zO S} {cc : ByteArray} {own : String} {nL fr lo pc : Nat} {E : α → Prop} {o : Option α} {lv : List (Nat × Value)} {st : List Value} {σ : S} (hC : zOK C ω cc own nL fr lo) {k4 : Fin 4} {i : Nat} {x : Int64} {lv' : List (Nat × Value)} (hd : decode cc pc = .ok (.lstore_n k4, 1)) (hi : (k4 : Nat) = i) (hn : i + 1 < nL) (hl' : (i, Value.long x) :: lv.filter (fun q => !(q.1 == i) && (!(q.1 == i + 1) && !(q.1 + 1 == i && q.2.category == 2))) = lv') (k : zG C ω nL E o (pc + 1) lv' st σ) : zG C ω nL E o pc lv (.long x :: st) σ :=
  fun v hv hE H locs ls hP hD hS hl => lv_lstore_n hC.1 hC.2.1 hd hi hl hn hl' (fun ls' h' => k v hv hE H locs ls' hP hD hS h')
theorem gg_lstore {S α : Type} {C : zK} {ω : zO S} {cc : ByteArray} {own : String} {nL fr lo pc : Nat} {E : α → Prop} {o : Option α} {lv : List (Nat × Value)} {st : List Value} {σ : S} (hC : zOK C ω cc own nL fr lo) {i : Nat} {x : Int64} {lv' : List (Nat × Value)} (hd : decode cc pc = .ok (.lstore i, 2)) (hn : i + 1 < nL) (hl' : (i, Value.long x) :: lv.filter (fun q => !(q.1 == i) && (!(q.1 == i + 1) && !(q.1 + 1 == i && q.2.category == 2))) = lv') (k : zG C ω nL E o (pc + 2) lv' st σ) : zG C ω nL E o pc lv (.long x :: st) σ :=
  fun v hv hE H locs ls hP hD hS hl => lv_lstore hC.1 hC.2.1 hd hl hn hl' (fun ls' h' => k v hv hE H locs ls' hP hD hS h')
theorem gg_dload_n {S α : Type} {C : zK} {ω : zO S} {cc : ByteArray} {own : String} {nL fr lo pc : Nat} {E : α → Prop} {o : Option α} {lv : List (Nat × Value)} {st : List Value} {σ : S} (hC : zOK C ω cc own nL fr lo) {k4 : Fin 4} {i : Nat} {x : UInt64} (hd : decode cc pc = .ok (.dload_n k4, 1)) (hi : (k4 : Nat) = i) (j : Nat) (hj : lv[j]? = some (i, .double x)) (k : zG C ω nL E o (pc + 1) lv (.double x :: st) σ) : zG C ω nL E o pc lv st σ :=
  fun v hv hE H locs ls hP hD hS hl => lv_dload_n hC.1 hC.2.1 hd hi (lv_at hl j hj) (k v hv hE H locs ls hP hD hS hl)
theorem gg_dload {S α : Type} {C : zK} {ω : zO S} {cc : ByteArray} {own : String} {nL fr lo pc : Nat} {E : α → Prop} {o : Option α} {lv : List (Nat × Value)} {st : List Value} {σ : S} (hC : zOK C ω cc own nL fr lo) {i : Nat} {x : UInt64} (hd : decode cc pc = .ok (.dload i, 2)) (j : Nat) (hj : lv[j]? = some (i, .double x)) (k : zG C ω nL E o (pc + 2) lv (.double x :: st) σ) : zG C ω nL E o pc lv st σ :=
  fun v hv hE H locs ls hP hD hS hl => lv_dload hC.1 hC.2.1 hd (lv_at hl j hj) (k v hv hE H locs ls hP hD hS hl)
theorem gg_dstore_n {S α : Type} {C : zK} {ω : zO S} {cc : ByteArray} {own : String} {nL fr lo pc : Nat} {E : α → Prop} {o : Option α} {lv : List (Nat × Value)} {st : List Value} {σ : S} (hC : zOK C ω cc own nL fr lo) {k4 : Fin 4} {i : Nat} {x : UInt64} {lv' : List (Nat × Value)} (hd : decode cc pc = .ok (.dstore_n k4, 1)) (hi : (k4 : Nat) = i) (hn : i + 1 < nL) (hl' : (i, Value.double x) :: lv.filter (fun q => !(q.1 == i) && (!(q.1 == i + 1) && !(q.1 + 1 == i && q.2.category == 2))) = lv') (k : zG C ω nL E o (pc + 1) lv' st σ) : zG C ω nL E o pc lv (.double x :: st) σ :=
  fun v hv hE H locs ls hP hD hS hl => lv_dstore_n hC.1 hC.2.1 hd hi hl hn hl' (fun ls' h' => k v hv hE H locs ls' hP hD hS h')
theorem gg_dstore {S α : Type} {C : zK} {ω : zO S} {cc : ByteArray} {own : String} {nL fr lo pc : Nat} {E : α → Prop} {o : Option α} {lv : List (Nat × Value)} {st : List Value} {σ : S} (hC : zOK C ω cc own nL fr lo) {i : Nat} {x : UInt64} {lv' : List (Nat × Value)} (hd : decode cc pc = .ok (.dstore i, 2)) (hn : i + 1 < nL) (hl' : (i, Value.double x) :: lv.filter (fun q => !(q.1 == i) && (!(q.1 == i + 1) && !(q.1 + 1 == i && q.2.category == 2))) = lv') (k : zG C ω nL E o (pc + 2) lv' st σ) : zG C ω nL E o pc lv (.double x :: st) σ :=
  fun v hv hE H locs ls hP hD hS hl => lv_dstore hC.1 hC.2.1 hd hl hn hl' (fun ls' h' => k v hv hE H locs ls' hP hD hS h')
theorem gg_aload_n {S α : Type} {C : zK} {ω : zO S} {cc : ByteArray} {own : String} {nL fr lo pc : Nat} {E : α → Prop} {o : Option α} {lv : List (Nat × Value)} {st : List Value} {σ : S} (hC : zOK C ω cc own nL fr lo) {k4 : Fin 4} {i : Nat} {x : Nat} (hd : decode cc pc = .ok (.aload_n k4, 1)) (hi : (k4 : Nat) = i) (j : Nat) (hj : lv[j]? = some (i, .ref x)) (k : zG C ω nL E o (pc + 1) lv (.ref x :: st) σ) : zG C ω nL E o pc lv st σ :=
  fun v hv hE H locs ls hP hD hS hl => lv_aload_n hC.1 hC.2.1 hd hi (lv_at hl j hj) (k v hv hE H locs ls hP hD hS hl)
theorem gg_aload {S α : Type} {C : zK} {ω : zO S} {cc : ByteArray} {own : String} {nL fr lo pc : Nat} {E : α → Prop} {o : Option α} {lv : List (Nat × Value)} {st : List Value} {σ : S} (hC : zOK C ω cc own nL fr lo) {i : Nat} {x : Nat} (hd : decode cc pc = .ok (.aload i, 2)) (j : Nat) (hj : lv[j]? = some (i, .ref x)) (k : zG C ω nL E o (pc + 2) lv (.ref x :: st) σ) : zG C ω nL E o pc lv st σ :=
  fun v hv hE H locs ls hP hD hS hl => lv_aload hC.1 hC.2.1 hd (lv_at hl j hj) (k v hv hE H locs ls hP hD hS hl)
theorem gg_astore_n {S α : Type} {C : zK} {ω : zO S} {cc : ByteArray} {own : String} {nL fr lo pc : Nat} {E : α → Prop} {o : Option α} {lv : List (Nat × Value)} {st : List Value} {σ : S} (hC : zOK C ω cc own nL fr lo) {k4 : Fin 4} {i : Nat} {x : Nat} {lv' : List (Nat × Value)} (hd : decode cc pc = .ok (.astore_n k4, 1)) (hi : (k4 : Nat) = i) (hn : i < nL) (hl' : (i, Value.ref x) :: lv.filter (fun q => !(q.1 == i) && !(q.1 + 1 == i && q.2.category == 2)) = lv') (k : zG C ω nL E o (pc + 1) lv' st σ) : zG C ω nL E o pc lv (.ref x :: st) σ :=
  fun v hv hE H locs ls hP hD hS hl => lv_astore_n hC.1 hC.2.1 hd hi hl hn hl' (fun ls' h' => k v hv hE H locs ls' hP hD hS h')
theorem gg_astore {S α : Type} {C : zK} {ω : zO S} {cc : ByteArray} {own : String} {nL fr lo pc : Nat} {E : α → Prop} {o : Option α} {lv : List (Nat × Value)} {st : List Value} {σ : S} (hC : zOK C ω cc own nL fr lo) {i : Nat} {x : Nat} {lv' : List (Nat × Value)} (hd : decode cc pc = .ok (.astore i, 2)) (hn : i < nL) (hl' : (i, Value.ref x) :: lv.filter (fun q => !(q.1 == i) && !(q.1 + 1 == i && q.2.category == 2)) = lv') (k : zG C ω nL E o (pc + 2) lv' st σ) : zG C ω nL E o pc lv (.ref x :: st) σ :=
  fun v hv hE H locs ls hP hD hS hl => lv_astore hC.1 hC.2.1 hd hl hn hl' (fun ls' h' => k v hv hE H locs ls' hP hD hS h')
theorem gg_iinc {S α : Type} {C : zK} {ω : zO S} {cc : ByteArray} {own : String} {nL fr lo pc : Nat} {E : α → Prop} {o : Option α} {lv : List (Nat × Value)} {st : List Value} {σ : S} (hC : zOK C ω cc own nL fr lo) {i j : Nat} {n : Int} {x y z : Int32} {lv' : List (Nat × Value)} (hd : decode cc pc = .ok (.iinc i n, 3)) (hj : lv[j]? = some (i, .int x)) (hz : Int32.ofInt n = z) (hn : i < nL) (hl' : (i, Value.int (x + z)) :: lv.filter (fun q => !(q.1 == i) && !(q.1 + 1 == i && q.2.category == 2)) = lv') (k : zG C ω nL E o (pc + 3) lv' st σ) : zG C ω nL E o pc lv st σ :=
  fun v hv hE H locs ls hP hD hS hl => lv_iinc hC.1 hC.2.1 hd hl hj (by rw [hz]) hn hl' (fun ls' h' => k v hv hE H locs ls' hP hD hS h')
theorem gg_iadd {S α : Type} {C : zK} {ω : zO S} {cc : ByteArray} {own : String} {nL fr lo pc : Nat} {E : α → Prop} {o : Option α} {lv : List (Nat × Value)} {st : List Value} {σ : S} (hC : zOK C ω cc own nL fr lo) {x y : Int32} (hd : decode cc pc = .ok (.iadd, 1)) (k : zG C ω nL E o (pc + 1) lv (.int (x + y) :: st) σ) : zG C ω nL E o pc lv (.int y :: .int x :: st) σ :=
  fun v hv hE H locs ls hP hD hS hl => lv_iadd hC.1 hC.2.1 hd (k v hv hE H locs ls hP hD hS hl)
theorem gg_isub {S α : Type} {C : zK} {ω : zO S} {cc : ByteArray} {own : String} {nL fr lo pc : Nat} {E : α → Prop} {o : Option α} {lv : List (Nat × Value)} {st : List Value} {σ : S} (hC : zOK C ω cc own nL fr lo) {x y : Int32} (hd : decode cc pc = .ok (.isub, 1)) (k : zG C ω nL E o (pc + 1) lv (.int (x - y) :: st) σ) : zG C ω nL E o pc lv (.int y :: .int x :: st) σ :=
  fun v hv hE H locs ls hP hD hS hl => lv_isub hC.1 hC.2.1 hd (k v hv hE H locs ls hP hD hS hl)
theorem gg_imul {S α : Type} {C : zK} {ω : zO S} {cc : ByteArray} {own : String} {nL fr lo pc : Nat} {E : α → Prop} {o : Option α} {lv : List (Nat × Value)} {st : List Value} {σ : S} (hC : zOK C ω cc own nL fr lo) {x y : Int32} (hd : decode cc pc = .ok (.imul, 1)) (k : zG C ω nL E o (pc + 1) lv (.int (x * y) :: st) σ) : zG C ω nL E o pc lv (.int y :: .int x :: st) σ :=
  fun v hv hE H locs ls hP hD hS hl => lv_imul hC.1 hC.2.1 hd (k v hv hE H locs ls hP hD hS hl)
theorem gg_iand {S α : Type} {C : zK} {ω : zO S} {cc : ByteArray} {own : String} {nL fr lo pc : Nat} {E : α → Prop} {o : Option α} {lv : List (Nat × Value)} {st : List Value} {σ : S} (hC : zOK C ω cc own nL fr lo) {x y : Int32} (hd : decode cc pc = .ok (.iand, 1)) (k : zG C ω nL E o (pc + 1) lv (.int (x &&& y) :: st) σ) : zG C ω nL E o pc lv (.int y :: .int x :: st) σ :=
  fun v hv hE H locs ls hP hD hS hl => lv_iand hC.1 hC.2.1 hd (k v hv hE H locs ls hP hD hS hl)
theorem gg_ior {S α : Type} {C : zK} {ω : zO S} {cc : ByteArray} {own : String} {nL fr lo pc : Nat} {E : α → Prop} {o : Option α} {lv : List (Nat × Value)} {st : List Value} {σ : S} (hC : zOK C ω cc own nL fr lo) {x y : Int32} (hd : decode cc pc = .ok (.ior, 1)) (k : zG C ω nL E o (pc + 1) lv (.int (x ||| y) :: st) σ) : zG C ω nL E o pc lv (.int y :: .int x :: st) σ :=
  fun v hv hE H locs ls hP hD hS hl => lv_ior hC.1 hC.2.1 hd (k v hv hE H locs ls hP hD hS hl)
theorem gg_ishl {S α : Type} {C : zK} {ω : zO S} {cc : ByteArray} {own : String} {nL fr lo pc : Nat} {E : α → Prop} {o : Option α} {lv : List (Nat × Value)} {st : List Value} {σ : S} (hC : zOK C ω cc own nL fr lo) {x y : Int32} (hd : decode cc pc = .ok (.ishl, 1)) (k : zG C ω nL E o (pc + 1) lv (.int (x <<< (y &&& 31)) :: st) σ) : zG C ω nL E o pc lv (.int y :: .int x :: st) σ :=
  fun v hv hE H locs ls hP hD hS hl => lv_ishl hC.1 hC.2.1 hd (k v hv hE H locs ls hP hD hS hl)
theorem gg_ishr {S α : Type} {C : zK} {ω : zO S} {cc : ByteArray} {own : String} {nL fr lo pc : Nat} {E : α → Prop} {o : Option α} {lv : List (Nat × Value)} {st : List Value} {σ : S} (hC : zOK C ω cc own nL fr lo) {x y : Int32} (hd : decode cc pc = .ok (.ishr, 1)) (k : zG C ω nL E o (pc + 1) lv (.int (x >>> (y &&& 31)) :: st) σ) : zG C ω nL E o pc lv (.int y :: .int x :: st) σ :=
  fun v hv hE H locs ls hP hD hS hl => lv_ishr hC.1 hC.2.1 hd (k v hv hE H locs ls hP hD hS hl)
theorem gg_ladd {S α : Type} {C : zK} {ω : zO S} {cc : ByteArray} {own : String} {nL fr lo pc : Nat} {E : α → Prop} {o : Option α} {lv : List (Nat × Value)} {st : List Value} {σ : S} (hC : zOK C ω cc own nL fr lo) {x y : Int64} (hd : decode cc pc = .ok (.ladd, 1)) (k : zG C ω nL E o (pc + 1) lv (.long (x + y) :: st) σ) : zG C ω nL E o pc lv (.long y :: .long x :: st) σ :=
  fun v hv hE H locs ls hP hD hS hl => lv_ladd hC.1 hC.2.1 hd (k v hv hE H locs ls hP hD hS hl)
theorem gg_lsub {S α : Type} {C : zK} {ω : zO S} {cc : ByteArray} {own : String} {nL fr lo pc : Nat} {E : α → Prop} {o : Option α} {lv : List (Nat × Value)} {st : List Value} {σ : S} (hC : zOK C ω cc own nL fr lo) {x y : Int64} (hd : decode cc pc = .ok (.lsub, 1)) (k : zG C ω nL E o (pc + 1) lv (.long (x - y) :: st) σ) : zG C ω nL E o pc lv (.long y :: .long x :: st) σ :=
  fun v hv hE H locs ls hP hD hS hl => lv_lsub hC.1 hC.2.1 hd (k v hv hE H locs ls hP hD hS hl)
theorem gg_lmul {S α : Type} {C : zK} {ω : zO S} {cc : ByteArray} {own : String} {nL fr lo pc : Nat} {E : α → Prop} {o : Option α} {lv : List (Nat × Value)} {st : List Value} {σ : S} (hC : zOK C ω cc own nL fr lo) {x y : Int64} (hd : decode cc pc = .ok (.lmul, 1)) (k : zG C ω nL E o (pc + 1) lv (.long (x * y) :: st) σ) : zG C ω nL E o pc lv (.long y :: .long x :: st) σ :=
  fun v hv hE H locs ls hP hD hS hl => lv_lmul hC.1 hC.2.1 hd (k v hv hE H locs ls hP hD hS hl)
theorem gg_idiv {S α : Type} {C : zK} {ω : zO S} {cc : ByteArray} {own : String} {nL fr lo pc : Nat} {E : α → Prop} {o : Option α} {lv : List (Nat × Value)} {st : List Value} {σ : S} (hC : zOK C ω cc own nL fr lo) {x y : Int32} (hd : decode cc pc = .ok (.idiv, 1)) (hy : ¬ y = 0) (k : zG C ω nL E o (pc + 1) lv (.int (x / y) :: st) σ) : zG C ω nL E o pc lv (.int y :: .int x :: st) σ :=
  fun v hv hE H locs ls hP hD hS hl => lv_idiv hC.1 hC.2.1 hd hy (k v hv hE H locs ls hP hD hS hl)
theorem gg_idiv_g {S α : Type} {C : zK} {ω : zO S} {cc : ByteArray} {own : String} {nL fr lo pc : Nat} {E : α → Prop} {o : Option α} {lv : List (Nat × Value)} {st : List Value} {σ : S} (hC : zOK C ω cc own nL fr lo) {x y : Int32} (hd : decode cc pc = .ok (.idiv, 1)) (k : zG C ω nL E o (pc + 1) lv (.int (x / y) :: st) σ) : zG C ω nL E (zg (decide (¬ y = 0)) o) pc lv (.int y :: .int x :: st) σ := by
  intro v hv hE H locs ls hP hD hS hl
  unfold zg at hv
  split at hv
  · next hy => exact lv_idiv hC.1 hC.2.1 hd (of_decide_eq_true hy) (k v hv hE H locs ls hP hD hS hl)
  · cases hv
theorem gg_irem {S α : Type} {C : zK} {ω : zO S} {cc : ByteArray} {own : String} {nL fr lo pc : Nat} {E : α → Prop} {o : Option α} {lv : List (Nat × Value)} {st : List Value} {σ : S} (hC : zOK C ω cc own nL fr lo) {x y : Int32} (hd : decode cc pc = .ok (.irem, 1)) (hy : ¬ y = 0) (k : zG C ω nL E o (pc + 1) lv (.int (x - x / y * y) :: st) σ) : zG C ω nL E o pc lv (.int y :: .int x :: st) σ :=
  fun v hv hE H locs ls hP hD hS hl => lv_irem hC.1 hC.2.1 hd hy (k v hv hE H locs ls hP hD hS hl)
theorem gg_irem_g {S α : Type} {C : zK} {ω : zO S} {cc : ByteArray} {own : String} {nL fr lo pc : Nat} {E : α → Prop} {o : Option α} {lv : List (Nat × Value)} {st : List Value} {σ : S} (hC : zOK C ω cc own nL fr lo) {x y : Int32} (hd : decode cc pc = .ok (.irem, 1)) (k : zG C ω nL E o (pc + 1) lv (.int (x - x / y * y) :: st) σ) : zG C ω nL E (zg (decide (¬ y = 0)) o) pc lv (.int y :: .int x :: st) σ := by
  intro v hv hE H locs ls hP hD hS hl
  unfold zg at hv
  split at hv
  · next hy => exact lv_irem hC.1 hC.2.1 hd (of_decide_eq_true hy) (k v hv hE H locs ls hP hD hS hl)
  · cases hv
theorem gg_ldiv {S α : Type} {C : zK} {ω : zO S} {cc : ByteArray} {own : String} {nL fr lo pc : Nat} {E : α → Prop} {o : Option α} {lv : List (Nat × Value)} {st : List Value} {σ : S} (hC : zOK C ω cc own nL fr lo) {x y : Int64} (hd : decode cc pc = .ok (.ldiv, 1)) (hy : ¬ y = 0) (k : zG C ω nL E o (pc + 1) lv (.long (x / y) :: st) σ) : zG C ω nL E o pc lv (.long y :: .long x :: st) σ :=
  fun v hv hE H locs ls hP hD hS hl => lv_ldiv hC.1 hC.2.1 hd hy (k v hv hE H locs ls hP hD hS hl)
theorem gg_ldiv_g {S α : Type} {C : zK} {ω : zO S} {cc : ByteArray} {own : String} {nL fr lo pc : Nat} {E : α → Prop} {o : Option α} {lv : List (Nat × Value)} {st : List Value} {σ : S} (hC : zOK C ω cc own nL fr lo) {x y : Int64} (hd : decode cc pc = .ok (.ldiv, 1)) (k : zG C ω nL E o (pc + 1) lv (.long (x / y) :: st) σ) : zG C ω nL E (zg (decide (¬ y = 0)) o) pc lv (.long y :: .long x :: st) σ := by
  intro v hv hE H locs ls hP hD hS hl
  unfold zg at hv
  split at hv
  · next hy => exact lv_ldiv hC.1 hC.2.1 hd (of_decide_eq_true hy) (k v hv hE H locs ls hP hD hS hl)
  · cases hv
theorem gg_lrem {S α : Type} {C : zK} {ω : zO S} {cc : ByteArray} {own : String} {nL fr lo pc : Nat} {E : α → Prop} {o : Option α} {lv : List (Nat × Value)} {st : List Value} {σ : S} (hC : zOK C ω cc own nL fr lo) {x y : Int64} (hd : decode cc pc = .ok (.lrem, 1)) (hy : ¬ y = 0) (k : zG C ω nL E o (pc + 1) lv (.long (x - x / y * y) :: st) σ) : zG C ω nL E o pc lv (.long y :: .long x :: st) σ :=
  fun v hv hE H locs ls hP hD hS hl => lv_lrem hC.1 hC.2.1 hd hy (k v hv hE H locs ls hP hD hS hl)
theorem gg_lrem_g {S α : Type} {C : zK} {ω : zO S} {cc : ByteArray} {own : String} {nL fr lo pc : Nat} {E : α → Prop} {o : Option α} {lv : List (Nat × Value)} {st : List Value} {σ : S} (hC : zOK C ω cc own nL fr lo) {x y : Int64} (hd : decode cc pc = .ok (.lrem, 1)) (k : zG C ω nL E o (pc + 1) lv (.long (x - x / y * y) :: st) σ) : zG C ω nL E (zg (decide (¬ y = 0)) o) pc lv (.long y :: .long x :: st) σ := by
  intro v hv hE H locs ls hP hD hS hl
  unfold zg at hv
  split at hv
  · next hy => exact lv_lrem hC.1 hC.2.1 hd (of_decide_eq_true hy) (k v hv hE H locs ls hP hD hS hl)
  · cases hv
theorem gg_ineg {S α : Type} {C : zK} {ω : zO S} {cc : ByteArray} {own : String} {nL fr lo pc : Nat} {E : α → Prop} {o : Option α} {lv : List (Nat × Value)} {st : List Value} {σ : S} (hC : zOK C ω cc own nL fr lo) {x : Int32} (hd : decode cc pc = .ok (.ineg, 1)) (k : zG C ω nL E o (pc + 1) lv (.int (-x) :: st) σ) : zG C ω nL E o pc lv (.int x :: st) σ :=
  fun v hv hE H locs ls hP hD hS hl => lv_ineg hC.1 hC.2.1 hd (k v hv hE H locs ls hP hD hS hl)
theorem gg_lneg {S α : Type} {C : zK} {ω : zO S} {cc : ByteArray} {own : String} {nL fr lo pc : Nat} {E : α → Prop} {o : Option α} {lv : List (Nat × Value)} {st : List Value} {σ : S} (hC : zOK C ω cc own nL fr lo) {x : Int64} (hd : decode cc pc = .ok (.lneg, 1)) (k : zG C ω nL E o (pc + 1) lv (.long (-x) :: st) σ) : zG C ω nL E o pc lv (.long x :: st) σ :=
  fun v hv hE H locs ls hP hD hS hl => lv_lneg hC.1 hC.2.1 hd (k v hv hE H locs ls hP hD hS hl)
theorem gg_i2l {S α : Type} {C : zK} {ω : zO S} {cc : ByteArray} {own : String} {nL fr lo pc : Nat} {E : α → Prop} {o : Option α} {lv : List (Nat × Value)} {st : List Value} {σ : S} (hC : zOK C ω cc own nL fr lo) {x : Int32} (hd : decode cc pc = .ok (.i2l, 1)) (k : zG C ω nL E o (pc + 1) lv (.long (x.toInt64) :: st) σ) : zG C ω nL E o pc lv (.int x :: st) σ :=
  fun v hv hE H locs ls hP hD hS hl => lv_i2l hC.1 hC.2.1 hd rfl (k v hv hE H locs ls hP hD hS hl)
theorem gg_l2i {S α : Type} {C : zK} {ω : zO S} {cc : ByteArray} {own : String} {nL fr lo pc : Nat} {E : α → Prop} {o : Option α} {lv : List (Nat × Value)} {st : List Value} {σ : S} (hC : zOK C ω cc own nL fr lo) {x : Int64} (hd : decode cc pc = .ok (.l2i, 1)) (k : zG C ω nL E o (pc + 1) lv (.int (x.toInt32) :: st) σ) : zG C ω nL E o pc lv (.long x :: st) σ :=
  fun v hv hE H locs ls hP hD hS hl => lv_l2i hC.1 hC.2.1 hd rfl (k v hv hE H locs ls hP hD hS hl)
theorem gg_i2f {S α : Type} {C : zK} {ω : zO S} {cc : ByteArray} {own : String} {nL fr lo pc : Nat} {E : α → Prop} {o : Option α} {lv : List (Nat × Value)} {st : List Value} {σ : S} (hC : zOK C ω cc own nL fr lo) {x : Int32} (hd : decode cc pc = .ok (.i2f, 1)) (k : zG C ω nL E o (pc + 1) lv (.float (FP.i2f x) :: st) σ) : zG C ω nL E o pc lv (.int x :: st) σ :=
  fun v hv hE H locs ls hP hD hS hl => lv_i2f hC.1 hC.2.1 hd (k v hv hE H locs ls hP hD hS hl)
theorem gg_i2d {S α : Type} {C : zK} {ω : zO S} {cc : ByteArray} {own : String} {nL fr lo pc : Nat} {E : α → Prop} {o : Option α} {lv : List (Nat × Value)} {st : List Value} {σ : S} (hC : zOK C ω cc own nL fr lo) {x : Int32} (hd : decode cc pc = .ok (.i2d, 1)) (k : zG C ω nL E o (pc + 1) lv (.double (FP.i2d x) :: st) σ) : zG C ω nL E o pc lv (.int x :: st) σ :=
  fun v hv hE H locs ls hP hD hS hl => lv_i2d hC.1 hC.2.1 hd (k v hv hE H locs ls hP hD hS hl)
theorem gg_l2d {S α : Type} {C : zK} {ω : zO S} {cc : ByteArray} {own : String} {nL fr lo pc : Nat} {E : α → Prop} {o : Option α} {lv : List (Nat × Value)} {st : List Value} {σ : S} (hC : zOK C ω cc own nL fr lo) {x : Int64} (hd : decode cc pc = .ok (.l2d, 1)) (k : zG C ω nL E o (pc + 1) lv (.double (FP.l2d x) :: st) σ) : zG C ω nL E o pc lv (.long x :: st) σ :=
  fun v hv hE H locs ls hP hD hS hl => lv_l2d hC.1 hC.2.1 hd (k v hv hE H locs ls hP hD hS hl)
theorem gg_d2l {S α : Type} {C : zK} {ω : zO S} {cc : ByteArray} {own : String} {nL fr lo pc : Nat} {E : α → Prop} {o : Option α} {lv : List (Nat × Value)} {st : List Value} {σ : S} (hC : zOK C ω cc own nL fr lo) {x : UInt64} (hd : decode cc pc = .ok (.d2l, 1)) (k : zG C ω nL E o (pc + 1) lv (.long (FP.d2l x) :: st) σ) : zG C ω nL E o pc lv (.double x :: st) σ :=
  fun v hv hE H locs ls hP hD hS hl => lv_d2l hC.1 hC.2.1 hd (k v hv hE H locs ls hP hD hS hl)
def zn32 (r : UInt32) : Bool := decide (r &&& 0x7fffffff ≤ 0x7f800000)
def zn64 (r : UInt64) : Bool := decide (r &&& 0x7fffffffffffffff ≤ 0x7ff0000000000000)
theorem zn32_ok {r : UInt32} (h : zn32 r = true) : vf_n32 r := by
  unfold zn32 at h
  have h2 : r &&& 0x7fffffff ≤ 0x7f800000 := of_decide_eq_true h
  exact h2
theorem zn64_ok {r : UInt64} (h : zn64 r = true) : vf_n64 r := by
  unfold zn64 at h
  have h2 : r &&& 0x7fffffffffffffff ≤ 0x7ff0000000000000 := of_decide_eq_true h
  exact h2
theorem gg_fdiv {S α : Type} {C : zK} {ω : zO S} {cc : ByteArray} {own : String} {nL fr lo pc : Nat} {E : α → Prop} {o : Option α} {lv : List (Nat × Value)} {st : List Value} {σ : S} (hC : zOK C ω cc own nL fr lo) {x y : UInt32} (hd : decode cc pc = .ok (.fdiv, 1)) (k : zG C ω nL E o (pc + 1) lv (.float (FP.fdiv x y) :: st) σ) : zG C ω nL E (zg (zn32 (FP.fdiv x y)) o) pc lv (.float y :: .float x :: st) σ := by
  intro v hv hE H locs ls hP hD hS hl
  unfold zg at hv
  split at hv
  · next hy => exact lv_fdiv hC.1 hC.2.1 hd (zn32_ok hy) (k v hv hE H locs ls hP hD hS hl)
  · cases hv
theorem gg_ddiv {S α : Type} {C : zK} {ω : zO S} {cc : ByteArray} {own : String} {nL fr lo pc : Nat} {E : α → Prop} {o : Option α} {lv : List (Nat × Value)} {st : List Value} {σ : S} (hC : zOK C ω cc own nL fr lo) {x y : UInt64} (hd : decode cc pc = .ok (.ddiv, 1)) (k : zG C ω nL E o (pc + 1) lv (.double (FP.ddiv x y) :: st) σ) : zG C ω nL E (zg (zn64 (FP.ddiv x y)) o) pc lv (.double y :: .double x :: st) σ := by
  intro v hv hE H locs ls hP hD hS hl
  unfold zg at hv
  split at hv
  · next hy => exact lv_ddiv hC.1 hC.2.1 hd (zn64_ok hy) (k v hv hE H locs ls hP hD hS hl)
  · cases hv
theorem gg_dmul {S α : Type} {C : zK} {ω : zO S} {cc : ByteArray} {own : String} {nL fr lo pc : Nat} {E : α → Prop} {o : Option α} {lv : List (Nat × Value)} {st : List Value} {σ : S} (hC : zOK C ω cc own nL fr lo) {x y : UInt64} (hd : decode cc pc = .ok (.dmul, 1)) (k : zG C ω nL E o (pc + 1) lv (.double (FP.dmul x y) :: st) σ) : zG C ω nL E (zg (zn64 (FP.dmul x y)) o) pc lv (.double y :: .double x :: st) σ := by
  intro v hv hE H locs ls hP hD hS hl
  unfold zg at hv
  split at hv
  · next hy => exact lv_dmul hC.1 hC.2.1 hd (zn64_ok hy) (k v hv hE H locs ls hP hD hS hl)
  · cases hv
theorem gg_f2d {S α : Type} {C : zK} {ω : zO S} {cc : ByteArray} {own : String} {nL fr lo pc : Nat} {E : α → Prop} {o : Option α} {lv : List (Nat × Value)} {st : List Value} {σ : S} (hC : zOK C ω cc own nL fr lo) {x : UInt32} (hd : decode cc pc = .ok (.f2d, 1)) (k : zG C ω nL E o (pc + 1) lv (.double (FP.f2d x) :: st) σ) : zG C ω nL E (zg (zn64 (FP.f2d x)) o) pc lv (.float x :: st) σ := by
  intro v hv hE H locs ls hP hD hS hl
  unfold zg at hv
  split at hv
  · next hy => exact lv_f2d hC.1 hC.2.1 hd (zn64_ok hy) (k v hv hE H locs ls hP hD hS hl)
  · cases hv
theorem gg_dup {S α : Type} {C : zK} {ω : zO S} {cc : ByteArray} {own : String} {nL fr lo pc : Nat} {E : α → Prop} {o : Option α} {lv : List (Nat × Value)} {st : List Value} {σ : S} (hC : zOK C ω cc own nL fr lo) {a : Value} (hd : decode cc pc = .ok (.dup, 1)) (ha : a.category = 1) (k : zG C ω nL E o (pc + 1) lv (a :: a :: st) σ) : zG C ω nL E o pc lv (a :: st) σ :=
  fun v hv hE H locs ls hP hD hS hl => lv_dup hC.1 hC.2.1 hd ha (k v hv hE H locs ls hP hD hS hl)
theorem gg_pop {S α : Type} {C : zK} {ω : zO S} {cc : ByteArray} {own : String} {nL fr lo pc : Nat} {E : α → Prop} {o : Option α} {lv : List (Nat × Value)} {st : List Value} {σ : S} (hC : zOK C ω cc own nL fr lo) {a : Value} (hd : decode cc pc = .ok (.pop, 1)) (ha : a.category = 1) (k : zG C ω nL E o (pc + 1) lv st σ) : zG C ω nL E o pc lv (a :: st) σ :=
  fun v hv hE H locs ls hP hD hS hl => lv_pop hC.1 hC.2.1 hd ha (k v hv hE H locs ls hP hD hS hl)
theorem gg_dup2 {S α : Type} {C : zK} {ω : zO S} {cc : ByteArray} {own : String} {nL fr lo pc : Nat} {E : α → Prop} {o : Option α} {lv : List (Nat × Value)} {st : List Value} {σ : S} (hC : zOK C ω cc own nL fr lo) {a b : Value} (hd : decode cc pc = .ok (.dup2, 1)) (ha : a.category = 1) (hb : b.category = 1) (k : zG C ω nL E o (pc + 1) lv (a :: b :: a :: b :: st) σ) : zG C ω nL E o pc lv (a :: b :: st) σ :=
  fun v hv hE H locs ls hP hD hS hl => lv_dup2_11 hC.1 hC.2.1 hd ha hb (k v hv hE H locs ls hP hD hS hl)
theorem gg_if_eq {S α : Type} {C : zK} {ω : zO S} {cc : ByteArray} {own : String} {nL fr lo pc : Nat} {E : α → Prop} {o1 o2 : Option α} {lv : List (Nat × Value)} {st : List Value} {σ : S} (hC : zOK C ω cc own nL fr lo) {x : Int32} {off : Int} {tgt : Nat} (hd : decode cc pc = .ok (.ifCond .eq off, 3)) (ht : (pc : Int) + off = (tgt : Int)) (kt : x = 0 → zG C ω nL E o1 tgt lv st σ) (kf : ¬ (x = 0) → zG C ω nL E o2 (pc + 3) lv st σ) : zG C ω nL E (if x = 0 then o1 else o2) pc lv (.int x :: st) σ := by
  intro v hv hE H locs ls hP hD hS hl
  exact lv_if_eq hC.1 hC.2.1 hd ht (fun c => kt c v (by rwa [if_pos c] at hv) hE H locs ls hP hD hS hl) (fun c => kf c v (by rwa [if_neg c] at hv) hE H locs ls hP hD hS hl)
theorem gg_icmp_eq {S α : Type} {C : zK} {ω : zO S} {cc : ByteArray} {own : String} {nL fr lo pc : Nat} {E : α → Prop} {o1 o2 : Option α} {lv : List (Nat × Value)} {st : List Value} {σ : S} (hC : zOK C ω cc own nL fr lo) {x y : Int32} {off : Int} {tgt : Nat} (hd : decode cc pc = .ok (.if_icmp .eq off, 3)) (ht : (pc : Int) + off = (tgt : Int)) (kt : x = y → zG C ω nL E o1 tgt lv st σ) (kf : ¬ (x = y) → zG C ω nL E o2 (pc + 3) lv st σ) : zG C ω nL E (if x = y then o1 else o2) pc lv (.int y :: .int x :: st) σ := by
  intro v hv hE H locs ls hP hD hS hl
  exact lv_icmp_eq hC.1 hC.2.1 hd ht (fun c => kt c v (by rwa [if_pos c] at hv) hE H locs ls hP hD hS hl) (fun c => kf c v (by rwa [if_neg c] at hv) hE H locs ls hP hD hS hl)
theorem gg_if_ne {S α : Type} {C : zK} {ω : zO S} {cc : ByteArray} {own : String} {nL fr lo pc : Nat} {E : α → Prop} {o1 o2 : Option α} {lv : List (Nat × Value)} {st : List Value} {σ : S} (hC : zOK C ω cc own nL fr lo) {x : Int32} {off : Int} {tgt : Nat} (hd : decode cc pc = .ok (.ifCond .ne off, 3)) (ht : (pc : Int) + off = (tgt : Int)) (kf : x = 0 → zG C ω nL E o1 (pc + 3) lv st σ) (kt : ¬ x = 0 → zG C ω nL E o2 tgt lv st σ) : zG C ω nL E (if x = 0 then o1 else o2) pc lv (.int x :: st) σ := by
  intro v hv hE H locs ls hP hD hS hl
  exact lv_if_ne hC.1 hC.2.1 hd ht (fun c => kt c v (by rwa [if_neg c] at hv) hE H locs ls hP hD hS hl) (fun c => kf c v (by rwa [if_pos c] at hv) hE H locs ls hP hD hS hl)
theorem gg_icmp_ne {S α : Type} {C : zK} {ω : zO S} {cc : ByteArray} {own : String} {nL fr lo pc : Nat} {E : α → Prop} {o1 o2 : Option α} {lv : List (Nat × Value)} {st : List Value} {σ : S} (hC : zOK C ω cc own nL fr lo) {x y : Int32} {off : Int} {tgt : Nat} (hd : decode cc pc = .ok (.if_icmp .ne off, 3)) (ht : (pc : Int) + off = (tgt : Int)) (kf : x = y → zG C ω nL E o1 (pc + 3) lv st σ) (kt : ¬ x = y → zG C ω nL E o2 tgt lv st σ) : zG C ω nL E (if x = y then o1 else o2) pc lv (.int y :: .int x :: st) σ := by
  intro v hv hE H locs ls hP hD hS hl
  exact lv_icmp_ne hC.1 hC.2.1 hd ht (fun c => kt c v (by rwa [if_neg c] at hv) hE H locs ls hP hD hS hl) (fun c => kf c v (by rwa [if_pos c] at hv) hE H locs ls hP hD hS hl)
theorem gg_if_lt {S α : Type} {C : zK} {ω : zO S} {cc : ByteArray} {own : String} {nL fr lo pc : Nat} {E : α → Prop} {o1 o2 : Option α} {lv : List (Nat × Value)} {st : List Value} {σ : S} (hC : zOK C ω cc own nL fr lo) {x : Int32} {off : Int} {tgt : Nat} (hd : decode cc pc = .ok (.ifCond .lt off, 3)) (ht : (pc : Int) + off = (tgt : Int)) (kt : x < 0 → zG C ω nL E o1 tgt lv st σ) (kf : ¬ (x < 0) → zG C ω nL E o2 (pc + 3) lv st σ) : zG C ω nL E (if x < 0 then o1 else o2) pc lv (.int x :: st) σ := by
  intro v hv hE H locs ls hP hD hS hl
  exact lv_if_lt hC.1 hC.2.1 hd ht (fun c => kt c v (by rwa [if_pos c] at hv) hE H locs ls hP hD hS hl) (fun c => kf c v (by rwa [if_neg c] at hv) hE H locs ls hP hD hS hl)
theorem gg_icmp_lt {S α : Type} {C : zK} {ω : zO S} {cc : ByteArray} {own : String} {nL fr lo pc : Nat} {E : α → Prop} {o1 o2 : Option α} {lv : List (Nat × Value)} {st : List Value} {σ : S} (hC : zOK C ω cc own nL fr lo) {x y : Int32} {off : Int} {tgt : Nat} (hd : decode cc pc = .ok (.if_icmp .lt off, 3)) (ht : (pc : Int) + off = (tgt : Int)) (kt : x < y → zG C ω nL E o1 tgt lv st σ) (kf : ¬ (x < y) → zG C ω nL E o2 (pc + 3) lv st σ) : zG C ω nL E (if x < y then o1 else o2) pc lv (.int y :: .int x :: st) σ := by
  intro v hv hE H locs ls hP hD hS hl
  exact lv_icmp_lt hC.1 hC.2.1 hd ht (fun c => kt c v (by rwa [if_pos c] at hv) hE H locs ls hP hD hS hl) (fun c => kf c v (by rwa [if_neg c] at hv) hE H locs ls hP hD hS hl)
theorem gg_if_ge {S α : Type} {C : zK} {ω : zO S} {cc : ByteArray} {own : String} {nL fr lo pc : Nat} {E : α → Prop} {o1 o2 : Option α} {lv : List (Nat × Value)} {st : List Value} {σ : S} (hC : zOK C ω cc own nL fr lo) {x : Int32} {off : Int} {tgt : Nat} (hd : decode cc pc = .ok (.ifCond .ge off, 3)) (ht : (pc : Int) + off = (tgt : Int)) (kt : 0 ≤ x → zG C ω nL E o1 tgt lv st σ) (kf : ¬ (0 ≤ x) → zG C ω nL E o2 (pc + 3) lv st σ) : zG C ω nL E (if 0 ≤ x then o1 else o2) pc lv (.int x :: st) σ := by
  intro v hv hE H locs ls hP hD hS hl
  exact lv_if_ge hC.1 hC.2.1 hd ht (fun c => kt c v (by rwa [if_pos c] at hv) hE H locs ls hP hD hS hl) (fun c => kf c v (by rwa [if_neg c] at hv) hE H locs ls hP hD hS hl)
theorem gg_icmp_ge {S α : Type} {C : zK} {ω : zO S} {cc : ByteArray} {own : String} {nL fr lo pc : Nat} {E : α → Prop} {o1 o2 : Option α} {lv : List (Nat × Value)} {st : List Value} {σ : S} (hC : zOK C ω cc own nL fr lo) {x y : Int32} {off : Int} {tgt : Nat} (hd : decode cc pc = .ok (.if_icmp .ge off, 3)) (ht : (pc : Int) + off = (tgt : Int)) (kt : y ≤ x → zG C ω nL E o1 tgt lv st σ) (kf : ¬ (y ≤ x) → zG C ω nL E o2 (pc + 3) lv st σ) : zG C ω nL E (if y ≤ x then o1 else o2) pc lv (.int y :: .int x :: st) σ := by
  intro v hv hE H locs ls hP hD hS hl
  exact lv_icmp_ge hC.1 hC.2.1 hd ht (fun c => kt c v (by rwa [if_pos c] at hv) hE H locs ls hP hD hS hl) (fun c => kf c v (by rwa [if_neg c] at hv) hE H locs ls hP hD hS hl)
theorem gg_if_gt {S α : Type} {C : zK} {ω : zO S} {cc : ByteArray} {own : String} {nL fr lo pc : Nat} {E : α → Prop} {o1 o2 : Option α} {lv : List (Nat × Value)} {st : List Value} {σ : S} (hC : zOK C ω cc own nL fr lo) {x : Int32} {off : Int} {tgt : Nat} (hd : decode cc pc = .ok (.ifCond .gt off, 3)) (ht : (pc : Int) + off = (tgt : Int)) (kt : 0 < x → zG C ω nL E o1 tgt lv st σ) (kf : ¬ (0 < x) → zG C ω nL E o2 (pc + 3) lv st σ) : zG C ω nL E (if 0 < x then o1 else o2) pc lv (.int x :: st) σ := by
  intro v hv hE H locs ls hP hD hS hl
  exact lv_if_gt hC.1 hC.2.1 hd ht (fun c => kt c v (by rwa [if_pos c] at hv) hE H locs ls hP hD hS hl) (fun c => kf c v (by rwa [if_neg c] at hv) hE H locs ls hP hD hS hl)
theorem gg_icmp_gt {S α : Type} {C : zK} {ω : zO S} {cc : ByteArray} {own : String} {nL fr lo pc : Nat} {E : α → Prop} {o1 o2 : Option α} {lv : List (Nat × Value)} {st : List Value} {σ : S} (hC : zOK C ω cc own nL fr lo) {x y : Int32} {off : Int} {tgt : Nat} (hd : decode cc pc = .ok (.if_icmp .gt off, 3)) (ht : (pc : Int) + off = (tgt : Int)) (kt : y < x → zG C ω nL E o1 tgt lv st σ) (kf : ¬ (y < x) → zG C ω nL E o2 (pc + 3) lv st σ) : zG C ω nL E (if y < x then o1 else o2) pc lv (.int y :: .int x :: st) σ := by
  intro v hv hE H locs ls hP hD hS hl
  exact lv_icmp_gt hC.1 hC.2.1 hd ht (fun c => kt c v (by rwa [if_pos c] at hv) hE H locs ls hP hD hS hl) (fun c => kf c v (by rwa [if_neg c] at hv) hE H locs ls hP hD hS hl)
theorem gg_if_le {S α : Type} {C : zK} {ω : zO S} {cc : ByteArray} {own : String} {nL fr lo pc : Nat} {E : α → Prop} {o1 o2 : Option α} {lv : List (Nat × Value)} {st : List Value} {σ : S} (hC : zOK C ω cc own nL fr lo) {x : Int32} {off : Int} {tgt : Nat} (hd : decode cc pc = .ok (.ifCond .le off, 3)) (ht : (pc : Int) + off = (tgt : Int)) (kt : x ≤ 0 → zG C ω nL E o1 tgt lv st σ) (kf : ¬ (x ≤ 0) → zG C ω nL E o2 (pc + 3) lv st σ) : zG C ω nL E (if x ≤ 0 then o1 else o2) pc lv (.int x :: st) σ := by
  intro v hv hE H locs ls hP hD hS hl
  exact lv_if_le hC.1 hC.2.1 hd ht (fun c => kt c v (by rwa [if_pos c] at hv) hE H locs ls hP hD hS hl) (fun c => kf c v (by rwa [if_neg c] at hv) hE H locs ls hP hD hS hl)
theorem gg_icmp_le {S α : Type} {C : zK} {ω : zO S} {cc : ByteArray} {own : String} {nL fr lo pc : Nat} {E : α → Prop} {o1 o2 : Option α} {lv : List (Nat × Value)} {st : List Value} {σ : S} (hC : zOK C ω cc own nL fr lo) {x y : Int32} {off : Int} {tgt : Nat} (hd : decode cc pc = .ok (.if_icmp .le off, 3)) (ht : (pc : Int) + off = (tgt : Int)) (kt : x ≤ y → zG C ω nL E o1 tgt lv st σ) (kf : ¬ (x ≤ y) → zG C ω nL E o2 (pc + 3) lv st σ) : zG C ω nL E (if x ≤ y then o1 else o2) pc lv (.int y :: .int x :: st) σ := by
  intro v hv hE H locs ls hP hD hS hl
  exact lv_icmp_le hC.1 hC.2.1 hd ht (fun c => kt c v (by rwa [if_pos c] at hv) hE H locs ls hP hD hS hl) (fun c => kf c v (by rwa [if_neg c] at hv) hE H locs ls hP hD hS hl)
theorem gg_lcmp_eq {S α : Type} {C : zK} {ω : zO S} {cc : ByteArray} {own : String} {nL fr lo pc : Nat} {E : α → Prop} {o1 o2 : Option α} {lv : List (Nat × Value)} {st : List Value} {σ : S} (hC : zOK C ω cc own nL fr lo) {x y : Int64} {off : Int} {tgt : Nat} (hd0 : decode cc pc = .ok (.lcmp, 1)) (hd : decode cc (pc + 1) = .ok (.ifCond .eq off, 3)) (ht : ((pc + 1 : Nat) : Int) + off = (tgt : Int)) (kt : x = y → zG C ω nL E o1 tgt lv st σ) (kf : ¬ (x = y) → zG C ω nL E o2 (pc + 1 + 3) lv st σ) : zG C ω nL E (if x = y then o1 else o2) pc lv (.long y :: .long x :: st) σ := by
  intro v hv hE H locs ls hP hD hS hl
  exact W.lcmp hC.1 hC.2.1 hd0 (lv_if_eq hC.1 hC.2.1 hd ht (fun c => kt ((lg_cmp_eq x y).mp c) v (by rwa [if_pos ((lg_cmp_eq x y).mp c)] at hv) hE H locs ls hP hD hS hl) (fun c => kf (fun z => c ((lg_cmp_eq x y).mpr z)) v (by rwa [if_neg (fun z => c ((lg_cmp_eq x y).mpr z))] at hv) hE H locs ls hP hD hS hl))
theorem gg_lcmp_ne {S α : Type} {C : zK} {ω : zO S} {cc : ByteArray} {own : String} {nL fr lo pc : Nat} {E : α → Prop} {o1 o2 : Option α} {lv : List (Nat × Value)} {st : List Value} {σ : S} (hC : zOK C ω cc own nL fr lo) {x y : Int64} {off : Int} {tgt : Nat} (hd0 : decode cc pc = .ok (.lcmp, 1)) (hd : decode cc (pc + 1) = .ok (.ifCond .ne off, 3)) (ht : ((pc + 1 : Nat) : Int) + off = (tgt : Int)) (kf : x = y → zG C ω nL E o1 (pc + 1 + 3) lv st σ) (kt : ¬ x = y → zG C ω nL E o2 tgt lv st σ) : zG C ω nL E (if x = y then o1 else o2) pc lv (.long y :: .long x :: st) σ := by
  intro v hv hE H locs ls hP hD hS hl
  exact W.lcmp hC.1 hC.2.1 hd0 (lv_if_ne hC.1 hC.2.1 hd ht (fun c => kt (fun z => c ((lg_cmp_eq x y).mpr z)) v (by rwa [if_neg (fun z => c ((lg_cmp_eq x y).mpr z))] at hv) hE H locs ls hP hD hS hl) (fun c => kf ((lg_cmp_eq x y).mp c) v (by rwa [if_pos ((lg_cmp_eq x y).mp c)] at hv) hE H locs ls hP hD hS hl))
theorem gg_lcmp_lt {S α : Type} {C : zK} {ω : zO S} {cc : ByteArray} {own : String} {nL fr lo pc : Nat} {E : α → Prop} {o1 o2 : Option α} {lv : List (Nat × Value)} {st : List Value} {σ : S} (hC : zOK C ω cc own nL fr lo) {x y : Int64} {off : Int} {tgt : Nat} (hd0 : decode cc pc = .ok (.lcmp, 1)) (hd : decode cc (pc + 1) = .ok (.ifCond .lt off, 3)) (ht : ((pc + 1 : Nat) : Int) + off = (tgt : Int)) (kt : x < y → zG C ω nL E o1 tgt lv st σ) (kf : ¬ (x < y) → zG C ω nL E o2 (pc + 1 + 3) lv st σ) : zG C ω nL E (if x < y then o1 else o2) pc lv (.long y :: .long x :: st) σ := by
  intro v hv hE H locs ls hP hD hS hl
  exact W.lcmp hC.1 hC.2.1 hd0 (lv_if_lt hC.1 hC.2.1 hd ht (fun c => kt ((lg_cmp_lt x y).mp c) v (by rwa [if_pos ((lg_cmp_lt x y).mp c)] at hv) hE H locs ls hP hD hS hl) (fun c => kf (fun z => c ((lg_cmp_lt x y).mpr z)) v (by rwa [if_neg (fun z => c ((lg_cmp_lt x y).mpr z))] at hv) hE H locs ls hP hD hS hl))
theorem gg_lcmp_ge {S α : Type} {C : zK} {ω : zO S} {cc : ByteArray} {own : String} {nL fr lo pc : Nat} {E : α → Prop} {o1 o2 : Option α} {lv : List (Nat × Value)} {st : List Value} {σ : S} (hC : zOK C ω cc own nL fr lo) {x y : Int64} {off : Int} {tgt : Nat} (hd0 : decode cc pc = .ok (.lcmp, 1)) (hd : decode cc (pc + 1) = .ok (.ifCond .ge off, 3)) (ht : ((pc + 1 : Nat) : Int) + off = (tgt : Int)) (kt : y ≤ x → zG C ω nL E o1 tgt lv st σ) (kf : ¬ (y ≤ x) → zG C ω nL E o2 (pc + 1 + 3) lv st σ) : zG C ω nL E (if y ≤ x then o1 else o2) pc lv (.long y :: .long x :: st) σ := by
  intro v hv hE H locs ls hP hD hS hl
  exact W.lcmp hC.1 hC.2.1 hd0 (lv_if_ge hC.1 hC.2.1 hd ht (fun c => kt ((lg_cmp_ge x y).mp c) v (by rwa [if_pos ((lg_cmp_ge x y).mp c)] at hv) hE H locs ls hP hD hS hl) (fun c => kf (fun z => c ((lg_cmp_ge x y).mpr z)) v (by rwa [if_neg (fun z => c ((lg_cmp_ge x y).mpr z))] at hv) hE H locs ls hP hD hS hl))
theorem gg_lcmp_gt {S α : Type} {C : zK} {ω : zO S} {cc : ByteArray} {own : String} {nL fr lo pc : Nat} {E : α → Prop} {o1 o2 : Option α} {lv : List (Nat × Value)} {st : List Value} {σ : S} (hC : zOK C ω cc own nL fr lo) {x y : Int64} {off : Int} {tgt : Nat} (hd0 : decode cc pc = .ok (.lcmp, 1)) (hd : decode cc (pc + 1) = .ok (.ifCond .gt off, 3)) (ht : ((pc + 1 : Nat) : Int) + off = (tgt : Int)) (kt : y < x → zG C ω nL E o1 tgt lv st σ) (kf : ¬ (y < x) → zG C ω nL E o2 (pc + 1 + 3) lv st σ) : zG C ω nL E (if y < x then o1 else o2) pc lv (.long y :: .long x :: st) σ := by
  intro v hv hE H locs ls hP hD hS hl
  exact W.lcmp hC.1 hC.2.1 hd0 (lv_if_gt hC.1 hC.2.1 hd ht (fun c => kt ((lg_cmp_gt x y).mp c) v (by rwa [if_pos ((lg_cmp_gt x y).mp c)] at hv) hE H locs ls hP hD hS hl) (fun c => kf (fun z => c ((lg_cmp_gt x y).mpr z)) v (by rwa [if_neg (fun z => c ((lg_cmp_gt x y).mpr z))] at hv) hE H locs ls hP hD hS hl))
theorem gg_lcmp_le {S α : Type} {C : zK} {ω : zO S} {cc : ByteArray} {own : String} {nL fr lo pc : Nat} {E : α → Prop} {o1 o2 : Option α} {lv : List (Nat × Value)} {st : List Value} {σ : S} (hC : zOK C ω cc own nL fr lo) {x y : Int64} {off : Int} {tgt : Nat} (hd0 : decode cc pc = .ok (.lcmp, 1)) (hd : decode cc (pc + 1) = .ok (.ifCond .le off, 3)) (ht : ((pc + 1 : Nat) : Int) + off = (tgt : Int)) (kt : x ≤ y → zG C ω nL E o1 tgt lv st σ) (kf : ¬ (x ≤ y) → zG C ω nL E o2 (pc + 1 + 3) lv st σ) : zG C ω nL E (if x ≤ y then o1 else o2) pc lv (.long y :: .long x :: st) σ := by
  intro v hv hE H locs ls hP hD hS hl
  exact W.lcmp hC.1 hC.2.1 hd0 (lv_if_le hC.1 hC.2.1 hd ht (fun c => kt ((lg_cmp_le x y).mp c) v (by rwa [if_pos ((lg_cmp_le x y).mp c)] at hv) hE H locs ls hP hD hS hl) (fun c => kf (fun z => c ((lg_cmp_le x y).mpr z)) v (by rwa [if_neg (fun z => c ((lg_cmp_le x y).mpr z))] at hv) hE H locs ls hP hD hS hl))
theorem gg_dcmp_eq {S α : Type} {C : zK} {ω : zO S} {cc : ByteArray} {own : String} {nL fr lo pc : Nat} {E : α → Prop} {o1 o2 : Option α} {lv : List (Nat × Value)} {st : List Value} {σ : S} (hC : zOK C ω cc own nL fr lo) {x y : UInt64} {op : CmpOp} {off : Int} {tgt : Nat} (hd0 : decode cc pc = .ok (.dcmp op, 1)) (hd : decode cc (pc + 1) = .ok (.ifCond .eq off, 3)) (ht : ((pc + 1 : Nat) : Int) + off = (tgt : Int)) (kt : Op.cmpValue (FP.dcmp x y) op = 0 → zG C ω nL E o1 tgt lv st σ) (kf : ¬ (Op.cmpValue (FP.dcmp x y) op = 0) → zG C ω nL E o2 (pc + 1 + 3) lv st σ) : zG C ω nL E (if Op.cmpValue (FP.dcmp x y) op = 0 then o1 else o2) pc lv (.double y :: .double x :: st) σ := by
  intro v hv hE H locs ls hP hD hS hl
  exact lv_dcmp hC.1 hC.2.1 hd0 (lv_if_eq hC.1 hC.2.1 hd ht (fun c => kt c v (by rwa [if_pos c] at hv) hE H locs ls hP hD hS hl) (fun c => kf c v (by rwa [if_neg c] at hv) hE H locs ls hP hD hS hl))
theorem gg_dcmp_lt {S α : Type} {C : zK} {ω : zO S} {cc : ByteArray} {own : String} {nL fr lo pc : Nat} {E : α → Prop} {o1 o2 : Option α} {lv : List (Nat × Value)} {st : List Value} {σ : S} (hC : zOK C ω cc own nL fr lo) {x y : UInt64} {op : CmpOp} {off : Int} {tgt : Nat} (hd0 : decode cc pc = .ok (.dcmp op, 1)) (hd : decode cc (pc + 1) = .ok (.ifCond .lt off, 3)) (ht : ((pc + 1 : Nat) : Int) + off = (tgt : Int)) (kt : Op.cmpValue (FP.dcmp x y) op < 0 → zG C ω nL E o1 tgt lv st σ) (kf : ¬ (Op.cmpValue (FP.dcmp x y) op < 0) → zG C ω nL E o2 (pc + 1 + 3) lv st σ) : zG C ω nL E (if Op.cmpValue (FP.dcmp x y) op < 0 then o1 else o2) pc lv (.double y :: .double x :: st) σ := by
  intro v hv hE H locs ls hP hD hS hl
  exact lv_dcmp hC.1 hC.2.1 hd0 (lv_if_lt hC.1 hC.2.1 hd ht (fun c => kt c v (by rwa [if_pos c] at hv) hE H locs ls hP hD hS hl) (fun c => kf c v (by rwa [if_neg c] at hv) hE H locs ls hP hD hS hl))
theorem gg_dcmp_ge {S α : Type} {C : zK} {ω : zO S} {cc : ByteArray} {own : String} {nL fr lo pc : Nat} {E : α → Prop} {o1 o2 : Option α} {lv : List (Nat × Value)} {st : List Value} {σ : S} (hC : zOK C ω cc own nL fr lo) {x y : UInt64} {op : CmpOp} {off : Int} {tgt : Nat} (hd0 : decode cc pc = .ok (.dcmp op, 1)) (hd : decode cc (pc + 1) = .ok (.ifCond .ge off, 3)) (ht : ((pc + 1 : Nat) : Int) + off = (tgt : Int)) (kt : 0 ≤ Op.cmpValue (FP.dcmp x y) op → zG C ω nL E o1 tgt lv st σ) (kf : ¬ (0 ≤ Op.cmpValue (FP.dcmp x y) op) → zG C ω nL E o2 (pc + 1 + 3) lv st σ) : zG C ω nL E (if 0 ≤ Op.cmpValue (FP.dcmp x y) op then o1 else o2) pc lv (.double y :: .double x :: st) σ := by
  intro v hv hE H locs ls hP hD hS hl
  exact lv_dcmp hC.1 hC.2.1 hd0 (lv_if_ge hC.1 hC.2.1 hd ht (fun c => kt c v (by rwa [if_pos c] at hv) hE H locs ls hP hD hS hl) (fun c => kf c v (by rwa [if_neg c] at hv) hE H locs ls hP hD hS hl))
theorem gg_dcmp_gt {S α : Type} {C : zK} {ω : zO S} {cc : ByteArray} {own : String} {nL fr lo pc : Nat} {E : α → Prop} {o1 o2 : Option α} {lv : List (Nat × Value)} {st : List Value} {σ : S} (hC : zOK C ω cc own nL fr lo) {x y : UInt64} {op : CmpOp} {off : Int} {tgt : Nat} (hd0 : decode cc pc = .ok (.dcmp op, 1)) (hd : decode cc (pc + 1) = .ok (.ifCond .gt off, 3)) (ht : ((pc + 1 : Nat) : Int) + off = (tgt : Int)) (kt : 0 < Op.cmpValue (FP.dcmp x y) op → zG C ω nL E o1 tgt lv st σ) (kf : ¬ (0 < Op.cmpValue (FP.dcmp x y) op) → zG C ω nL E o2 (pc + 1 + 3) lv st σ) : zG C ω nL E (if 0 < Op.cmpValue (FP.dcmp x y) op then o1 else o2) pc lv (.double y :: .double x :: st) σ := by
  intro v hv hE H locs ls hP hD hS hl
  exact lv_dcmp hC.1 hC.2.1 hd0 (lv_if_gt hC.1 hC.2.1 hd ht (fun c => kt c v (by rwa [if_pos c] at hv) hE H locs ls hP hD hS hl) (fun c => kf c v (by rwa [if_neg c] at hv) hE H locs ls hP hD hS hl))
theorem gg_dcmp_le {S α : Type} {C : zK} {ω : zO S} {cc : ByteArray} {own : String} {nL fr lo pc : Nat} {E : α → Prop} {o1 o2 : Option α} {lv : List (Nat × Value)} {st : List Value} {σ : S} (hC : zOK C ω cc own nL fr lo) {x y : UInt64} {op : CmpOp} {off : Int} {tgt : Nat} (hd0 : decode cc pc = .ok (.dcmp op, 1)) (hd : decode cc (pc + 1) = .ok (.ifCond .le off, 3)) (ht : ((pc + 1 : Nat) : Int) + off = (tgt : Int)) (kt : Op.cmpValue (FP.dcmp x y) op ≤ 0 → zG C ω nL E o1 tgt lv st σ) (kf : ¬ (Op.cmpValue (FP.dcmp x y) op ≤ 0) → zG C ω nL E o2 (pc + 1 + 3) lv st σ) : zG C ω nL E (if Op.cmpValue (FP.dcmp x y) op ≤ 0 then o1 else o2) pc lv (.double y :: .double x :: st) σ := by
  intro v hv hE H locs ls hP hD hS hl
  exact lv_dcmp hC.1 hC.2.1 hd0 (lv_if_le hC.1 hC.2.1 hd ht (fun c => kt c v (by rwa [if_pos c] at hv) hE H locs ls hP hD hS hl) (fun c => kf c v (by rwa [if_neg c] at hv) hE H locs ls hP hD hS hl))
theorem gg_goto {S α : Type} {C : zK} {ω : zO S} {cc : ByteArray} {own : String} {nL fr lo pc : Nat} {E : α → Prop} {o : Option α} {lv : List (Nat × Value)} {st : List Value} {σ : S} (hC : zOK C ω cc own nL fr lo) {off : Int} {tgt : Nat} (hd : decode cc pc = .ok (.goto off, 3)) (ht : (pc : Int) + off = (tgt : Int)) (k : zG C ω nL E o tgt lv st σ) : zG C ω nL E o pc lv st σ :=
  fun v hv hE H locs ls hP hD hS hl => lv_goto hC.1 hC.2.1 hd ht (k v hv hE H locs ls hP hD hS hl)
theorem gg_none {S α : Type} {C : zK} {ω : zO S} {nL pc : Nat} {E : α → Prop} {o : Option α} {lv : List (Nat × Value)} {st : List Value} {σ : S} : zG C ω nL E (none : Option α) pc lv st σ := fun v hv => by cases hv
theorem gg_ite {S α : Type} {C : zK} {ω : zO S} {nL pc : Nat} {E : α → Prop} {o1 o2 : Option α} {lv : List (Nat × Value)} {st : List Value} {σ : S} {c : Prop} [Decidable c] (kt : c → zG C ω nL E o1 pc lv st σ) (kf : ¬ c → zG C ω nL E o2 pc lv st σ) : zG C ω nL E (if c then o1 else o2) pc lv st σ := by
  by_cases h : c
  · rw [if_pos h]
    exact kt h
  · rw [if_neg h]
    exact kf h
theorem gg_tabIn {S α : Type} {C : zK} {ω : zO S} {cc : ByteArray} {own : String} {nL fr lo pc : Nat} {E : α → Prop} {o : Option α} {lv : List (Nat × Value)} {st : List Value} {σ : S} (hC : zOK C ω cc own nL fr lo) {dflt l0 h0 : Int} {offs : Array Int} {len : Nat} {x : Int32} {off : Int} {tgt : Nat} (hd : decode cc pc = .ok (.tableswitch dflt l0 h0 offs, len)) (h1 : ¬ x.toInt < l0) (h2 : ¬ h0 < x.toInt) (ho : offs[(x.toInt - l0).toNat]? = some off) (ht : (pc : Int) + off = (tgt : Int)) (k : zG C ω nL E o tgt lv st σ) : zG C ω nL E o pc lv (.int x :: st) σ :=
  fun v hv hE H locs ls hP hD hS hl => lv_tableIn hC.1 hC.2.1 hd h1 h2 ho ht (k v hv hE H locs ls hP hD hS hl)
theorem gg_tabOut {S α : Type} {C : zK} {ω : zO S} {cc : ByteArray} {own : String} {nL fr lo pc : Nat} {E : α → Prop} {o : Option α} {lv : List (Nat × Value)} {st : List Value} {σ : S} (hC : zOK C ω cc own nL fr lo) {dflt l0 h0 : Int} {offs : Array Int} {len : Nat} {x : Int32} {tgt : Nat} (hd : decode cc pc = .ok (.tableswitch dflt l0 h0 offs, len)) (h : x.toInt < l0 ∨ h0 < x.toInt) (ht : (pc : Int) + dflt = (tgt : Int)) (k : zG C ω nL E o tgt lv st σ) : zG C ω nL E o pc lv (.int x :: st) σ :=
  fun v hv hE H locs ls hP hD hS hl => lv_tableOut hC.1 hC.2.1 hd h ht (k v hv hE H locs ls hP hD hS hl)
theorem gg_lv {S α : Type} {C : zK} {ω : zO S} {nL pc : Nat} {E : α → Prop} {o : Option α} {lv : List (Nat × Value)} {st : List Value} {σ : S} {lv' : List (Nat × Value)} (ks : List Nat) (h : lv_pick lv ks = lv') (k : zG C ω nL E o pc lv' st σ) : zG C ω nL E o pc lv st σ :=
  fun v hv hE H locs ls hP hD hS hl => k v hv hE H locs ls hP hD hS (lv_sub hl ks h)
theorem zW_lv {S : Type} {C : zK} {ω : zO S} {nL pc : Nat} {lv lv' : List (Nat × Value)} {st : List Value} {σ : S} (ks : List Nat) (h : lv_pick lv ks = lv') (k : zW C ω nL pc lv' st σ) : zW C ω nL pc lv st σ :=
  fun H locs ls hP hD hS hl => k H locs ls hP hD hS (lv_sub hl ks h)
theorem gg_y {S α : Type} {C : zK} {ω : zO S} {nL pc : Nat} {E : α → Prop} {lv : List (Nat × Value)} {st : List Value} {σ : S} {a : α} (h : E a → zW C ω nL pc lv st σ) : zG C ω nL E (some a) pc lv st σ := fun v hv hE => by
  cases hv
  exact h hE
theorem gg_iret {S : Type} {C : zK} {ω : zO S} {cc : ByteArray} {nL pc : Nat} {lv : List (Nat × Value)} {σ : S} {r : Int32 × S} {x : Int32} (hR : zRI C ω nL cc r) (hd : decode cc pc = .ok (.ireturn, 1)) : zG C ω nL (fun v => v = r) (some (x, σ)) pc lv [.int x] σ := gg_y (fun h => hR pc lv x σ hd h)
theorem gg_zret {S : Type} {C : zK} {ω : zO S} {cc : ByteArray} {nL pc : Nat} {lv : List (Nat × Value)} {σ : S} {r : Int32 × S} {x : Int32} (hR : zRZ C ω nL cc r) (hd : decode cc pc = .ok (.ireturn, 1)) (hn : narrow .boolean (.int x) = .int x) : zG C ω nL (fun v => v = r) (some (x, σ)) pc lv [.int x] σ := gg_y (fun h => hR pc lv x σ hd hn h)
theorem gg_zretg {S : Type} {C : zK} {ω : zO S} {cc : ByteArray} {nL pc : Nat} {lv : List (Nat × Value)} {σ : S} {r : Int32 × S} {x : Int32} (hR : zRZ C ω nL cc r) (hd : decode cc pc = .ok (.ireturn, 1)) : zG C ω nL (fun v => v = r) (zg (zz x) (some (x, σ))) pc lv [.int x] σ := by
  intro v hv hE
  unfold zg at hv
  split at hv
  · next h => exact gg_zret hR hd (zz_n h) v hv hE
  · cases hv
theorem gg_lret {S : Type} {C : zK} {ω : zO S} {cc : ByteArray} {nL pc : Nat} {lv : List (Nat × Value)} {σ : S} {r : Int64 × S} {x : Int64} (hR : zRL C ω nL cc r) (hd : decode cc pc = .ok (.lreturn, 1)) : zG C ω nL (fun v => v = r) (some (x, σ)) pc lv [.long x] σ := gg_y (fun h => hR pc lv x σ hd h)
theorem gg_vret {S : Type} {C : zK} {ω : zO S} {cc : ByteArray} {nL pc : Nat} {lv : List (Nat × Value)} {σ : S} {r : S} (hR : zRV C ω nL cc r) (hd : decode cc pc = .ok (.return_, 1)) : zG C ω nL (fun v => v = r) (some σ) pc lv [] σ := gg_y (fun h => hR pc lv σ hd h)
theorem gg_join1 {S α : Type} {C : zK} {ω : zO S} {nL pc : Nat} {E : α → Prop} {lv : List (Nat × Value)} {st : List Value} {σ : S} {T1 : Type} {X : Option (T1)} {K : T1 → Option α} {E' : T1 → Prop} (hX : zG C ω nL E' X pc lv st σ) (hJ : ∀ a1 v, K a1 = some v → E v → E' (a1)) : zG C ω nL E (zy1 X K) pc lv st σ := by
  intro v hv hE
  cases hq : X with
  | none => rw [hq] at hv; cases hv
  | some q =>
    rw [hq] at hv
    exact hX q hq (hJ q v hv hE)
theorem gg_join2 {S α : Type} {C : zK} {ω : zO S} {nL pc : Nat} {E : α → Prop} {lv : List (Nat × Value)} {st : List Value} {σ : S} {T1 T2 : Type} {X : Option (T1 × T2)} {K : T1 → T2 → Option α} {E' : T1 × T2 → Prop} (hX : zG C ω nL E' X pc lv st σ) (hJ : ∀ a1 a2 v, K a1 a2 = some v → E v → E' (a1, a2)) : zG C ω nL E (zy2 X K) pc lv st σ := by
  intro v hv hE
  cases hq : X with
  | none => rw [hq] at hv; cases hv
  | some q =>
    rw [hq] at hv
    exact hX q hq (hJ q.1 q.2 v hv hE)
theorem gg_join3 {S α : Type} {C : zK} {ω : zO S} {nL pc : Nat} {E : α → Prop} {lv : List (Nat × Value)} {st : List Value} {σ : S} {T1 T2 T3 : Type} {X : Option (T1 × T2 × T3)} {K : T1 → T2 → T3 → Option α} {E' : T1 × T2 × T3 → Prop} (hX : zG C ω nL E' X pc lv st σ) (hJ : ∀ a1 a2 a3 v, K a1 a2 a3 = some v → E v → E' (a1, a2, a3)) : zG C ω nL E (zy3 X K) pc lv st σ := by
  intro v hv hE
  cases hq : X with
  | none => rw [hq] at hv; cases hv
  | some q =>
    rw [hq] at hv
    exact hX q hq (hJ q.1 q.2.1 q.2.2 v hv hE)
theorem gg_join4 {S α : Type} {C : zK} {ω : zO S} {nL pc : Nat} {E : α → Prop} {lv : List (Nat × Value)} {st : List Value} {σ : S} {T1 T2 T3 T4 : Type} {X : Option (T1 × T2 × T3 × T4)} {K : T1 → T2 → T3 → T4 → Option α} {E' : T1 × T2 × T3 × T4 → Prop} (hX : zG C ω nL E' X pc lv st σ) (hJ : ∀ a1 a2 a3 a4 v, K a1 a2 a3 a4 = some v → E v → E' (a1, a2, a3, a4)) : zG C ω nL E (zy4 X K) pc lv st σ := by
  intro v hv hE
  cases hq : X with
  | none => rw [hq] at hv; cases hv
  | some q =>
    rw [hq] at hv
    exact hX q hq (hJ q.1 q.2.1 q.2.2.1 q.2.2.2 v hv hE)
theorem gg_join5 {S α : Type} {C : zK} {ω : zO S} {nL pc : Nat} {E : α → Prop} {lv : List (Nat × Value)} {st : List Value} {σ : S} {T1 T2 T3 T4 T5 : Type} {X : Option (T1 × T2 × T3 × T4 × T5)} {K : T1 → T2 → T3 → T4 → T5 → Option α} {E' : T1 × T2 × T3 × T4 × T5 → Prop} (hX : zG C ω nL E' X pc lv st σ) (hJ : ∀ a1 a2 a3 a4 a5 v, K a1 a2 a3 a4 a5 = some v → E v → E' (a1, a2, a3, a4, a5)) : zG C ω nL E (zy5 X K) pc lv st σ := by
  intro v hv hE
  cases hq : X with
  | none => rw [hq] at hv; cases hv
  | some q =>
    rw [hq] at hv
    exact hX q hq (hJ q.1 q.2.1 q.2.2.1 q.2.2.2.1 q.2.2.2.2 v hv hE)

/-- a value gets a name -/
def zv {α β : Type} (e : α) (k : α → Option β) : Option β := k e
theorem gg_zvi {S α : Type} {C : zK} {ω : zO S} {nL pc : Nat} {E : α → Prop} {lv : List (Nat × Value)} {st : List Value} {σ : S} {e : Int32} {K : Int32 → Option α} (k : ∀ x : Int32, zG C ω nL E (K x) pc lv (.int x :: st) σ) : zG C ω nL E (zv e K) pc lv (.int e :: st) σ := k e
theorem gg_zvl {S α : Type} {C : zK} {ω : zO S} {nL pc : Nat} {E : α → Prop} {lv : List (Nat × Value)} {st : List Value} {σ : S} {e : Int64} {K : Int64 → Option α} (k : ∀ x : Int64, zG C ω nL E (K x) pc lv (.long x :: st) σ) : zG C ω nL E (zv e K) pc lv (.long e :: st) σ := k e
theorem gg_zvd {S α : Type} {C : zK} {ω : zO S} {nL pc : Nat} {E : α → Prop} {lv : List (Nat × Value)} {st : List Value} {σ : S} {e : UInt64} {K : UInt64 → Option α} (k : ∀ x : UInt64, zG C ω nL E (K x) pc lv (.double x :: st) σ) : zG C ω nL E (zv e K) pc lv (.double e :: st) σ := k e
/-- a field's link and its place among its class's -/
def zF (own : String) (idx ci k : Nat) (CC : String) (T : u_T) (N : Nat) : Prop := Cond.fieldLink own idx (T k).1 (T k).2.1 (T k).2.2.1 ∈ zT ∧ (∀ w ∈ u_ws CC T N, w ∈ zT) ∧ vwCl[ci]? = some (CC, T, N) ∧ k < N
/-- what a class's table says of writing -/
def zT2 (T : u_T) (N : Nat) (ty0 : Nat → FieldType) : Prop := (∀ k, k < N → parseFieldDescriptor (T k).2.2.1 = some (ty0 k)) ∧ ∀ a, a < N → ∀ b, b < N → a ≠ b → (T a).2.1 ≠ (T b).2.1

theorem gg_get {S α : Type} {C : zK} {ω : zO S} {cc : ByteArray} {own : String} {nL fr lo pc : Nat} {E : α → Prop} {o : Option α} {lv : List (Nat × Value)} {st : List Value} {σ : S} (hC : zOK C ω cc own nL fr lo) {idx ci k N : Nat} {CC : String} {T : u_T} (hd : decode cc pc = .ok (.getfield idx, 3)) (hF : zF own idx ci k CC T N) (q0 : Nat) {a : Nat} {fs : List Value} (he : (ω.1 σ)[q0]? = some (a, .inr (ci, fs))) {v : Value} (hv : fs[k]? = some v) (kk : zG C ω nL E o (pc + 3) lv (v :: st) σ) : zG C ω nL E o pc lv (.ref a :: st) σ :=
  fun w hw hE H locs ls hP hD hS hl => va_get hC.1 hC.2.1 hC.2.2.2.2.1 hF.2.1 hC.2.2.2.1 hC.2.2.2.2.2.1 hP q0 he hF.2.2.1 k hF.2.2.2 (hC.2.2.2.2.1 _ hF.1) (fun _ h => h) hv hd (kk w hw hE H locs ls hP hD hS hl)
theorem gg_put {S α : Type} {C : zK} {ω : zO S} {cc : ByteArray} {own : String} {nL fr lo pc : Nat} {E : α → Prop} {o : Option α} {lv : List (Nat × Value)} {st : List Value} {σ : S} (hC : zOK C ω cc own nL fr lo) {idx ci k N : Nat} {CC : String} {T : u_T} {ty0 : Nat → FieldType} (hd : decode cc pc = .ok (.putfield idx, 3)) (hF : zF own idx ci k CC T N) (hT : zT2 T N ty0) (q0 : Nat) {a : Nat} {fs : List Value} (he : (ω.1 σ)[q0]? = some (a, .inr (ci, fs))) {v : Value} (hfin : (T k).2.2.2 = false) (hn : narrow (ty0 k) v = v) (hfit : fits (ty0 k) v = true) (hlen : k < fs.length) {τ : S} (hτ : (ω.1 σ).set q0 (a, .inr (ci, fs.set k v)) = ω.1 τ) (kk : zG C ω nL E o (pc + 3) lv st τ) : zG C ω nL E o pc lv (v :: .ref a :: st) σ :=
  fun w hw hE H locs ls hP hD hS hl => va_put hC.1 hC.2.1 hC.2.2.2.2.1 hF.2.1 ty0 hT.1 hT.2 hC.2.2.2.1 hC.2.2.2.2.2.1 hP hD hS q0 he hF.2.2.1 k hF.2.2.2 (hC.2.2.2.2.1 _ hF.1) (fun _ h => h) hfin (hT.1 k hF.2.2.2) hn hfit hlen hd (fun H1 locs1 q1 q2 q3 => kk w hw hE H1 locs1 ls (hτ ▸ q1) (hτ ▸ q2) q3 hl)
theorem gg_iald {S α : Type} {C : zK} {ω : zO S} {cc : ByteArray} {own : String} {nL fr lo pc : Nat} {E : α → Prop} {o : Option α} {lv : List (Nat × Value)} {st : List Value} {σ : S} (hC : zOK C ω cc own nL fr lo) (hd : decode cc pc = .ok (.iaload, 1)) (q0 t0 : Nat) {a n : Nat} {cA : ClassId} {f : Nat → Int32} (he : (ω.1 σ)[q0]? = some (a, .inl (cA, n, .inl f))) (ht : ω.2.1[t0]? = some (cA, .int)) {i : Int32} (kk : zG C ω nL E o (pc + 1) lv (.int (f i.toNatClampNeg) :: st) σ) : zG C ω nL E (zg (zq i n) o) pc lv (.int i :: .ref a :: st) σ := by
  intro w hw hE H locs ls hP hD hS hl
  unfold zg at hw
  split at hw
  · next hy => exact va_iald hC.1 hC.2.1 hC.2.2.2.2.2.1 hP q0 t0 he ht (zq_in hy) hd (kk w hw hE H locs ls hP hD hS hl)
  · cases hw
theorem gg_zald {S α : Type} {C : zK} {ω : zO S} {cc : ByteArray} {own : String} {nL fr lo pc : Nat} {E : α → Prop} {o : Option α} {lv : List (Nat × Value)} {st : List Value} {σ : S} (hC : zOK C ω cc own nL fr lo) (hd : decode cc pc = .ok (.baload, 1)) (q0 t0 : Nat) {a n : Nat} {cA : ClassId} {f : Nat → Int32} (he : (ω.1 σ)[q0]? = some (a, .inl (cA, n, .inl f))) (ht : ω.2.1[t0]? = some (cA, .boolean)) {i : Int32} (kk : zG C ω nL E o (pc + 1) lv (.int (f i.toNatClampNeg) :: st) σ) : zG C ω nL E (zg (zq i n) o) pc lv (.int i :: .ref a :: st) σ := by
  intro w hw hE H locs ls hP hD hS hl
  unfold zg at hw
  split at hw
  · next hy => exact va_zald hC.1 hC.2.1 hC.2.2.2.2.2.1 hP q0 t0 he ht (zq_in hy) hd (kk w hw hE H locs ls hP hD hS hl)
  · cases hw
theorem gg_lald {S α : Type} {C : zK} {ω : zO S} {cc : ByteArray} {own : String} {nL fr lo pc : Nat} {E : α → Prop} {o : Option α} {lv : List (Nat × Value)} {st : List Value} {σ : S} (hC : zOK C ω cc own nL fr lo) (hd : decode cc pc = .ok (.laload, 1)) (q0 t0 : Nat) {a n : Nat} {cA : ClassId} {f : Nat → Int64} (he : (ω.1 σ)[q0]? = some (a, .inl (cA, n, .inr (.inl f)))) (ht : ω.2.1[t0]? = some (cA, .long)) {i : Int32} (kk : zG C ω nL E o (pc + 1) lv (.long (f i.toNatClampNeg) :: st) σ) : zG C ω nL E (zg (zq i n) o) pc lv (.int i :: .ref a :: st) σ := by
  intro w hw hE H locs ls hP hD hS hl
  unfold zg at hw
  split at hw
  · next hy => exact va_lald hC.1 hC.2.1 hC.2.2.2.2.2.1 hP q0 t0 he ht (zq_in hy) hd (kk w hw hE H locs ls hP hD hS hl)
  · cases hw
theorem gg_dald {S α : Type} {C : zK} {ω : zO S} {cc : ByteArray} {own : String} {nL fr lo pc : Nat} {E : α → Prop} {o : Option α} {lv : List (Nat × Value)} {st : List Value} {σ : S} (hC : zOK C ω cc own nL fr lo) (hd : decode cc pc = .ok (.daload, 1)) (q0 t0 : Nat) {a n : Nat} {cA : ClassId} {f : Nat → UInt64} (he : (ω.1 σ)[q0]? = some (a, .inl (cA, n, .inr (.inr (.inr (.inl f)))))) (ht : ω.2.1[t0]? = some (cA, .double)) {i : Int32} (kk : zG C ω nL E o (pc + 1) lv (.double (f i.toNatClampNeg) :: st) σ) : zG C ω nL E (zg (zq i n) o) pc lv (.int i :: .ref a :: st) σ := by
  intro w hw hE H locs ls hP hD hS hl
  unfold zg at hw
  split at hw
  · next hy => exact va_dald hC.1 hC.2.1 hC.2.2.2.2.2.1 hP q0 t0 he ht (zq_in hy) hd (kk w hw hE H locs ls hP hD hS hl)
  · cases hw
theorem gg_iast {S α : Type} {C : zK} {ω : zO S} {cc : ByteArray} {own : String} {nL fr lo pc : Nat} {E : α → Prop} {o : Option α} {lv : List (Nat × Value)} {st : List Value} {σ : S} (hC : zOK C ω cc own nL fr lo) (hd : decode cc pc = .ok (.iastore, 1)) (q0 t0 : Nat) {a n : Nat} {cA : ClassId} {f : Nat → Int32} (he : (ω.1 σ)[q0]? = some (a, .inl (cA, n, .inl f))) (ht : ω.2.1[t0]? = some (cA, .int)) {i : Int32} {x : Int32} {τ : S} (hτ : (ω.1 σ).set q0 (a, .inl (cA, n, .inl (upd f i.toNatClampNeg x))) = ω.1 τ) (kk : zG C ω nL E o (pc + 1) lv st τ) : zG C ω nL E (zg (zq i n) o) pc lv (.int x :: .int i :: .ref a :: st) σ := by
  intro w hw hE H locs ls hP hD hS hl
  unfold zg at hw
  split at hw
  · next hy => exact va_iast hC.1 hC.2.1 hC.2.2.2.2.2.1 hP hD hS q0 t0 he ht (zq_in hy) hd (fun H1 locs1 q1 q2 q3 => kk w hw hE H1 locs1 ls (hτ ▸ q1) (hτ ▸ q2) q3 hl)
  · cases hw
theorem gg_zast {S α : Type} {C : zK} {ω : zO S} {cc : ByteArray} {own : String} {nL fr lo pc : Nat} {E : α → Prop} {o : Option α} {lv : List (Nat × Value)} {st : List Value} {σ : S} (hC : zOK C ω cc own nL fr lo) (hd : decode cc pc = .ok (.bastore, 1)) (q0 t0 : Nat) {a n : Nat} {cA : ClassId} {f : Nat → Int32} (he : (ω.1 σ)[q0]? = some (a, .inl (cA, n, .inl f))) (ht : ω.2.1[t0]? = some (cA, .boolean)) {i : Int32} {x : Int32} {τ : S} (hτ : (ω.1 σ).set q0 (a, .inl (cA, n, .inl (upd f i.toNatClampNeg (vp_nar .boolean x)))) = ω.1 τ) (kk : zG C ω nL E o (pc + 1) lv st τ) : zG C ω nL E (zg (zq i n) o) pc lv (.int x :: .int i :: .ref a :: st) σ := by
  intro w hw hE H locs ls hP hD hS hl
  unfold zg at hw
  split at hw
  · next hy => exact va_zast hC.1 hC.2.1 hC.2.2.2.2.2.1 hP hD hS q0 t0 he ht (zq_in hy) hd (fun H1 locs1 q1 q2 q3 => kk w hw hE H1 locs1 ls (hτ ▸ q1) (hτ ▸ q2) q3 hl)
  · cases hw
theorem gg_last {S α : Type} {C : zK} {ω : zO S} {cc : ByteArray} {own : String} {nL fr lo pc : Nat} {E : α → Prop} {o : Option α} {lv : List (Nat × Value)} {st : List Value} {σ : S} (hC : zOK C ω cc own nL fr lo) (hd : decode cc pc = .ok (.lastore, 1)) (q0 t0 : Nat) {a n : Nat} {cA : ClassId} {f : Nat → Int64} (he : (ω.1 σ)[q0]? = some (a, .inl (cA, n, .inr (.inl f)))) (ht : ω.2.1[t0]? = some (cA, .long)) {i : Int32} {x : Int64} {τ : S} (hτ : (ω.1 σ).set q0 (a, .inl (cA, n, .inr (.inl (vp_updL f i.toNatClampNeg x)))) = ω.1 τ) (kk : zG C ω nL E o (pc + 1) lv st τ) : zG C ω nL E (zg (zq i n) o) pc lv (.long x :: .int i :: .ref a :: st) σ := by
  intro w hw hE H locs ls hP hD hS hl
  unfold zg at hw
  split at hw
  · next hy => exact va_last hC.1 hC.2.1 hC.2.2.2.2.2.1 hP hD hS q0 t0 he ht (zq_in hy) hd (fun H1 locs1 q1 q2 q3 => kk w hw hE H1 locs1 ls (hτ ▸ q1) (hτ ▸ q2) q3 hl)
  · cases hw
theorem gg_dast {S α : Type} {C : zK} {ω : zO S} {cc : ByteArray} {own : String} {nL fr lo pc : Nat} {E : α → Prop} {o : Option α} {lv : List (Nat × Value)} {st : List Value} {σ : S} (hC : zOK C ω cc own nL fr lo) (hd : decode cc pc = .ok (.dastore, 1)) (q0 t0 : Nat) {a n : Nat} {cA : ClassId} {f : Nat → UInt64} (he : (ω.1 σ)[q0]? = some (a, .inl (cA, n, .inr (.inr (.inr (.inl f)))))) (ht : ω.2.1[t0]? = some (cA, .double)) {i : Int32} {x : UInt64} {τ : S} (hτ : (ω.1 σ).set q0 (a, .inl (cA, n, .inr (.inr (.inr (.inl (vf_upd f i.toNatClampNeg x)))))) = ω.1 τ) (kk : zG C ω nL E o (pc + 1) lv st τ) : zG C ω nL E (zg (zq i n) o) pc lv (.double x :: .int i :: .ref a :: st) σ := by
  intro w hw hE H locs ls hP hD hS hl
  unfold zg at hw
  split at hw
  · next hy => exact va_dast hC.1 hC.2.1 hC.2.2.2.2.2.1 hP hD hS q0 t0 he ht (zq_in hy) hd (fun H1 locs1 q1 q2 q3 => kk w hw hE H1 locs1 ls (hτ ▸ q1) (hτ ▸ q2) q3 hl)
  · cases hw
theorem gg_aald {S α : Type} {C : zK} {ω : zO S} {cc : ByteArray} {own : String} {nL fr lo pc : Nat} {E : α → Prop} {o : Option α} {lv : List (Nat × Value)} {st : List Value} {σ : S} (hC : zOK C ω cc own nL fr lo) (hd : decode cc pc = .ok (.aaload, 1)) (q0 t0 : Nat) {a n : Nat} {cA : ClassId} {CC : String} {f : Nat → Option Nat} (he : (ω.1 σ)[q0]? = some (a, .inl (cA, n, .inr (.inr (.inr (.inr f)))))) (ht : ω.2.1[t0]? = some (cA, .object CC)) {i : Int32} (kk : i.toNatClampNeg < n → zG C ω nL E o (pc + 1) lv (va_rf (f i.toNatClampNeg) :: st) σ) : zG C ω nL E (zg (zq i n) o) pc lv (.int i :: .ref a :: st) σ := by
  intro w hw hE H locs ls hP hD hS hl
  unfold zg at hw
  split at hw
  · next hy => exact va_aldq hC.1 hC.2.1 hC.2.2.2.2.2.1 hP q0 t0 he ht (zq_in hy) hd (kk (Nat.not_le.mp fun q => zq_in hy (Or.inr q)) w hw hE H locs ls hP hD hS hl)
  · cases hw
theorem zi_wi (σ : zS) (k j : Nat) (v : Int32) : zi (wi σ k v) j = if j = k then v else zi σ j := rfl
theorem zi_wl (σ : zS) (k j : Nat) (v : Int64) : zi (wl σ k v) j = zi σ j := rfl
theorem zi_wa (σ : zS) (k j : Nat) (i : Nat) (v : Int32) : zi (wa σ k i v) j = zi σ j := rfl
theorem zi_wj (σ : zS) (k j : Nat) (i : Nat) (v : Int64) : zi (wj σ k i v) j = zi σ j := rfl
theorem zi_wd (σ : zS) (k j : Nat) (i : Nat) (v : UInt64) : zi (wd σ k i v) j = zi σ j := rfl
theorem zl_wi (σ : zS) (k j : Nat) (v : Int32) : zl (wi σ k v) j = zl σ j := rfl
theorem zl_wl (σ : zS) (k j : Nat) (v : Int64) : zl (wl σ k v) j = if j = k then v else zl σ j := rfl
theorem zl_wa (σ : zS) (k j : Nat) (i : Nat) (v : Int32) : zl (wa σ k i v) j = zl σ j := rfl
theorem zl_wj (σ : zS) (k j : Nat) (i : Nat) (v : Int64) : zl (wj σ k i v) j = zl σ j := rfl
theorem zl_wd (σ : zS) (k j : Nat) (i : Nat) (v : UInt64) : zl (wd σ k i v) j = zl σ j := rfl
theorem za_wi (σ : zS) (k j : Nat) (v : Int32) : za (wi σ k v) j = za σ j := rfl
theorem za_wl (σ : zS) (k j : Nat) (v : Int64) : za (wl σ k v) j = za σ j := rfl
theorem za_wa (σ : zS) (k j : Nat) (i : Nat) (v : Int32) : za (wa σ k i v) j = if j = k then upd (za σ k) i v else za σ j := rfl
theorem za_wj (σ : zS) (k j : Nat) (i : Nat) (v : Int64) : za (wj σ k i v) j = za σ j := rfl
theorem za_wd (σ : zS) (k j : Nat) (i : Nat) (v : UInt64) : za (wd σ k i v) j = za σ j := rfl
theorem zj_wi (σ : zS) (k j : Nat) (v : Int32) : zj (wi σ k v) j = zj σ j := rfl
theorem zj_wl (σ : zS) (k j : Nat) (v : Int64) : zj (wl σ k v) j = zj σ j := rfl
theorem zj_wa (σ : zS) (k j : Nat) (i : Nat) (v : Int32) : zj (wa σ k i v) j = zj σ j := rfl
theorem zj_wj (σ : zS) (k j : Nat) (i : Nat) (v : Int64) : zj (wj σ k i v) j = if j = k then vp_updL (zj σ k) i v else zj σ j := rfl
theorem zj_wd (σ : zS) (k j : Nat) (i : Nat) (v : UInt64) : zj (wd σ k i v) j = zj σ j := rfl
theorem zd_wi (σ : zS) (k j : Nat) (v : Int32) : zd (wi σ k v) j = zd σ j := rfl
theorem zd_wl (σ : zS) (k j : Nat) (v : Int64) : zd (wl σ k v) j = zd σ j := rfl
theorem zd_wa (σ : zS) (k j : Nat) (i : Nat) (v : Int32) : zd (wa σ k i v) j = zd σ j := rfl
theorem zd_wj (σ : zS) (k j : Nat) (i : Nat) (v : Int64) : zd (wj σ k i v) j = zd σ j := rfl
theorem zd_wd (σ : zS) (k j : Nat) (i : Nat) (v : UInt64) : zd (wd σ k i v) j = if j = k then vf_upd (zd σ k) i v else zd σ j := rfl

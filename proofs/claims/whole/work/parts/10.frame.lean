/-- the words that hold at every method's entry -/
def zT : List Cond := lw_tbl.filter goodWord
theorem zT_t {w : Cond} (i : Nat) (h : tables_1[i]? = some w) (hg : goodWord w = true) : w ∈ zT := List.mem_filter.mpr ⟨List.mem_append_right _ (List.mem_of_getElem? h), hg⟩
theorem zT_p {w : Cond} (i : Nat) (h : (k2_sels lw_privs)[i]? = some w) (hg : goodWord w = true) : w ∈ zT := List.mem_filter.mpr ⟨List.mem_append_left _ (List.mem_of_getElem? h), hg⟩
def zws (y : MethodName) (cc : ByteArray) (maxL : Nat) (ret : Option FieldType) : List Cond := .code y cc maxL ret :: zT
/-- the state of one side: ints, longs, rows of ints, of longs, of doubles -/
abbrev zS : Type := (Nat → Int32) × (Nat → Int64) × (Nat → Nat → Int32) × (Nat → Nat → Int64) × (Nat → Nat → UInt64)
def zi (σ : zS) (k : Nat) : Int32 := σ.1 k
def zl (σ : zS) (k : Nat) : Int64 := σ.2.1 k
def za (σ : zS) (k : Nat) : Nat → Int32 := σ.2.2.1 k
def zj (σ : zS) (k : Nat) : Nat → Int64 := σ.2.2.2.1 k
def zd (σ : zS) (k : Nat) : Nat → UInt64 := σ.2.2.2.2 k
def wi (σ : zS) (k : Nat) (v : Int32) : zS := (fun j => if j = k then v else σ.1 j, σ.2)
def wl (σ : zS) (k : Nat) (v : Int64) : zS := (σ.1, fun j => if j = k then v else σ.2.1 j, σ.2.2)
def wa (σ : zS) (k i : Nat) (v : Int32) : zS := (σ.1, σ.2.1, fun j => if j = k then upd (σ.2.2.1 k) i v else σ.2.2.1 j, σ.2.2.2)
def wj (σ : zS) (k i : Nat) (v : Int64) : zS := (σ.1, σ.2.1, σ.2.2.1, fun j => if j = k then vp_updL (σ.2.2.2.1 k) i v else σ.2.2.2.1 j, σ.2.2.2.2)
def wd (σ : zS) (k i : Nat) (v : UInt64) : zS := (σ.1, σ.2.1, σ.2.2.1, σ.2.2.2.1, fun j => if j = k then vf_upd (σ.2.2.2.2 k) i v else σ.2.2.2.2 j)
/-- what a stretch of code does: nothing told (none), or what it leaves -/
def zy1 {α γ : Type} (o : Option α) (k : α → Option γ) : Option γ := match o with
  | none => none
  | some q => k q
def zy2 {α β γ : Type} (o : Option (α × β)) (k : α → β → Option γ) : Option γ := match o with
  | none => none
  | some q => k q.1 q.2
def zy3 {α β δ γ : Type} (o : Option (α × β × δ)) (k : α → β → δ → Option γ) : Option γ := match o with
  | none => none
  | some q => k q.1 q.2.1 q.2.2
def zy4 {α β δ ε γ : Type} (o : Option (α × β × δ × ε)) (k : α → β → δ → ε → Option γ) : Option γ := match o with
  | none => none
  | some q => k q.1 q.2.1 q.2.2.1 q.2.2.2
def zy5 {α β δ ε ζ γ : Type} (o : Option (α × β × δ × ε × ζ)) (k : α → β → δ → ε → ζ → Option γ) : Option γ := match o with
  | none => none
  | some q => k q.1 q.2.1 q.2.2.1 q.2.2.2.1 q.2.2.2.2
def zg {β : Type} (b : Bool) (o : Option β) : Option β := if b = true then o else none
def zq (i : Int32) (n : Nat) : Bool := decide (¬ (i < 0 ∨ n ≤ i.toNatClampNeg))
theorem zq_in {i : Int32} {n : Nat} (h : zq i n = true) : vp_in i n := by
  unfold zq at h
  have h2 : ¬ (i < 0 ∨ n ≤ i.toNatClampNeg) := of_decide_eq_true h
  exact h2
/-- a boolean that an int is -/
def zz (r : Int32) : Bool := decide (r = 0 ∨ r = 1)
theorem zz_n {r : Int32} (h : zz r = true) : narrow .boolean (.int r) = .int r := by
  rcases of_decide_eq_true h with rfl | rfl <;> rfl
abbrev zK : Type := (Program × Launch × Env × Room × State) × (MethodId × Array Value × List Frame × Method × Code) × ((State → Prop) × va_G × (Nat → Prop) × Nat × Nat)
abbrev zO (S : Type) : Type := (S → va_W) × List (ClassId × FieldType) × ((Nat → Prop) → State → Heap → Prop)
def zW {S : Type} (C : zK) (ω : zO S) (nL : Nat) (pc : Nat) (lv : List (Nat × Value)) (st : List Value) (σ : S) : Prop :=
  ∀ (H : Heap) (locs : List Loc) (ls : Array Slot), va_P C.2.2.2.1 vwCl (ω.1 σ) H → va_D C.2.2.2.2.1 (ω.1 σ) → va_S C.2.2.2.2.1 C.1.2.2.2.2.heap H locs → lv_has ls nL lv →
    W C.1.1 C.1.2.1 C.1.2.2.1 C.1.2.2.2.1 C.1.2.2.2.2 C.2.1.1 C.2.1.2.1 C.2.1.2.2.1 C.2.1.2.2.2.1 C.2.1.2.2.2.2 H locs C.2.2.2.2.2.1 C.2.2.2.2.2.2 C.2.2.1 (F0 C.2.1.1 pc ls st)
/-- what a world says beside its cells is kept -/
def zX (X : (Nat → Prop) → State → Heap → Prop) : Prop :=
  (∀ (A B : Nat → Prop) (U : State) (H H' : Heap), X A U H → (∀ a : Nat, a < H.size → ¬ A a → H'[a]? = H[a]?) → (∀ q, B q → A q) → X B U H') ∧ (∀ (A : Nat → Prop) (s U : State) (H : Heap), s.WarmedH U.vm → X A s H → X A U H) ∧ ∀ (A : Nat → Prop) (s U : State) (H : Heap), U.vm = s.vm → X A s H → X A U H
def zOK {S : Type} (C : zK) (ω : zO S) (cc : ByteArray) (own : String) (nL fr lo : Nat) : Prop :=
  C.1.1.tables.exec = Jvm.exec ∧ C.2.1.2.2.2.2.code = cc ∧ C.2.1.2.2.2.2.maxLocals = nL ∧ C.1.2.2.2.2.vm.findClass own = some C.2.1.1.cls ∧ (∀ w ∈ zT, w.before C.2.1.2.1 C.1.2.2.2.2 = true) ∧ va_K C.2.2.2.1 vwCl ω.2.1 C.1.2.2.2.2 ∧ fr ≤ C.1.2.2.2.1.frames ∧ lo ≤ C.1.2.2.2.1.locals ∧ (∀ q : Nat, C.1.2.2.2.2.heap.size ≤ q → C.2.2.2.2.1 q) ∧ zX ω.2.2 ∧ ω.2.2 C.2.2.2.2.1 C.1.2.2.2.2 C.1.2.2.2.2.heap ∧ C.2.2.2.2.2.1 ≤ C.1.2.2.2.1.cells ∧ C.2.2.2.2.2.2 ≤ C.1.2.2.2.1.slots
def zG {S α : Type} (C : zK) (ω : zO S) (nL : Nat) (E : α → Prop) (o : Option α) (pc : Nat) (lv : List (Nat × Value)) (st : List Value) (σ : S) : Prop :=
  ∀ v, o = some v → E v → zW C ω nL pc lv st σ
/-- a method's start and end -/
def zPre {S : Type} (D : va_G) (ω : zO S) (σ : S) (sz : Nat) (U : State) : Prop := U.heap.size = sz ∧ va_P D vwCl (ω.1 σ) U.heap ∧ va_K D vwCl ω.2.1 U ∧ va_D (fun _ => True) (ω.1 σ) ∧ ω.2.2 (va_A (ω.1 σ) sz) U U.heap
def zPost {S : Type} (D : va_G) (ω : zO S) (σ : S) (sz : Nat) (τ : S) (t : State) : Prop := va_P D vwCl (ω.1 τ) t.heap ∧ va_K D vwCl ω.2.1 t ∧ va_D (va_A (ω.1 σ) sz) (ω.1 τ)
def zMI {S : Type} (l : Launch) (D : va_G) (ω : zO S) (y : MethodName) (ws : List Cond) (fr lo : Nat) (av : List Value) (σ : S) (r : Int32 × S) : Prop :=
  ∀ sz : Nat, Met l y ws ({ frames := fr, cells := 0, slots := 0, locals := lo }) (va_Pc av (zPre D ω σ sz)) (va_Qi (fun (x : Int32) (τ : S) => (x, τ) = r) (zPost D ω σ sz) (va_A (ω.1 σ) sz)) 0 0 (va_A (ω.1 σ) sz)
def zML {S : Type} (l : Launch) (D : va_G) (ω : zO S) (y : MethodName) (ws : List Cond) (fr lo : Nat) (av : List Value) (σ : S) (r : Int64 × S) : Prop :=
  ∀ sz : Nat, Met l y ws ({ frames := fr, cells := 0, slots := 0, locals := lo }) (va_Pc av (zPre D ω σ sz)) (va_Ql (fun (x : Int64) (τ : S) => (x, τ) = r) (zPost D ω σ sz) (va_A (ω.1 σ) sz)) 0 0 (va_A (ω.1 σ) sz)
def zMV {S : Type} (l : Launch) (D : va_G) (ω : zO S) (y : MethodName) (ws : List Cond) (fr lo : Nat) (av : List Value) (σ : S) (r : S) : Prop :=
  ∀ sz : Nat, Met l y ws ({ frames := fr, cells := 0, slots := 0, locals := lo }) (va_Pc av (zPre D ω σ sz)) (va_Qv (fun (τ : S) => τ = r) (zPost D ω σ sz) (va_A (ω.1 σ) sz)) 0 0 (va_A (ω.1 σ) sz)
/-- the ends of a walk -/
def zRI {S : Type} (C : zK) (ω : zO S) (nL : Nat) (cc : ByteArray) (r : Int32 × S) : Prop := ∀ (pc : Nat) (lv : List (Nat × Value)) (x : Int32) (τ : S), decode cc pc = .ok (.ireturn, 1) → (x, τ) = r → zW C ω nL pc lv [.int x] τ
def zRZ {S : Type} (C : zK) (ω : zO S) (nL : Nat) (cc : ByteArray) (r : Int32 × S) : Prop := ∀ (pc : Nat) (lv : List (Nat × Value)) (x : Int32) (τ : S), decode cc pc = .ok (.ireturn, 1) → narrow .boolean (.int x) = .int x → (x, τ) = r → zW C ω nL pc lv [.int x] τ
def zRL {S : Type} (C : zK) (ω : zO S) (nL : Nat) (cc : ByteArray) (r : Int64 × S) : Prop := ∀ (pc : Nat) (lv : List (Nat × Value)) (x : Int64) (τ : S), decode cc pc = .ok (.lreturn, 1) → (x, τ) = r → zW C ω nL pc lv [.long x] τ
def zRV {S : Type} (C : zK) (ω : zO S) (nL : Nat) (cc : ByteArray) (r : S) : Prop := ∀ (pc : Nat) (lv : List (Nat × Value)) (τ : S), decode cc pc = .ok (.return_, 1) → τ = r → zW C ω nL pc lv [] τ
theorem zws_spec {y : MethodName} {cc : ByteArray} {maxL : Nat} {ret : Option FieldType} {av : Array Value} {s : State} (h : ∀ w ∈ zws y cc maxL ret, w.before av s = true) : ∀ w ∈ zT, w.before av s = true := fun w hw => h w (List.mem_cons_of_mem _ hw)
set_option maxHeartbeats 4000000 in
theorem zm_I {S : Type} {l : Launch} {D : va_G} {ω : zO S} {y : MethodName} {cc : ByteArray} {maxL fr lo : Nat} {av : List Value} {lv : List (Nat × Value)} {σ : S} {o : Option (Int32 × S)} {r : Int32 × S} (hy : plainName y.cls = true) (hX : zX ω.2.2) (hle : (lg_sl av).length ≤ maxL) (hlv : lv_args 0 av = lv)
    (body : ∀ C : zK, C.1.2.1 = l → C.2.2.2.1 = D → zOK C ω cc y.cls maxL fr lo → zRI C ω maxL cc r → zG C ω maxL (fun v => v = r) o 0 lv [] σ) (h : o = some r) : zMI l D ω y (zws y cc maxL (some .int)) fr lo av σ r := by
  intro sz
  refine Met.ofW (cc := cc) (maxL := maxL) (ret := some .int) hy rfl ?_
  intro p e s m args below meth c s₁ B hml hv
  obtain ⟨rfl, hsz, hP, hK, hD0, hx0⟩ := hv
  have hts := atoms_spec (ws := zws y cc maxL (some .int)) B.pre
  have hown : s.vm.findClass y.cls = some m.cls := findClass_of_methodNamed B.named
  subst hsz
  have hl := lv_entry av (n := maxL) hle
  rw [lg_entry_eq]
  rw [hlv] at hl
  let C : zK := ((p, l, e, (headSpec (zws y cc maxL (some .int)) { frames := fr, cells := 0, slots := 0, locals := lo }).room, s), (m, av.toArray, below, meth, c), (MQ below (va_Qi (fun (x : Int32) (τ : S) => (x, τ) = r) (zPost D ω σ s.heap.size) (va_A (ω.1 σ) s.heap.size)) av.toArray s 0 0 (va_A (ω.1 σ) s.heap.size), D, va_A (ω.1 σ) s.heap.size, 0, 0))
  have hb := B.bytes
  have hr := B.returns
  have hlocks := B.notSynchronized
  have hxx := B.exec
  have hC : zOK C ω cc y.cls maxL fr lo := ⟨B.exec, B.bytes, hml, hown, zws_spec hts, hK, Nat.le_refl _, Nat.le_refl _, fun q h => Or.inr h, hX, hx0, Nat.zero_le _, Nat.zero_le _⟩
  have hR : zRI C ω maxL cc r := by
    intro pc lv' x τ hd hr' H locs ls qP qD qS ql
    exact W.iret (v := x) hxx hb hr (fun t ht hW => ⟨⟨x, τ, rfl, hr', by rw [ht]; exact qP, va_K.moved hW.alike hK, qD⟩, qS.F ht⟩) qS.2.2 hd
  exact body C rfl rfl hC hR r h rfl s.heap [] _ hP hD0.self va_S.rf hl
set_option maxHeartbeats 4000000 in
theorem zm_Z {S : Type} {l : Launch} {D : va_G} {ω : zO S} {y : MethodName} {cc : ByteArray} {maxL fr lo : Nat} {av : List Value} {lv : List (Nat × Value)} {σ : S} {o : Option (Int32 × S)} {r : Int32 × S} (hy : plainName y.cls = true) (hX : zX ω.2.2) (hle : (lg_sl av).length ≤ maxL) (hlv : lv_args 0 av = lv)
    (body : ∀ C : zK, C.1.2.1 = l → C.2.2.2.1 = D → zOK C ω cc y.cls maxL fr lo → zRZ C ω maxL cc r → zG C ω maxL (fun v => v = r) o 0 lv [] σ) (h : o = some r) : zMI l D ω y (zws y cc maxL (some .boolean)) fr lo av σ r := by
  intro sz
  refine Met.ofW (cc := cc) (maxL := maxL) (ret := some .boolean) hy rfl ?_
  intro p e s m args below meth c s₁ B hml hv
  obtain ⟨rfl, hsz, hP, hK, hD0, hx0⟩ := hv
  have hts := atoms_spec (ws := zws y cc maxL (some .boolean)) B.pre
  have hown : s.vm.findClass y.cls = some m.cls := findClass_of_methodNamed B.named
  subst hsz
  have hl := lv_entry av (n := maxL) hle
  rw [lg_entry_eq]
  rw [hlv] at hl
  let C : zK := ((p, l, e, (headSpec (zws y cc maxL (some .boolean)) { frames := fr, cells := 0, slots := 0, locals := lo }).room, s), (m, av.toArray, below, meth, c), (MQ below (va_Qi (fun (x : Int32) (τ : S) => (x, τ) = r) (zPost D ω σ s.heap.size) (va_A (ω.1 σ) s.heap.size)) av.toArray s 0 0 (va_A (ω.1 σ) s.heap.size), D, va_A (ω.1 σ) s.heap.size, 0, 0))
  have hb := B.bytes
  have hr := B.returns
  have hlocks := B.notSynchronized
  have hxx := B.exec
  have hC : zOK C ω cc y.cls maxL fr lo := ⟨B.exec, B.bytes, hml, hown, zws_spec hts, hK, Nat.le_refl _, Nat.le_refl _, fun q h => Or.inr h, hX, hx0, Nat.zero_le _, Nat.zero_le _⟩
  have hR : zRZ C ω maxL cc r := by
    intro pc lv' x τ hd hn hr' H locs ls qP qD qS ql
    exact W.zret (v := x) (ty := .boolean) hxx hb hr hn (fun t ht hW => ⟨⟨x, τ, rfl, hr', by rw [ht]; exact qP, va_K.moved hW.alike hK, qD⟩, qS.F ht⟩) qS.2.2 hd
  exact body C rfl rfl hC hR r h rfl s.heap [] _ hP hD0.self va_S.rf hl
set_option maxHeartbeats 4000000 in
theorem zm_L {S : Type} {l : Launch} {D : va_G} {ω : zO S} {y : MethodName} {cc : ByteArray} {maxL fr lo : Nat} {av : List Value} {lv : List (Nat × Value)} {σ : S} {o : Option (Int64 × S)} {r : Int64 × S} (hy : plainName y.cls = true) (hX : zX ω.2.2) (hle : (lg_sl av).length ≤ maxL) (hlv : lv_args 0 av = lv)
    (body : ∀ C : zK, C.1.2.1 = l → C.2.2.2.1 = D → zOK C ω cc y.cls maxL fr lo → zRL C ω maxL cc r → zG C ω maxL (fun v => v = r) o 0 lv [] σ) (h : o = some r) : zML l D ω y (zws y cc maxL (some .long)) fr lo av σ r := by
  intro sz
  refine Met.ofW (cc := cc) (maxL := maxL) (ret := some .long) hy rfl ?_
  intro p e s m args below meth c s₁ B hml hv
  obtain ⟨rfl, hsz, hP, hK, hD0, hx0⟩ := hv
  have hts := atoms_spec (ws := zws y cc maxL (some .long)) B.pre
  have hown : s.vm.findClass y.cls = some m.cls := findClass_of_methodNamed B.named
  subst hsz
  have hl := lv_entry av (n := maxL) hle
  rw [lg_entry_eq]
  rw [hlv] at hl
  let C : zK := ((p, l, e, (headSpec (zws y cc maxL (some .long)) { frames := fr, cells := 0, slots := 0, locals := lo }).room, s), (m, av.toArray, below, meth, c), (MQ below (va_Ql (fun (x : Int64) (τ : S) => (x, τ) = r) (zPost D ω σ s.heap.size) (va_A (ω.1 σ) s.heap.size)) av.toArray s 0 0 (va_A (ω.1 σ) s.heap.size), D, va_A (ω.1 σ) s.heap.size, 0, 0))
  have hb := B.bytes
  have hr := B.returns
  have hlocks := B.notSynchronized
  have hxx := B.exec
  have hC : zOK C ω cc y.cls maxL fr lo := ⟨B.exec, B.bytes, hml, hown, zws_spec hts, hK, Nat.le_refl _, Nat.le_refl _, fun q h => Or.inr h, hX, hx0, Nat.zero_le _, Nat.zero_le _⟩
  have hR : zRL C ω maxL cc r := by
    intro pc lv' x τ hd hr' H locs ls qP qD qS ql
    exact W.lret (v := x) hxx hb hr (fun t ht hW => ⟨⟨x, τ, rfl, hr', by rw [ht]; exact qP, va_K.moved hW.alike hK, qD⟩, qS.F ht⟩) qS.2.2 hd
  exact body C rfl rfl hC hR r h rfl s.heap [] _ hP hD0.self va_S.rf hl
set_option maxHeartbeats 4000000 in
theorem zm_V {S : Type} {l : Launch} {D : va_G} {ω : zO S} {y : MethodName} {cc : ByteArray} {maxL fr lo : Nat} {av : List Value} {lv : List (Nat × Value)} {σ : S} {o : Option S} {r : S} (hy : plainName y.cls = true) (hX : zX ω.2.2) (hle : (lg_sl av).length ≤ maxL) (hlv : lv_args 0 av = lv)
    (body : ∀ C : zK, C.1.2.1 = l → C.2.2.2.1 = D → zOK C ω cc y.cls maxL fr lo → zRV C ω maxL cc r → zG C ω maxL (fun v => v = r) o 0 lv [] σ) (h : o = some r) : zMV l D ω y (zws y cc maxL none) fr lo av σ r := by
  intro sz
  refine Met.ofW (cc := cc) (maxL := maxL) (ret := none) hy rfl ?_
  intro p e s m args below meth c s₁ B hml hv
  obtain ⟨rfl, hsz, hP, hK, hD0, hx0⟩ := hv
  have hts := atoms_spec (ws := zws y cc maxL none) B.pre
  have hown : s.vm.findClass y.cls = some m.cls := findClass_of_methodNamed B.named
  subst hsz
  have hl := lv_entry av (n := maxL) hle
  rw [lg_entry_eq]
  rw [hlv] at hl
  let C : zK := ((p, l, e, (headSpec (zws y cc maxL none) { frames := fr, cells := 0, slots := 0, locals := lo }).room, s), (m, av.toArray, below, meth, c), (MQ below (va_Qv (fun (τ : S) => τ = r) (zPost D ω σ s.heap.size) (va_A (ω.1 σ) s.heap.size)) av.toArray s 0 0 (va_A (ω.1 σ) s.heap.size), D, va_A (ω.1 σ) s.heap.size, 0, 0))
  have hb := B.bytes
  have hr := B.returns
  have hlocks := B.notSynchronized
  have hxx := B.exec
  have hC : zOK C ω cc y.cls maxL fr lo := ⟨B.exec, B.bytes, hml, hown, zws_spec hts, hK, Nat.le_refl _, Nat.le_refl _, fun q h => Or.inr h, hX, hx0, Nat.zero_le _, Nat.zero_le _⟩
  have hR : zRV C ω maxL cc r := by
    intro pc lv' τ hd hr' H locs ls qP qD qS ql
    exact W.vret hxx hb hr (fun t ht hW => ⟨⟨τ, rfl, hr', by rw [ht]; exact qP, va_K.moved hW.alike hK, qD⟩, qS.F ht⟩) qS.2.2 hd
  exact body C rfl rfl hC hR r h rfl s.heap [] _ hP hD0.self va_S.rf hl

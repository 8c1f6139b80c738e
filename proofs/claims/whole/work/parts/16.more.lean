theorem gg_zvs {S α : Type} {C : zK} {ω : zO S} {nL pc : Nat} {E : α → Prop} {lv : List (Nat × Value)} {st : List Value} {τ : S} {K : S → Option α} (k : ∀ x : S, zG C ω nL E (K x) pc lv st x) : zG C ω nL E (zv τ K) pc lv st τ := k τ
theorem zsw_out {x : Int32} {n : Nat} (hn : n ≤ 1000) (h : ∀ k : Nat, k < n + 1 → ¬ x = Int32.ofNat k) : x.toInt < 0 ∨ (n : Int) < x.toInt := by
  by_cases h0 : x.toInt < 0
  · exact Or.inl h0
  · by_cases h1 : (n : Int) < x.toInt
    · exact Or.inr h1
    · refine absurd ?_ (h x.toInt.toNat (by omega))
      apply Int32.toInt_inj.mp
      rw [Int32.toInt_ofNat_of_lt (by omega)]
      omega
theorem va_ldcwF {p : Program} {l : Launch} {e : Env} {R : Room} {s : State} {m : MethodId} {args : Array Value} {below : List Frame} {meth : Method} {c : Code} {locs : List Loc} {cells slots : Nat} {T : State} (X : Stand p l e R s m args below meth c T locs cells slots) (hexec : p.tables.exec = Jvm.exec) {own : String} {index : Nat} {v : UInt32} (hown : s.vm.findClass own = some m.cls)
    (hconst : (Cond.constantFloat own index v).before args s = true) {g : JFrame} (hg : g.method = m) (hdg : decode c.code g.pc = .ok (.ldc_w index, 3)) :
    ∀ target, Steps p.tables e below (T.setTop { g with pc := g.pc + 3, stack := .float v :: g.stack }) target → Steps p.tables e below (T.setTop g) target := by
  obtain ⟨k, cf, hk, hcf, hcp⟩ := Cond.constantFloat_spec hown hconst
  obtain ⟨k', hk', he⟩ := X.warmed.alike.2.2 _ _ hk
  intro target hrest
  subst hg
  jvm_step X.here [hexec, hdg, ldc_w.wp_float (s := T) (f := g) X.here.top hk' (by rw [he]; exact hcf) hcp]
  exact hrest
theorem gg_ldcfw {S α : Type} {C : zK} {ω : zO S} {cc : ByteArray} {own : String} {nL fr lo pc : Nat} {E : α → Prop} {o : Option α} {lv : List (Nat × Value)} {st : List Value} {σ : S} (hC : zOK C ω cc own nL fr lo) {i : Nat} {x : UInt32} (hd : decode cc pc = .ok (.ldc_w i, 3)) (hw : Cond.constantFloat own i x ∈ zT) (k : zG C ω nL E o (pc + 3) lv (.float x :: st) σ) : zG C ω nL E o pc lv st σ := by
  intro v hv hE H locs ls hP hD hS hl T hT X
  obtain ⟨t, a, b⟩ := k v hv hE H locs ls hP hD hS hl T hT X
  exact ⟨t, va_ldcwF X hC.1 hC.2.2.2.1 (hC.2.2.2.2.1 _ hw) (g := F0 C.2.1.1 pc ls st) rfl (by rw [hC.2.1]; exact hd) t a, b⟩
def zy6 {α1 α2 α3 α4 α5 α6 γ : Type} (o : Option (α1 × α2 × α3 × α4 × α5 × α6)) (k : α1 → α2 → α3 → α4 → α5 → α6 → Option γ) : Option γ := match o with
  | none => none
  | some q => k q.1 q.2.1 q.2.2.1 q.2.2.2.1 q.2.2.2.2.1 q.2.2.2.2.2
theorem gg_join6 {S α : Type} {C : zK} {ω : zO S} {nL pc : Nat} {E : α → Prop} {lv : List (Nat × Value)} {st : List Value} {σ : S} {α1 α2 α3 α4 α5 α6 : Type} {X : Option (α1 × α2 × α3 × α4 × α5 × α6)} {K : α1 → α2 → α3 → α4 → α5 → α6 → Option α} {E' : α1 × α2 × α3 × α4 × α5 × α6 → Prop} (hX : zG C ω nL E' X pc lv st σ) (hJ : ∀ a1 a2 a3 a4 a5 a6 v, K a1 a2 a3 a4 a5 a6 = some v → E v → E' (a1, a2, a3, a4, a5, a6)) : zG C ω nL E (zy6 X K) pc lv st σ := by
  intro v hv hE
  cases hq : X with
  | none => rw [hq] at hv; cases hv
  | some q =>
    rw [hq] at hv
    exact hX q hq (hJ q.1 q.2.1 q.2.2.1 q.2.2.2.1 q.2.2.2.2.1 q.2.2.2.2.2 v hv hE)
def zy7 {α1 α2 α3 α4 α5 α6 α7 γ : Type} (o : Option (α1 × α2 × α3 × α4 × α5 × α6 × α7)) (k : α1 → α2 → α3 → α4 → α5 → α6 → α7 → Option γ) : Option γ := match o with
  | none => none
  | some q => k q.1 q.2.1 q.2.2.1 q.2.2.2.1 q.2.2.2.2.1 q.2.2.2.2.2.1 q.2.2.2.2.2.2
theorem gg_join7 {S α : Type} {C : zK} {ω : zO S} {nL pc : Nat} {E : α → Prop} {lv : List (Nat × Value)} {st : List Value} {σ : S} {α1 α2 α3 α4 α5 α6 α7 : Type} {X : Option (α1 × α2 × α3 × α4 × α5 × α6 × α7)} {K : α1 → α2 → α3 → α4 → α5 → α6 → α7 → Option α} {E' : α1 × α2 × α3 × α4 × α5 × α6 × α7 → Prop} (hX : zG C ω nL E' X pc lv st σ) (hJ : ∀ a1 a2 a3 a4 a5 a6 a7 v, K a1 a2 a3 a4 a5 a6 a7 = some v → E v → E' (a1, a2, a3, a4, a5, a6, a7)) : zG C ω nL E (zy7 X K) pc lv st σ := by
  intro v hv hE
  cases hq : X with
  | none => rw [hq] at hv; cases hv
  | some q =>
    rw [hq] at hv
    exact hX q hq (hJ q.1 q.2.1 q.2.2.1 q.2.2.2.1 q.2.2.2.2.1 q.2.2.2.2.2.1 q.2.2.2.2.2.2 v hv hE)
def zy8 {α1 α2 α3 α4 α5 α6 α7 α8 γ : Type} (o : Option (α1 × α2 × α3 × α4 × α5 × α6 × α7 × α8)) (k : α1 → α2 → α3 → α4 → α5 → α6 → α7 → α8 → Option γ) : Option γ := match o with
  | none => none
  | some q => k q.1 q.2.1 q.2.2.1 q.2.2.2.1 q.2.2.2.2.1 q.2.2.2.2.2.1 q.2.2.2.2.2.2.1 q.2.2.2.2.2.2.2
theorem gg_join8 {S α : Type} {C : zK} {ω : zO S} {nL pc : Nat} {E : α → Prop} {lv : List (Nat × Value)} {st : List Value} {σ : S} {α1 α2 α3 α4 α5 α6 α7 α8 : Type} {X : Option (α1 × α2 × α3 × α4 × α5 × α6 × α7 × α8)} {K : α1 → α2 → α3 → α4 → α5 → α6 → α7 → α8 → Option α} {E' : α1 × α2 × α3 × α4 × α5 × α6 × α7 × α8 → Prop} (hX : zG C ω nL E' X pc lv st σ) (hJ : ∀ a1 a2 a3 a4 a5 a6 a7 a8 v, K a1 a2 a3 a4 a5 a6 a7 a8 = some v → E v → E' (a1, a2, a3, a4, a5, a6, a7, a8)) : zG C ω nL E (zy8 X K) pc lv st σ := by
  intro v hv hE
  cases hq : X with
  | none => rw [hq] at hv; cases hv
  | some q =>
    rw [hq] at hv
    exact hX q hq (hJ q.1 q.2.1 q.2.2.1 q.2.2.2.1 q.2.2.2.2.1 q.2.2.2.2.2.1 q.2.2.2.2.2.2.1 q.2.2.2.2.2.2.2 v hv hE)

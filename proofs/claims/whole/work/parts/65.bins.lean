theorem cod_spec {S : Nat → Nat} {x : Nat} : ∀ B, 1 ≤ B → S 0 = 0 → (∀ i j, i < j → j < B → S i < S j) → cod S B x < B ∧ S (cod S B x) ≤ x ∧ ∀ b, cod S B x < b → b < B → x < S b := by
  intro B
  induction B with
  | zero => intro h; omega
  | succ n ih =>
    intro _ h0 hm
    unfold cod
    by_cases h : S n ≤ x
    · rw [if_pos h]
      exact ⟨by omega, h, fun b h1 h2 => by omega⟩
    · rw [if_neg h]
      by_cases hn : n = 0
      · subst hn; omega
      · obtain ⟨a1, a2, a3⟩ := ih (by omega) h0 (fun i j h1 h2 => hm i j h1 (by omega))
        refine ⟨by omega, a2, fun b h1 h2 => ?_⟩
        by_cases hb : b = n
        · subst hb; omega
        · exact a3 b h1 (by omega)
theorem cod_uniq {S : Nat → Nat} {x B c : Nat} (h0 : S 0 = 0) (hm : ∀ i j, i < j → j < B → S i < S j) (hc : c < B) (h1 : S c ≤ x) (h2 : ∀ b, c < b → b < B → x < S b) : cod S B x = c := by
  obtain ⟨a1, a2, a3⟩ := cod_spec (S := S) (x := x) B (by omega) h0 hm
  rcases Nat.lt_trichotomy (cod S B x) c with h | h | h
  · have := a3 c h hc; omega
  · exact h
  · have := h2 _ h a1; omega
theorem X_code {σ : zS} {B x : Nat} {S : Nat → Nat} (h6 : zi σ 6 = nI B) (hB : 1 ≤ B) (hB2 : B ≤ 12) (h0 : S 0 = 0) (hS : ∀ k, k < B → za σ 2 k = nI (S k) ∧ S k < 60) (hx : x < 60) : fX0_codeOf (nI x) σ = some (nI (cod S B x)) := by
  have loop : ∀ n j, 1 ≤ j → j ≤ B → B < j + n → fX0_codeOf_4 (nI x) σ n (nI (cod S j x)) (nI j) = some (nI (cod S B x)) := by
    intro n
    induction n with
    | zero => intro j _ _ h; omega
    | succ n ih =>
      intro j h1 h2 h3
      rw [fX0_codeOf_4, h6]
      by_cases h : B ≤ j
      · have e : j = B := by omega
        subst e
        rw [if_pos (nI_le (Nat.le_refl _) (by omega))]
      · have t := hS j (by omega)
        rw [if_neg (nI_ge (by omega) (by omega)), zgq (by omega), nI_clamp (by omega), t.1]
        have e : (if nI x < nI (S j) then some (nI (cod S j x)) else some (nI j)) = some (nI (cod S (j + 1) x)) := by
          have ec : cod S (j + 1) x = if S j ≤ x then j else cod S j x := rfl
          rw [ec]
          by_cases c : S j ≤ x
          · have c1 : ¬ nI x < nI (S j) := nI_nlt c (by omega)
            rw [if_neg c1, if_pos c]
          · have c1 : nI x < nI (S j) := nI_lt (by omega) (by omega)
            rw [if_pos c1, if_neg c]
        rw [e]
        show fX0_codeOf_4 (nI x) σ n (nI (cod S (j + 1) x)) (nI j + 1) = _
        rw [nI_1]
        exact ih (j + 1) (by omega) (by omega) (by omega)
  have := loop 500 1 (by omega) hB (by omega)
  have e1 : cod S 1 x = 0 := by
    unfold cod
    split
    · rfl
    · rfl
  rw [e1] at this
  unfold fX0_codeOf
  have e2 : fX0_codeOf_4 (nI x) σ 500 0 1 = some (nI (cod S B x)) := this
  rw [e2]
  rfl
theorem M_code {σ : zS} {x c : Nat} (h : za σ 3 x = nI c) (hx : x < 60) : fX7_codeOf (nI x) σ = some (nI c) := by
  unfold fX7_codeOf
  rw [zgq hx, nI_clamp (by omega), h]
theorem RB_last {B : Nat} {S : Nat → Nat} {n : Int32} {f cu co fi : Nat → Int32} (h : RB B S n f cu co fi) : cod S B 59 = B - 1 := by
  obtain ⟨_, hB, _, h0, hS, _, hm, _⟩ := h
  have t := (hS (B - 1) (by omega)).2.2
  exact cod_uniq h0 hm (by omega) (by omega) (fun b h1 h2 => by omega)
theorem M_bins {τ : zS} {B : Nat} {S : Nat → Nat} {n : Int32} {f : Nat → Int32} (h : RB B S n f (za τ 1) (za τ 3) (za τ 4)) : fX7_bins τ = some (nI B) := by
  unfold fX7_bins
  have e : zg (zq 59 60) (some (za τ 3 (59 : Int32).toNatClampNeg + 1)) = some (za τ 3 59 + 1) := rfl
  rw [e, (h.2.2.2.2.2.2.2 59 (by omega)).1, RB_last h, nI_1]
  have := h.2.1
  congr 2
  omega
def dFi (S : Nat → Nat) (B b : Nat) : Nat := if b < B then S b else 60
theorem M_first {τ : zS} {B b : Nat} {S : Nat → Nat} {n : Int32} {f : Nat → Int32} (h : RB B S n f (za τ 1) (za τ 3) (za τ 4)) (hb : b ≤ B) : fX7_firstOf (nI b) τ = some (nI (dFi S B b)) := by
  have hB := h.2.2.1
  unfold fX7_firstOf dFi
  rw [zgq (by omega), nI_clamp (by omega)]
  by_cases c : b < B
  · rw [if_pos c, (h.2.2.2.2.1 b c).2.1]
  · have e : b = B := by omega
    rw [if_neg c, e, h.2.2.2.2.2.1]
    rfl
theorem X_end {σ : zS} {B b : Nat} {S : Nat → Nat} (h6 : zi σ 6 = nI B) (hB2 : B ≤ 12) (hS : ∀ k, k < B → za σ 2 k = nI (S k) ∧ S k < 60) (hb : b < B) : fX0_endOf (nI b) σ = some (nI (dFi S B (b + 1))) := by
  unfold fX0_endOf dFi
  rw [h6, nI_1]
  by_cases c : b + 1 < B
  · rw [if_neg (nI_ge c (by omega)), if_pos c, zgq (by omega), nI_clamp (by omega), (hS (b + 1) c).1]
  · rw [if_pos (nI_le (by omega) (by omega)), if_neg c]
    rfl
theorem RB_S {B : Nat} {S : Nat → Nat} {n : Int32} {f cu co fi : Nat → Int32} (h : RB B S n f cu co fi) : ∀ k, k < B → f k = nI (S k) ∧ S k < 60 := fun k hk => ⟨(h.2.2.2.2.1 k hk).1, (h.2.2.2.2.1 k hk).2.2⟩
theorem M_all {τ : zS} {H : Nat → Nat} (h : ∀ k, k < 12 → za τ 2 k = nI (H k)) : fX7_allHits τ = some (nI (zsum H 12)) := by
  have loop : ∀ n i, i ≤ 12 → 12 < i + n → fX7_allHits_4 τ n (nI (zsum H i)) (nI i) = some (nI (zsum H 12)) := by
    intro n
    induction n with
    | zero => intro i h1 h2; omega
    | succ n ih =>
      intro i h1 h2
      rw [fX7_allHits_4]
      by_cases c : 12 ≤ i
      · have e : i = 12 := by omega
        subst e
        have c1 : (12 : Int32) ≤ nI 12 := nI_le (a := 12) (Nat.le_refl _) (by decide)
        rw [if_pos c1]
      · have c1 : ¬ (12 : Int32) ≤ nI i := nI_ge (b := 12) (by omega) (by decide)
        rw [if_neg c1, zgq (by omega), nI_clamp (by omega), h i (by omega), nI_add, nI_1]
        exact ih (i + 1) (by omega) (by omega)
  unfold fX7_allHits
  have e : fX7_allHits_4 τ 500 0 0 = some (nI (zsum H 12)) := loop 500 0 (by omega) (by omega)
  rw [e]
  rfl
theorem RH_M {H : Nat → Nat} {n : Int32} {f f' : Nat → Int32} (h : RH H n f f') : ∀ k, k < 12 → f' k = nI (H k) := fun k hk => (h.2.2 k hk).2
theorem zsum_upd {H : Nat → Nat} {c v : Nat} : ∀ n, zsum (fun k => if k = c then H k + v else H k) n = zsum H n + (if c < n then v else 0) := by
  intro n
  induction n with
  | zero => rfl
  | succ n ih =>
    show zsum _ n + (if n = c then H n + v else H n) = zsum H n + H n + _
    rw [ih]
    by_cases h : n = c
    · subst h
      rw [if_pos rfl, if_neg (by omega), if_pos (by omega)]
      omega
    · rw [if_neg h]
      by_cases h2 : c < n
      · rw [if_pos h2, if_pos (by omega)]; omega
      · rw [if_neg h2, if_neg (by omega)]; omega
theorem zsum_le {H : Nat → Nat} {c : Nat} : ∀ n, c < n → H c ≤ zsum H n := by
  intro n
  induction n with
  | zero => intro h; omega
  | succ n ih =>
    intro h
    show H c ≤ zsum H n + H n
    by_cases e : c = n
    · subst e; omega
    · have := ih (by omega); omega
/-- hits at a fine, on both sides -/
theorem hitStep {σ τ : zS} (h : Rel σ τ) (h4 : zi σ 4 = 1) {x v : Nat} (hx : x < 60) {H0 : Nat} (hH : zi σ 7 = nI H0) (hv : H0 + v ≤ 400) (hH0 : H0 ≤ 400) :
    ∃ c y σ', c < 12 ∧ y ≤ 400 ∧ fX0_addHits (nI x) (nI v) σ = some (nI y, σ') ∧ fX7_codeOf (nI x) τ = some (nI c) ∧ za τ 2 c + nI v = nI y ∧ Rel σ' (wa τ 2 c (nI y)) ∧ zi σ' 4 = 1 ∧ zi σ' 7 = nI (H0 + v) := by
  obtain ⟨N, T, B, S, H, G, ga, gb, P, V, h1, h2, h3, h4', h5, h6, h7, h8, h9⟩ := h
  have hB := h2.2.1
  have hB2 := h2.2.2.1
  have hH0' : H0 = zsum H 12 := (nI_eq (by omega) (by have := h3.2.1; omega)).mp (hH.symm.trans h3.1)
  have hc := (cod_spec (S := S) (x := x) B hB h2.2.2.2.1 h2.2.2.2.2.2.2.1).1
  have ex := X_code h2.1 hB hB2 h2.2.2.2.1 (RB_S h2) hx
  have em := M_code (h2.2.2.2.2.2.2.2 x hx).1 hx
  generalize cod S B x = c at hc ex em
  have t := h3.2.2 c (by omega)
  have hle := zsum_le (H := H) (c := c) 12 (by omega)
  have hcl : (nI c).toNatClampNeg = c := nI_clamp (by omega)
  refine ⟨c, H c + v, wi (wa σ 3 c (nI (H c + v))) 7 (nI (H0 + v)), by omega, by omega, ?_, em, by rw [t.2, nI_add], ?_, h4, rfl⟩
  · unfold fX0_addHits
    rw [ex]
    have g : za (wi (wa σ 3 c (nI (H c + v))) 7 (nI (H0 + v))) 3 c = nI (H c + v) := upd_s _ _ _
    simp only [zv, zy1, zy2, zy3, zgq (show c < 12 by omega), hcl, t.1, nI_add]
    have e7 : zi (wa σ 3 c (nI (H c + v))) 7 = nI H0 := hH
    rw [e7, nI_add, g]
  · refine ⟨N, T, B, S, fun k => if k = c then H k + v else H k, G, ga, gb, P, V, h1, h2, ⟨?_, ?_, ?_⟩, h4', h5, h6, h7, RS_waM (RS_wi (RS_wa h8 (by decide)) (by decide)) (by decide) (by decide) (by decide), Or.inl h4⟩
    · rw [zsum_upd, if_pos (by omega), ← hH0']
      rfl
    · rw [zsum_upd, if_pos (by omega), ← hH0']
      exact hv
    · intro k hk
      show upd (za σ 3) c (nI (H c + v)) k = _ ∧ upd (za τ 2) c (nI (H c + v)) k = _
      by_cases e : k = c
      · subst e
        simp only [upd_s, if_true]
        exact ⟨trivial, trivial⟩
      · simp only [upd_n e, if_neg e]
        exact h3.2.2 k hk
theorem Rel_hits {σ τ : zS} (h : Rel σ τ) : ∃ H0, H0 ≤ 400 ∧ zi σ 7 = nI H0 ∧ fX7_allHits τ = some (nI H0) := by
  obtain ⟨N, T, B, S, H, G, ga, gb, P, V, h1, h2, h3, h4, h5, h6, h7, h8, h9⟩ := h
  exact ⟨zsum H 12, h3.2.1, h3.1, M_all (RH_M h3)⟩
theorem ok_hit_ : ok_hit Rel := by
  intro σ τ x v h
  unfold fX6_hit fX7_hit
  rw [X_isFine, M_in, X_within, M_in]
  obtain ⟨H0, hH0, e7, ea⟩ := Rel_hits h
  rcases zw_C (v := x) 0 59 (by decide) (by decide) with e | ⟨x, _, hx, rfl, e⟩
  · have e : zw x 0 59 = 0 := e
    refine ⟨-2, σ, τ, ?_, ?_, h⟩ <;> simp only [zv, zy1, zy2, zy3, e, if_true]
  have e : zw (nI x) 0 59 = 1 := e
  rcases zw_C (v := v) 1 99 (by decide) (by decide) with e2 | ⟨v, _, hv, rfl, e2⟩
  · have e2 : zw v 1 99 = 0 := e2
    refine ⟨-2, σ, τ, ?_, ?_, h⟩ <;> simp only [zv, zy1, zy2, zy3, e, e2, if_true, if_neg one_ne]
  have e2 : zw (nI v) 1 99 = 1 := e2
  by_cases c : H0 + v ≤ 400
  · have c1 : nI (H0 + v) ≤ 400 := nI_le (b := 400) c (by decide)
    obtain ⟨cd, y, σ', hc, hy, hx1, hm1, hm2, hR, _, _⟩ := hitStep (Rel_stale h) rfl (x := x) (v := v) (by omega) (H0 := H0) e7 c hH0
    have hcl : (nI cd).toNatClampNeg = cd := nI_clamp (by omega)
    refine ⟨nI y, σ', wa τ 2 cd (nI y), ?_, ?_, hR⟩
    · simp only [zv, zy1, zy2, zy3, e, e2, if_neg one_ne, e7, nI_add, if_pos c1, hx1]
    · have hm3 : fX7_codeOf (nI x) (wa τ 2 cd (nI y)) = some (nI cd) := hm1
      have g : za (wa τ 2 cd (nI y)) 2 cd = nI y := upd_s _ _ _
      simp only [zv, zy1, zy2, zy3, e, e2, if_neg one_ne, ea, nI_add, if_pos c1, hm1, zgq hc, hcl, hm2, hm3, g]
  · have c1 : ¬ nI (H0 + v) ≤ 400 := nI_ge (a := 400) (by omega) (by omega)
    refine ⟨-4, σ, τ, ?_, ?_, h⟩
    · simp only [zv, zy1, zy2, zy3, e, e2, if_neg one_ne, e7, nI_add, if_neg c1]
    · simp only [zv, zy1, zy2, zy3, e, e2, if_neg one_ne, ea, nI_add, if_neg c1]

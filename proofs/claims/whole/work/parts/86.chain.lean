/-- the next link -/
def Nx (N : Nat) (T : Nat → Nat) (g : Int32) (c : Nat) (nb : Int32) : Prop := (nb = -1 ∧ ∀ i, c < i → i < N → nI (T i / 60) - nI (T c / 60) < g) ∨ ∃ j, c < j ∧ j < N ∧ nb = nI j ∧ ¬ nI (T j / 60) - nI (T c / 60) < g ∧ ∀ i, c < i → i < j → nI (T i / 60) - nI (T c / 60) < g
theorem M_next {τ : zS} {N c : Nat} {T : Nat → Nat} {g : Int32} (hN : N ≤ 32) (h0 : zi τ 0 = nI N) (hT : ∀ k, k < N → za τ 0 k = nI (T k) ∧ T k < 6000) (hc : c < N) : ∃ nb, fX7_nextBy (nI c) g τ = some nb ∧ Nx N T g c nb := by
  have ec : ∀ k, k < N → za τ 0 k / 60 = nI (T k / 60) := fun k hk => by
    rw [(hT k hk).1]
    exact nI_div (b := 60) (by have := (hT k hk).2; omega) (by decide) (by decide)
  have loop : ∀ n k acc, k < N → c ≤ k → k < c + n → ((acc = -1 ∧ ∀ i, k < i → i < N → nI (T i / 60) - nI (T c / 60) < g) ∨ ∃ j, k < j ∧ j < N ∧ acc = nI j ∧ ¬ nI (T j / 60) - nI (T c / 60) < g ∧ ∀ i, k < i → i < j → nI (T i / 60) - nI (T c / 60) < g) → ∃ nb, fX7_nextBy_10 (nI c) g τ n acc (nI k) = some nb ∧ Nx N T g c nb := by
    intro n
    induction n with
    | zero => intro k acc h1 h2 h3; omega
    | succ n ih =>
      intro k acc h1 h2 h3 ha
      rw [fX7_nextBy_10]
      by_cases q : k = c
      · subst q
        rw [if_pos (nI_le (Nat.le_refl k) (by omega))]
        exact ⟨acc, rfl, ha⟩
      · have d : nI k + (-1) = nI (k - 1) := nI_dec (by omega)
        rw [if_neg (nI_ge (by omega) (by omega)), zgq (show k < 32 by omega), zgq (show c < 32 by omega), nI_clamp (by omega), nI_clamp (by omega), ec k h1, ec c hc, d]
        by_cases z : nI (T k / 60) - nI (T c / 60) < g
        · rw [if_pos z]
          simp only [zv, zy1, zy2, zy3]
          refine ih (k - 1) acc (by omega) (by omega) (by omega) ?_
          rcases ha with ⟨a1, a2⟩ | ⟨j, a1, a2, a3, a4, a5⟩
          · refine Or.inl ⟨a1, fun i h1 h2 => ?_⟩
            by_cases y : i = k
            · rw [y]; exact z
            · exact a2 i (by omega) h2
          · refine Or.inr ⟨j, by omega, a2, a3, a4, fun i h1 h2 => ?_⟩
            by_cases y : i = k
            · rw [y]; exact z
            · exact a5 i (by omega) h2
        · rw [if_neg z]
          simp only [zv, zy1, zy2, zy3]
          exact ih (k - 1) (nI k) (by omega) (by omega) (by omega) (Or.inr ⟨k, by omega, h1, rfl, z, fun i h1 h2 => by omega⟩)
  have e1 : nI N - 1 = nI (N - 1) := nI_sub (a := N) (b := 1) (by omega)
  obtain ⟨nb, g1, g2⟩ := loop 500 (N - 1) (-1) (by omega) (by omega) (by omega) (Or.inl ⟨rfl, fun i h1 h2 => by omega⟩)
  refine ⟨nb, ?_, g2⟩
  unfold fX7_nextBy
  rw [h0, e1]
  simp only [zv, zy1, zy2, zy3, g1]
/-- after the sought link nothing is sought -/
theorem M_past {τ : zS} {N : Nat} {T : Nat → Nat} {g v2 v3 : Int32} (hN : N ≤ 32) (h0 : zi τ 0 = nI N) (hT : ∀ k, k < N → za τ 0 k = nI (T k) ∧ T k < 6000) {r0 : Nat} (hr0 : v2 = nI r0) (hb : r0 < 2 ^ 31) : ∀ f c nb r s acc, c < N → N < c + f → Nx N T g c nb → r0 < r → r ≤ c → ∃ x4 x5, fX7_chainOf_36 g v2 v3 τ f (nI c) nb (nI r) s acc = some (x4, x5, acc) := by
  intro f
  induction f with
  | zero => intro c nb r s acc h1 h2; omega
  | succ f ih =>
    intro c nb r s acc h1 h2 hx h3 h4
    rw [fX7_chainOf_36]
    rcases hx with ⟨a1, a2⟩ | ⟨j, a1, a2, a3, a4, a5⟩
    · rw [if_pos a1]
      exact ⟨nI r, s, rfl⟩
    · subst a3
      have ne : ¬ nI r = v2 := by
        intro z
        rw [hr0] at z
        have := (nI_eq (by omega) hb).mp z
        omega
      obtain ⟨nb, g1, g2⟩ := M_next (g := g) hN h0 hT a2
      rw [if_neg (nI_neg1 (by omega)), zgq (show j < 32 by omega), zgq (show c < 32 by omega)]
      simp only [zv, zy1, zy2, zy3, if_neg ne, g1, nI_1]
      exact ih j nb (r + 1) _ acc a2 (by omega) g2 (by omega) (by omega)
theorem chainLoop {σ τ : zS} {N : Nat} {T pl : Nat → Nat} {g v2 v3 : Int32} (hN : N ≤ 32) (h5 : zi σ 5 = nI N) (hX : ∀ k, k < N → za σ 1 k = nI (T k)) (hp : ∀ k, k < N → za σ 10 k = nI (pl k)) (h0 : zi τ 0 = nI N) (hT : ∀ k, k < N → za τ 0 k = nI (T k) ∧ T k < 6000) (hp' : ∀ k, k < N → za τ 6 k = nI (pl k)) (hv : (2 < v3 ∧ (v3 = 3 ∨ v3 = 4)) ∨ (¬ 2 < v3 ∧ ¬ v3 = 3 ∧ ¬ v3 = 4)) : ∀ f c r s j acc f' nb, c < N → c < j → j ≤ N → N < j + f → N < c + f' → r ≤ c → Nx N T g c nb → (∀ i, c < i → i < j → nI (T i / 60) - nI (T c / 60) < g) → (¬ 2 < v3 → acc = -2) → ∃ res x4 x5 x6, fX6_chain_38 g v2 v3 σ f (nI c) (nI r) s (nI j) = some (res, σ) ∧ fX7_chainOf_36 g v2 v3 τ f' (nI c) nb (nI r) s acc = some (x4, x5, x6) ∧ (if v3 = 3 then x4 else if v3 = 4 then x5 else x6) = res := by
  have ec : ∀ k, k < N → fX5_coarseOf (nI k) σ = some (nI (T k / 60)) := fun k hk => by
    unfold fX5_coarseOf
    rw [zgq (show k < 32 by omega), nI_clamp (by omega), hX k hk]
    exact congrArg some (nI_div (b := 60) (by have := (hT k hk).2; omega) (by decide) (by decide))
  intro f
  induction f with
  | zero => intro c r s j acc f' nb h1 h2 h3 h4; omega
  | succ f ih =>
    intro c r s j acc f' nb h1 h2 h3 h4 h5' h6 hx hq ha
    rw [fX6_chain_38, h5]
    by_cases q : N ≤ j
    · rw [if_pos (nI_le q (by omega))]
      obtain ⟨f', rfl⟩ : ∃ m, f' = m + 1 := ⟨f' - 1, by omega⟩
      have en : nb = -1 := by
        rcases hx with ⟨a1, _⟩ | ⟨i, a1, a2, a3, a4, a5⟩
        · exact a1
        · exact absurd (hq i a1 (by omega)) a4
      rw [fX7_chainOf_36, if_pos en]
      rcases hv with ⟨w1, w2⟩ | ⟨w1, w2, w3⟩
      · rcases w2 with w2 | w2
        · exact ⟨nI r, nI r, s, acc, by rw [if_pos w1, if_pos w2], rfl, if_pos w2⟩
        · have n3 : ¬ v3 = 3 := by rw [w2]; decide
          exact ⟨s, nI r, s, acc, by rw [if_pos w1, if_neg n3], rfl, by rw [if_neg n3, if_pos w2]⟩
      · exact ⟨-2, nI r, s, acc, by rw [if_neg w1], rfl, by rw [if_neg w2, if_neg w3, ha w1]⟩
    · rw [if_neg (nI_ge (by omega) (by omega)), ec j (by omega), ec c h1]
      simp only [zv, zy1, zy2, zy3]
      by_cases z : nI (T j / 60) - nI (T c / 60) < g
      · rw [if_pos z, nI_1]
        refine ih c r s (j + 1) acc f' nb h1 (by omega) (by omega) (by omega) h5' h6 hx (fun i a1 a2 => ?_) ha
        by_cases y : i = j
        · rw [y]; exact z
        · exact hq i a1 (by omega)
      · have jN : j < N := by omega
        have en : nb = nI j := by
          rcases hx with ⟨a1, a2⟩ | ⟨i, a1, a2, a3, a4, a5⟩
          · exact absurd (a2 j h2 jN) z
          · have : i = j := by
              rcases Nat.lt_trichotomy i j with y | y | y
              · exact absurd (hq i a1 y) a4
              · exact y
              · exact absurd (a5 j h2 y) z
            rw [a3, this]
        subst en
        obtain ⟨f', rfl⟩ : ∃ m, f' = m + 1 := ⟨f' - 1, by omega⟩
        obtain ⟨nb, g1, g2⟩ := M_next (g := g) hN h0 hT jN
        have pe : fX2_periods (nI c) (nI j) σ = some (nI (pl j) - nI (pl c)) := by
          unfold fX2_periods
          rw [zgq (show j < 32 by omega), zgq (show c < 32 by omega), nI_clamp (by omega), nI_clamp (by omega), hp j jN, hp c h1]
        rw [if_neg z, pe, fX7_chainOf_36, if_neg (nI_neg1 (by omega)), zgq (show j < 32 by omega), zgq (show c < 32 by omega)]
        simp only [zv, zy1, zy2, zy3, zgq (show j < 32 by omega), zgq (show c < 32 by omega), nI_clamp (show j < 2 ^ 31 by omega), nI_clamp (show c < 2 ^ 31 by omega), hp' j jN, hp' c h1, g1, nI_1]
        rcases hv with ⟨w1, w2⟩ | ⟨w1, w2, w3⟩
        · have ex : ∃ acc', (if nI r = v2 then (if v3 = 0 then (some (nI c)) else (if v3 = 1 then (some (nI j)) else (some (nI (pl j) - nI (pl c))))) else (some acc)) = some acc' := by
            split
            · split
              · exact ⟨_, rfl⟩
              · split <;> exact ⟨_, rfl⟩
            · exact ⟨_, rfl⟩
          obtain ⟨acc', ex⟩ := ex
          simp only [if_pos w1, ex]
          exact ih j (r + 1) _ (j + 1) acc' f' nb jN (by omega) (by omega) (by omega) (by omega) (by omega) g2 (fun i a1 a2 => by omega) (fun y => absurd w1 y)
        · simp only [if_neg w1]
          by_cases y : nI r = v2
          · have past := fun acc' => M_past (τ := τ) (v2 := v2) (v3 := v3) (g := g) hN h0 hT y.symm (show r < 2 ^ 31 by omega) f' j nb (r + 1) (s + (nI (pl j) - nI (pl c))) acc' jN (by omega) g2 (by omega) (by omega)
            simp only [if_pos y]
            by_cases k0 : v3 = 0
            · obtain ⟨x4, x5, e⟩ := past (nI c)
              simp only [if_pos k0, e]
              exact ⟨nI c, x4, x5, nI c, rfl, rfl, by rw [if_neg w2, if_neg w3]⟩
            · by_cases k1 : v3 = 1
              · obtain ⟨x4, x5, e⟩ := past (nI j)
                simp only [if_neg k0, if_pos k1, e]
                exact ⟨nI j, x4, x5, nI j, rfl, rfl, by rw [if_neg w2, if_neg w3]⟩
              · obtain ⟨x4, x5, e⟩ := past (nI (pl j) - nI (pl c))
                simp only [if_neg k0, if_neg k1, e]
                exact ⟨nI (pl j) - nI (pl c), x4, x5, nI (pl j) - nI (pl c), rfl, rfl, by rw [if_neg w2, if_neg w3]⟩
          · simp only [if_neg y]
            exact ih j (r + 1) _ (j + 1) acc f' nb jN (by omega) (by omega) (by omega) (by omega) (by omega) g2 (fun i a1 a2 => by omega) ha
theorem chainBoth {N : Nat} {T : Nat → Nat} {B : Nat} {S H : Nat → Nat} {G : Nat} {ga gb : Nat → Nat} {P V md : Nat} {σ τ : zS} {g v2 v3 : Int32} (h : FD N T B S H G ga gb P V md σ τ) (hg : zw g 1 99 = 1) (hw : zw v3 0 4 = 1) : ∃ r σ' τ', fX6_chain g v2 v3 σ = some (r, σ') ∧ fX7_chainOf g v2 v3 τ = some (r, τ') ∧ FD N T B S H G ga gb P V md σ' τ' := by
  obtain ⟨hd, hc, hm⟩ := FD_B h
  have hN := hd.1
  obtain ⟨σ', p1, h', x0, x1, x2, x3, x4, x5, x6, x7, x8, x9, x10, x11⟩ := X_due h
  obtain ⟨τ', p2, h'', y1, y2, y3, y4⟩ := M_due h'
  have c' := (FD_B h').2.1
  have m' := (FD_B h'').2.2
  have hT : ∀ k, k < N → za τ' 0 k = nI (T k) ∧ T k < 6000 := fun k hk => ⟨m'.2.1 k hk, hd.2.1 k hk⟩
  have hv : (2 < v3 ∧ (v3 = 3 ∨ v3 = 4)) ∨ (¬ 2 < v3 ∧ ¬ v3 = 3 ∧ ¬ v3 = 4) := by
    obtain ⟨k, hk, rfl⟩ := w_of (n := 4) (by decide) hw
    rcases (show k = 0 ∨ k = 1 ∨ k = 2 ∨ k = 3 ∨ k = 4 by omega) with e | e | e | e | e <;> subst e <;> decide
  unfold fX6_chain fX7_chainOf
  rw [X_within, X_within, hg, hw, p1, p2]
  simp only [zv, zy1, zy2, zy3, if_neg one_ne, m'.1]
  by_cases z : N = 0
  · have z0 : nI N = 0 := by rw [z]; decide
    have eX : fX6_chain_38 g v2 v3 σ' 500 0 0 0 1 = some (if 2 < v3 then 0 else -2, σ') := by
      rw [fX6_chain_38, c'.1, z0, if_pos (by decide)]
      split
      · split <;> rfl
      · rfl
    have eM : fX7_chainOf_36 g v2 v3 τ' 500 0 (-1) 0 0 (-2) = some (0, 0, -2) := by
      rw [fX7_chainOf_36, if_pos rfl]
    refine ⟨if 2 < v3 then 0 else -2, σ', τ', eX, ?_, h''⟩
    simp only [if_pos z0, eM]
    rcases hv with ⟨w1, w2⟩ | ⟨w1, w2, w3⟩
    · rw [if_pos w1]
      rcases w2 with w2 | w2
      · rw [if_pos w2]
      · have n3 : ¬ v3 = 3 := by rw [w2]; decide
        rw [if_neg n3, if_pos w2]
    · rw [if_neg w1, if_neg w2, if_neg w3]
  · have z0 : ¬ nI N = 0 := nI_ne0 (by omega) (by omega)
    obtain ⟨nb, g1, g2⟩ := M_next (g := g) hN m'.1 hT (show 0 < N by omega)
    obtain ⟨res, a4, a5, a6, e1, e2, e3⟩ := chainLoop (v2 := v2) hN c'.1 c'.2.1 x4 m'.1 hT (fun k hk => (y4 k hk).1) hv 500 0 0 0 1 (-2) 500 nb (by omega) (by omega) (by omega) (by omega) (by omega) (by omega) g2 (fun i a1 a2 => by omega) (fun _ => rfl)
    have n1 : nI 1 = 1 := by decide
    rw [nI_0, n1] at e1
    rw [nI_0] at e2 g1
    refine ⟨res, σ', τ', e1, ?_, h''⟩
    simp only [if_neg z0, g1, e2]
    rw [← e3]
    by_cases w2 : v3 = 3
    · rw [if_pos w2, if_pos w2]
    · rw [if_neg w2, if_neg w2]
      by_cases w3 : v3 = 4
      · rw [if_pos w3, if_pos w3]
      · rw [if_neg w3, if_neg w3]
theorem ok_chain_ : ok_chain Rel := by
  intro σ τ g v2 v3 h
  obtain ⟨N, T, B, S, H, G, ga, gb, P, V, md, hf⟩ := Rel_FD h
  rcases zw01 g 1 99 with e | e
  · refine ⟨-2, σ, τ, ?_, ?_, h⟩
    · unfold fX6_chain
      rw [X_within, e]
      rfl
    · unfold fX7_chain
      rw [M_in, e]
      rfl
  · rcases zw01 v3 0 4 with e2 | e2
    · refine ⟨-2, σ, τ, ?_, ?_, h⟩
      · unfold fX6_chain
        rw [X_within, e, X_within, e2]
        rfl
      · unfold fX7_chain
        rw [M_in, e, M_in, e2]
        rfl
    · obtain ⟨r, σ', τ', g1, g2, g3⟩ := chainBoth (v2 := v2) hf e e2
      refine ⟨r, σ', τ', g1, ?_, FD_Rel g3⟩
      unfold fX7_chain
      rw [M_in, e, M_in, e2, g2]
      rfl

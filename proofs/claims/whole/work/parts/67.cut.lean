-- mode
theorem X_reads {σ : zS} {t : Nat} (h : zi σ 0 = nI 5) : ∀ n i, i ≤ 5 → 5 < i + n → ((∀ k, i ≤ k → k < 5 → sCh t k = za σ 0 k) → fX6_modeReads_15 t σ n (nI i) = some 1) ∧ ((∃ k, i ≤ k ∧ k < 5 ∧ ¬ sCh t k = za σ 0 k) → fX6_modeReads_15 t σ n (nI i) = some 0) := by
  intro n
  induction n with
  | zero => intro i h1 h2; omega
  | succ n ih =>
    intro i h1 h2
    rw [fX6_modeReads_15, h]
    by_cases c : 5 ≤ i
    · rw [if_pos (nI_le c (by omega))]
      exact ⟨fun _ => rfl, fun ⟨k, q1, q2, _⟩ => by omega⟩
    · rw [if_neg (nI_ge (by omega) (by omega)), zgq (by omega), zgq (by omega), nI_clamp (by omega), nI_1]
      have ih' := ih (i + 1) (by omega) (by omega)
      by_cases e : sCh t i = za σ 0 i
      · rw [if_pos e]
        refine ⟨fun q => ih'.1 (fun k q1 q2 => q k (by omega) q2), fun ⟨k, q1, q2, q3⟩ => ih'.2 ⟨k, ?_, q2, q3⟩⟩
        rcases Nat.lt_or_ge i k with z | z
        · omega
        · have : k = i := by omega
          rw [this] at q3
          exact absurd e q3
      · rw [if_neg e]
        exact ⟨fun q => absurd (q i (Nat.le_refl _) (by omega)) e, fun _ => rfl⟩
theorem X_readsB {σ : zS} {t k : Nat} (ht : t < 2) (h : zi σ 0 = nI k) (hk : k ≤ 5) : fX6_modeReads t σ = some (if zi σ 0 = 5 ∧ za σ 0 0 = sCh t 0 ∧ za σ 0 1 = sCh t 1 ∧ za σ 0 2 = sCh t 2 ∧ za σ 0 3 = sCh t 3 ∧ za σ 0 4 = sCh t 4 then 1 else 0) := by
  unfold fX6_modeReads
  by_cases c : k = 5
  · subst c
    have e5 : (5 : Int32) = zi σ 0 := h.symm
    have l := X_reads (σ := σ) (t := t) h 500 0 (by omega) (by omega)
    rw [nI_0] at l
    rw [if_pos e5]
    by_cases q : za σ 0 0 = sCh t 0 ∧ za σ 0 1 = sCh t 1 ∧ za σ 0 2 = sCh t 2 ∧ za σ 0 3 = sCh t 3 ∧ za σ 0 4 = sCh t 4
    · rw [if_pos ⟨e5.symm, q⟩]
      refine l.1 (fun k _ hk => ?_)
      match k, hk with
      | 0, _ => exact q.1.symm
      | 1, _ => exact q.2.1.symm
      | 2, _ => exact q.2.2.1.symm
      | 3, _ => exact q.2.2.2.1.symm
      | 4, _ => exact q.2.2.2.2.symm
    · rw [if_neg (fun z => q z.2)]
      refine l.2 ?_
      apply Classical.byContradiction
      intro z
      have z' : ∀ k, k < 5 → za σ 0 k = sCh t k := fun k hk => Classical.byContradiction fun y => z ⟨k, Nat.zero_le _, hk, fun w => y w.symm⟩
      exact q ⟨z' 0 (by omega), z' 1 (by omega), z' 2 (by omega), z' 3 (by omega), z' 4 (by omega)⟩
  · have e5 : ¬ (5 : Int32) = zi σ 0 := fun z => c ((nI_eq (b := 5) (by omega) (by decide)).mp (h.symm.trans z.symm))
    rw [if_neg e5, if_neg (fun z => e5 z.1.symm)]
theorem X_mode {σ : zS} {k : Nat} (h : zi σ 0 = nI k) (hk : k ≤ 5) : fX6_mode σ = some (nI (modeV (zi σ 0) (za σ 0))) := by
  unfold fX6_mode modeV
  rw [X_readsB (t := 0) (by omega) h hk, X_readsB (t := 1) (by omega) h hk]
  have e : ∀ t k, sCh t k = (([[100, 101, 110, 115, 101], [107, 110, 111, 119, 110]] : List (List Int32)).getD t []).getD k 0 := fun _ _ => rfl
  have a0 : sCh 0 0 = 100 := rfl
  have a1 : sCh 0 1 = 101 := rfl
  have a2 : sCh 0 2 = 110 := rfl
  have a3 : sCh 0 3 = 115 := rfl
  have a4 : sCh 0 4 = 101 := rfl
  have b0 : sCh 1 0 = 107 := rfl
  have b1 : sCh 1 1 = 110 := rfl
  have b2 : sCh 1 2 = 111 := rfl
  have b3 : sCh 1 3 = 119 := rfl
  have b4 : sCh 1 4 = 110 := rfl
  rw [a0, a1, a2, a3, a4, b0, b1, b2, b3, b4]
  by_cases c1 : zi σ 0 = 5 ∧ za σ 0 0 = 100 ∧ za σ 0 1 = 101 ∧ za σ 0 2 = 110 ∧ za σ 0 3 = 115 ∧ za σ 0 4 = 101
  · rw [if_pos c1, if_pos c1]
    rfl
  · rw [if_neg c1, if_neg c1]
    by_cases c2 : zi σ 0 = 5 ∧ za σ 0 0 = 107 ∧ za σ 0 1 = 110 ∧ za σ 0 2 = 111 ∧ za σ 0 3 = 119 ∧ za σ 0 4 = 110
    · rw [if_pos c2, if_pos c2]
      rfl
    · rw [if_neg c2, if_neg c2]
      rfl
theorem M_typed {τ : zS} {a b c d e : Int32} : fX7_isTyped a b c d e τ = some (if zi τ 1 = 5 ∧ za τ 5 0 = a ∧ za τ 5 1 = b ∧ za τ 5 2 = c ∧ za τ 5 3 = d ∧ za τ 5 4 = e then 1 else 0) := by
  unfold fX7_isTyped
  have q0 : zq 0 5 = true := rfl
  have q1 : zq 1 5 = true := rfl
  have q2 : zq 2 5 = true := rfl
  have q3 : zq 3 5 = true := rfl
  have q4 : zq 4 5 = true := rfl
  have p0 : (0 : Int32).toNatClampNeg = 0 := rfl
  have p1 : (1 : Int32).toNatClampNeg = 1 := rfl
  have p2 : (2 : Int32).toNatClampNeg = 2 := rfl
  have p3 : (3 : Int32).toNatClampNeg = 3 := rfl
  have p4 : (4 : Int32).toNatClampNeg = 4 := rfl
  rw [zg_t q0, zg_t q1, zg_t q2, zg_t q3, zg_t q4, p0, p1, p2, p3, p4]
  by_cases c0 : zi τ 1 = 5
  · rw [if_pos c0]
    by_cases c1 : za τ 5 0 = a
    · rw [if_pos c1]
      by_cases c2 : za τ 5 1 = b
      · rw [if_pos c2]
        by_cases c3 : za τ 5 2 = c
        · rw [if_pos c3]
          by_cases c4 : za τ 5 3 = d
          · rw [if_pos c4]
            by_cases c5 : za τ 5 4 = e
            · rw [if_pos c5, if_pos ⟨c0, c1, c2, c3, c4, c5⟩]
            · rw [if_neg c5, if_neg (fun z => c5 z.2.2.2.2.2)]
          · rw [if_neg c4, if_neg (fun z => c4 z.2.2.2.2.1)]
        · rw [if_neg c3, if_neg (fun z => c3 z.2.2.2.1)]
      · rw [if_neg c2, if_neg (fun z => c2 z.2.2.1)]
    · rw [if_neg c1, if_neg (fun z => c1 z.2.1)]
  · rw [if_neg c0, if_neg (fun z => c0 z.1)]
theorem M_mode {τ : zS} : fX7_modeNow τ = some (nI (modeV (zi τ 1) (za τ 5))) := by
  unfold fX7_modeNow modeV
  rw [M_typed, M_typed]
  by_cases c1 : zi τ 1 = 5 ∧ za τ 5 0 = 100 ∧ za τ 5 1 = 101 ∧ za τ 5 2 = 110 ∧ za τ 5 3 = 115 ∧ za τ 5 4 = 101
  · rw [if_pos c1, if_pos c1]
    rfl
  · rw [if_neg c1, if_neg c1]
    by_cases c2 : zi τ 1 = 5 ∧ za τ 5 0 = 107 ∧ za τ 5 1 = 110 ∧ za τ 5 2 = 111 ∧ za τ 5 3 = 119 ∧ za τ 5 4 = 110
    · rw [if_pos c2, if_pos c2]
      rfl
    · rw [if_neg c2, if_neg c2]
      rfl
theorem mode_eq {n n' : Int32} {f f' : Nat → Int32} (h : RM n f n' f') : modeV n' f' = modeV n f := by
  obtain ⟨e, _, e2⟩ := h
  unfold modeV
  rw [e, e2 0 (by omega), e2 1 (by omega), e2 2 (by omega), e2 3 (by omega), e2 4 (by omega)]
theorem ok_mode_ : ok_mode Rel := by
  intro σ τ h
  obtain ⟨N, T, B, S, H, G, ga, gb, P, V, h1, h2, h3, h4, h5, h6, h7, h8, h9⟩ := id h
  obtain ⟨k, hk, e⟩ := h4.2.1
  refine ⟨nI (modeV (zi σ 0) (za σ 0)), X_mode e hk, ?_, h⟩
  unfold fX7_mode
  rw [M_mode, mode_eq h4]
  rfl
-- gain
theorem gcdX_any (σ σ' : zS) : ∀ n a b s, fX6_commonDivisor_9 σ n a b s = fX6_commonDivisor_9 σ' n a b s := by
  intro n
  induction n with
  | zero => intro a b s; rfl
  | succ n ih =>
    intro a b s
    rw [fX6_commonDivisor_9, fX6_commonDivisor_9]
    simp only [zv, ih]
theorem lowX_any (σ σ' : zS) (a b : Int64) (w : Int32) : fX6_lowest a b w σ = fX6_lowest a b w σ' := by
  unfold fX6_lowest fX6_commonDivisor
  rw [gcdX_any σ σ']
theorem gcdM_any (σ σ' : zS) (x y : Int64) (w : Int32) : ∀ n a b, fX7_partOf_17 x y w σ n a b = fX7_partOf_17 x y w σ' n a b := by
  intro n
  induction n with
  | zero => intro a b; rfl
  | succ n ih =>
    intro a b
    rw [fX7_partOf_17, fX7_partOf_17]
    simp only [zv, ih]
theorem lowM_any (σ σ' : zS) (a b : Int64) (w : Int32) : fX7_partOf a b w σ = fX7_partOf a b w σ' := by
  unfold fX7_partOf
  simp only [gcdM_any σ σ']
theorem g8_any (σ σ' : zS) (v w : Int32) : ∀ n a b i, fX7_gainOf_8 v w σ n a b i = fX7_gainOf_8 v w σ' n a b i := by
  intro n
  induction n with
  | zero => intro a b i; rfl
  | succ n ih =>
    intro a b i
    rw [fX7_gainOf_8, fX7_gainOf_8]
    simp only [zv, ih]
theorem g54_any (σ σ' : zS) (v w : Int32) (x y : Int64) : ∀ n a i, fX7_gainOf_54 v w x y σ n a i = fX7_gainOf_54 v w x y σ' n a i := by
  intro n
  induction n with
  | zero => intro a i; rfl
  | succ n ih =>
    intro a i
    rw [fX7_gainOf_54, fX7_gainOf_54]
    simp only [zv, ih]
theorem gainM_any (σ σ' : zS) (m w : Int32) : fX7_gainOf m w σ = fX7_gainOf m w σ' := by
  unfold fX7_gainOf
  simp only [g8_any σ σ', g54_any σ σ', lowM_any σ σ']
def gainX (m w : Int32) : Option Int64 := fX6_lowest ((m.toInt64) * ((m + 1).toInt64)) ((6 : Int64) * ((m - 1).toInt64)) w zM0
theorem gain_all : ∀ m, m < 33 → 3 ≤ m → ∀ w, w < 2 → gainX (nI m) (nI w) = fX7_gainOf (nI m) (nI w) zM0 ∧ (gainX (nI m) (nI w)).isSome = true := by decide +kernel
theorem gainBoth (σ τ : zS) {m w : Int32} (hm : zw m 3 32 = 1) (hw : zw w 0 1 = 1) : ∃ r, fX6_gain m w σ = some r ∧ fX7_gainOf m w τ = some r := by
  rcases zw_C (v := m) 3 32 (by decide) (by decide) with e | ⟨k, h1, h2, rfl, e⟩
  · have e : zw m 3 32 = 0 := e
    rw [e] at hm; exact absurd hm (by decide)
  rcases zw_C (v := w) 0 1 (by decide) (by decide) with e' | ⟨j, _, h3, rfl, e'⟩
  · have e' : zw w 0 1 = 0 := e'
    rw [e'] at hw; exact absurd hw (by decide)
  obtain ⟨g1, g2⟩ := gain_all k (by omega) h1 j (by omega)
  obtain ⟨r, hr⟩ := Option.isSome_iff_exists.mp g2
  refine ⟨r, ?_, ?_⟩
  · unfold fX6_gain
    rw [X_within, X_isHalf]
    unfold gainX at hr
    simp only [zv, zy1, zy2, zy3, hm, hw, if_neg one_ne, lowX_any σ zM0, hr]
  · rw [gainM_any τ zM0, ← g1, hr]
theorem ok_gain_ : ok_gain Rel := by
  intro σ τ m w h
  rcases zw01 m 3 32 with e | e
  · refine ⟨(-9223372036854775808 : Int64) - ((-2 : Int32).toInt64), ?_, ?_, h⟩
    · unfold fX6_gain; rw [X_within]; simp only [zv, zy1, zy2, zy3, e, if_true]; rfl
    · unfold fX7_gain; rw [M_in]; simp only [zv, zy1, zy2, zy3, e, if_true]; rfl
  · rcases zw01 w 0 1 with e2 | e2
    · refine ⟨(-9223372036854775808 : Int64) - ((-2 : Int32).toInt64), ?_, ?_, h⟩
      · unfold fX6_gain; rw [X_within, X_isHalf]; simp only [zv, zy1, zy2, zy3, e, e2, if_true, if_neg one_ne]; rfl
      · unfold fX7_gain; rw [M_in, M_in]; simp only [zv, zy1, zy2, zy3, e, e2, if_true, if_neg one_ne]; rfl
    · obtain ⟨r, g1, g2⟩ := gainBoth σ τ e e2
      refine ⟨r, g1, ?_, h⟩
      unfold fX7_gain
      rw [M_in, M_in]
      simp only [zv, zy1, zy2, zy3, e, e2, if_neg one_ne, g2]

theorem dg_count {N : Nat} {T : Nat → Nat} {B : Nat} {S H : Nat → Nat} {G : Nat} {ga gb : Nat → Nat} {P V md : Nat} (x : Int64) {σ τ : zS} (h : FD N T B S H G ga gb P V md σ τ) : ∃ r σ' τ', fX6_digest_6 500 x 0 σ = some (r, σ') ∧ fX7_digest_6 500 x 0 τ = some (r, τ') ∧ FD N T B S H G ga gb P V md σ' τ' := by
  have loop : ∀ n k x σ τ, 0 ≤ k → k ≤ 8 → 8 < k + n → FD N T B S H G ga gb P V md σ τ → ∃ r σ' τ', fX6_digest_6 n x (nI k) σ = some (r, σ') ∧ fX7_digest_6 n x (nI k) τ = some (r, τ') ∧ FD N T B S H G ga gb P V md σ' τ' := by
    intro n
    induction n with
    | zero => intro k x σ τ h0 h1 h2; omega
    | succ n ih =>
      intro k x σ τ h0 h1 h2 h
      rw [fX6_digest_6, fX7_digest_6]
      by_cases q : k = 8
      · have c1 : (7 : Int32) < nI k := by rw [q]; decide
        have c2 : (8 : Int32) ≤ nI k := by rw [q]; decide
        rw [if_pos c1, if_pos c2]
        exact ⟨x, σ, τ, rfl, rfl, h⟩
      · have c1 : ¬ (7 : Int32) < nI k := nI_nlt (b := k) (a := 7) (by omega) (by decide)
        have c2 : ¬ (8 : Int32) ≤ nI k := nI_ge (b := 8) (by omega) (by decide)
        have hw : zw (nI k) 0 8 = 1 := zw_1 0 8 k (by omega) (by omega) (by decide)
        obtain ⟨r, σ', τ', g1, g2, e'⟩ := countBoth h hw
        simp only [zv, zy1, zy2, zy3, if_neg c1, if_neg c2, g1, g2, fX6_mix, nI_1]
        exact ih (k + 1) _ _ _ (by omega) (by omega) (by omega) e'
  have e := loop 500 0 x σ τ (by omega) (by omega) (by omega) h
  have n0 : nI 0 = 0 := by decide
  rw [n0] at e
  exact e
theorem dg_seen {N : Nat} {T : Nat → Nat} {B : Nat} {S H : Nat → Nat} {G : Nat} {ga gb : Nat → Nat} {P V md : Nat} {i : Nat} (hi : i < N) (x : Int64) {σ τ : zS} (h : FD N T B S H G ga gb P V md σ τ) : ∃ r σ' τ', fX6_mixEdges_20 (nI i) 500 x 0 σ = some (r, σ') ∧ fX7_edgeDigest_6 (nI i) 500 x 0 τ = some (r, τ') ∧ FD N T B S H G ga gb P V md σ' τ' := by
  have loop : ∀ n k x σ τ, 0 ≤ k → k ≤ 8 → 8 < k + n → FD N T B S H G ga gb P V md σ τ → ∃ r σ' τ', fX6_mixEdges_20 (nI i) n x (nI k) σ = some (r, σ') ∧ fX7_edgeDigest_6 (nI i) n x (nI k) τ = some (r, τ') ∧ FD N T B S H G ga gb P V md σ' τ' := by
    intro n
    induction n with
    | zero => intro k x σ τ h0 h1 h2; omega
    | succ n ih =>
      intro k x σ τ h0 h1 h2 h
      rw [fX6_mixEdges_20, fX7_edgeDigest_6]
      by_cases q : k = 8
      · have c1 : (7 : Int32) < nI k := by rw [q]; decide
        have c2 : (8 : Int32) ≤ nI k := by rw [q]; decide
        rw [if_pos c1, if_pos c2]
        exact ⟨x, σ, τ, rfl, rfl, h⟩
      · have c1 : ¬ (7 : Int32) < nI k := nI_nlt (b := k) (a := 7) (by omega) (by decide)
        have c2 : ¬ (8 : Int32) ≤ nI k := nI_ge (b := 8) (by omega) (by decide)
        have hw : zw (nI k) 0 7 = 1 := zw_1 0 7 k (by omega) (by omega) (by decide)
        obtain ⟨r, σ', τ', g1, g2, e'⟩ := seenBoth h hi hw
        simp only [zv, zy1, zy2, zy3, if_neg c1, if_neg c2, g1, g2, fX6_mix, nI_1]
        exact ih (k + 1) _ _ _ (by omega) (by omega) (by omega) e'
  have e := loop 500 0 x σ τ (by omega) (by omega) (by omega) h
  have n0 : nI 0 = 0 := by decide
  rw [n0] at e
  exact e
theorem dg_where {N : Nat} {T : Nat → Nat} {B : Nat} {S H : Nat → Nat} {G : Nat} {ga gb : Nat → Nat} {P V md : Nat} {i : Nat} (hi : i < G) (x : Int64) {σ τ : zS} (h : FD N T B S H G ga gb P V md σ τ) : ∃ r σ' τ', fX6_mixGates_20 (nI i) 500 x 0 σ = some (r, σ') ∧ fX7_gateDigest_6 (nI i) 500 x 0 τ = some (r, τ') ∧ FD N T B S H G ga gb P V md σ' τ' := by
  have loop : ∀ n k x σ τ, 0 ≤ k → k ≤ 3 → 3 < k + n → FD N T B S H G ga gb P V md σ τ → ∃ r σ' τ', fX6_mixGates_20 (nI i) n x (nI k) σ = some (r, σ') ∧ fX7_gateDigest_6 (nI i) n x (nI k) τ = some (r, τ') ∧ FD N T B S H G ga gb P V md σ' τ' := by
    intro n
    induction n with
    | zero => intro k x σ τ h0 h1 h2; omega
    | succ n ih =>
      intro k x σ τ h0 h1 h2 h
      rw [fX6_mixGates_20, fX7_gateDigest_6]
      by_cases q : k = 3
      · have c1 : (2 : Int32) < nI k := by rw [q]; decide
        have c2 : (3 : Int32) ≤ nI k := by rw [q]; decide
        rw [if_pos c1, if_pos c2]
        exact ⟨x, σ, τ, rfl, rfl, h⟩
      · have c1 : ¬ (2 : Int32) < nI k := nI_nlt (b := k) (a := 2) (by omega) (by decide)
        have c2 : ¬ (3 : Int32) ≤ nI k := nI_ge (b := 3) (by omega) (by decide)
        have hw : zw (nI k) 0 2 = 1 := zw_1 0 2 k (by omega) (by omega) (by decide)
        obtain ⟨r, σ', τ', g1, g2, e'⟩ := whereBoth h hi hw
        simp only [zv, zy1, zy2, zy3, if_neg c1, if_neg c2, g1, g2, fX6_mix, nI_1]
        exact ih (k + 1) _ _ _ (by omega) (by omega) (by omega) e'
  have e := loop 500 0 x σ τ (by omega) (by omega) (by omega) h
  have n0 : nI 0 = 0 := by decide
  rw [n0] at e
  exact e
theorem dg_freq {N : Nat} {T : Nat → Nat} {B : Nat} {S H : Nat → Nat} {G : Nat} {ga gb : Nat → Nat} {P V md : Nat} {i : Nat} (hi : i < G) (x : Int64) {σ τ : zS} (h : FD N T B S H G ga gb P V md σ τ) : ∃ r σ' τ', fX6_mixGates_49 (nI i) 500 x 0 σ = some (r, σ') ∧ fX7_gateDigest_38 (nI i) 500 x 0 τ = some (r, τ') ∧ FD N T B S H G ga gb P V md σ' τ' := by
  have loop : ∀ n k x σ τ, 0 ≤ k → k ≤ 4 → 4 < k + n → FD N T B S H G ga gb P V md σ τ → ∃ r σ' τ', fX6_mixGates_49 (nI i) n x (nI k) σ = some (r, σ') ∧ fX7_gateDigest_38 (nI i) n x (nI k) τ = some (r, τ') ∧ FD N T B S H G ga gb P V md σ' τ' := by
    intro n
    induction n with
    | zero => intro k x σ τ h0 h1 h2; omega
    | succ n ih =>
      intro k x σ τ h0 h1 h2 h
      rw [fX6_mixGates_49, fX7_gateDigest_38]
      by_cases q : k = 4
      · have c1 : (3 : Int32) < nI k := by rw [q]; decide
        have c2 : (4 : Int32) ≤ nI k := by rw [q]; decide
        rw [if_pos c1, if_pos c2]
        exact ⟨x, σ, τ, rfl, rfl, h⟩
      · have c1 : ¬ (3 : Int32) < nI k := nI_nlt (b := k) (a := 3) (by omega) (by decide)
        have c2 : ¬ (4 : Int32) ≤ nI k := nI_ge (b := 4) (by omega) (by decide)
        have hw : zw (nI k) 0 3 = 1 := zw_1 0 3 k (by omega) (by omega) (by decide)
        obtain ⟨r, σ', τ', g1, g2, e1⟩ := freqBoth (u := 0) h hi hw (by decide)
        obtain ⟨r2, σ2, τ2, g3, g4, e'⟩ := freqBoth (u := 1) e1 hi hw (by decide)
        simp only [zv, zy1, zy2, zy3, if_neg c1, if_neg c2, g1, g2, g3, g4, fX6_mix, nI_1]
        exact ih (k + 1) _ _ _ (by omega) (by omega) (by omega) e'
  have e := loop 500 0 x σ τ (by omega) (by omega) (by omega) h
  have n0 : nI 0 = 0 := by decide
  rw [n0] at e
  exact e
theorem dg_chain {N : Nat} {T : Nat → Nat} {B : Nat} {S H : Nat → Nat} {G : Nat} {ga gb : Nat → Nat} {P V md : Nat} (x : Int64) {σ τ : zS} (h : FD N T B S H G ga gb P V md σ τ) : ∃ r σ' τ', fX6_mixChains_27 500 x 0 σ = some (r, σ') ∧ fX7_chainDigest_33 500 x 0 τ = some (r, τ') ∧ FD N T B S H G ga gb P V md σ' τ' := by
  have loop : ∀ n k x σ τ, 0 ≤ k → k ≤ 5 → 5 < k + n → FD N T B S H G ga gb P V md σ τ → ∃ r σ' τ', fX6_mixChains_27 n x (nI k) σ = some (r, σ') ∧ fX7_chainDigest_33 n x (nI k) τ = some (r, τ') ∧ FD N T B S H G ga gb P V md σ' τ' := by
    intro n
    induction n with
    | zero => intro k x σ τ h0 h1 h2; omega
    | succ n ih =>
      intro k x σ τ h0 h1 h2 h
      rw [fX6_mixChains_27, fX7_chainDigest_33]
      by_cases q : k = 5
      · have c1 : (4 : Int32) < nI k := by rw [q]; decide
        have c2 : (5 : Int32) ≤ nI k := by rw [q]; decide
        rw [if_pos c1, if_pos c2]
        exact ⟨x, σ, τ, rfl, rfl, h⟩
      · have c1 : ¬ (4 : Int32) < nI k := nI_nlt (b := k) (a := 4) (by omega) (by decide)
        have c2 : ¬ (5 : Int32) ≤ nI k := nI_ge (b := 5) (by omega) (by decide)
        have hw : zw (nI k) 0 4 = 1 := zw_1 0 4 k (by omega) (by omega) (by decide)
        obtain ⟨r, σ', τ', g1, g2, e'⟩ := chainBoth (g := 7) (v2 := 1) h (by decide) hw
        simp only [zv, zy1, zy2, zy3, if_neg c1, if_neg c2, g1, g2, fX6_mix, nI_1]
        exact ih (k + 1) _ _ _ (by omega) (by omega) (by omega) e'
  have e := loop 500 0 x σ τ (by omega) (by omega) (by omega) h
  have n0 : nI 0 = 0 := by decide
  rw [n0] at e
  exact e
theorem due13 {N : Nat} {T : Nat → Nat} {B : Nat} {S H : Nat → Nat} {G : Nat} {ga gb : Nat → Nat} {P V md : Nat} {σ τ : zS} {v w : Int32} {r : Int64} {s : zS} (h : FD N T B S H G ga gb P V md σ τ) (hv : zw v 1 15 = 1) (hw : zw w 0 1 = 1) (e : fX6_variance v w σ = some (r, s)) : zi s 13 = nI (dSp N) := by
  obtain ⟨σ', p1, h', x0, x1, x2, x3, x4, x5, x6, x7, x8, x9, x10, x11⟩ := X_due h
  obtain ⟨m, hm1, hm2, rfl⟩ : ∃ m, 1 ≤ m ∧ m ≤ 15 ∧ v = nI m := by
    rcases zw_C (v := v) 1 15 (by decide) (by decide) with e | ⟨k, a1, a2, a3, _⟩
    · have e' : zw v 1 15 = 0 := e
      rw [e'] at hv; exact absurd hv (by decide)
    · exact ⟨k, a1, a2, a3⟩
  unfold fX6_variance at e
  rw [X_within, hv, X_isHalf, hw, p1] at e
  simp only [zv, zy1, zy2, zy3, if_neg one_ne, zgq (show m < 16 by omega), X_refuse] at e
  have fin : s = σ' := by
    split at e
    · split at e
      · cases e
      · cases e; rfl
    · cases e; rfl
  rw [fin]
  exact x9
theorem rank13 {N : Nat} {T : Nat → Nat} {B : Nat} {S H : Nat → Nat} {G : Nat} {ga gb : Nat → Nat} {P V md : Nat} {σ τ : zS} {v : Int32} {r : Int32} {s : zS} (h : FD N T B S H G ga gb P V md σ τ) (e : fX6_rank v σ = some (r, s)) : zi s 13 = nI (dSp N) := by
  obtain ⟨σ', p1, h', x0, x1, x2, x3, x4, x5, x6, x7, x8, x9, x10, x11⟩ := X_due h
  have hD : dSp N ≤ 15 := by
    unfold dSp
    split <;> omega
  unfold fX6_rank at e
  rw [p1] at e
  simp only [zv, zy1, zy2, zy3, X_within, x9] at e
  rcases zw_N (v := v) (dSp N) (by omega) with c | ⟨k, hk, rfl, c⟩
  · rw [c] at e
    simp only [if_true] at e
    cases e
    exact x9
  · rw [c] at e
    simp only [if_neg one_ne, zgq (show k < 15 by omega)] at e
    cases e
    exact x9
theorem dg_var {N : Nat} {T : Nat → Nat} {B : Nat} {S H : Nat → Nat} {G : Nat} {ga gb : Nat → Nat} {P V md : Nat} (x : Int64) {σ τ : zS} (h : FD N T B S H G ga gb P V md σ τ) : ∃ r σ' τ', fX6_mixSpans_5 500 x 1 σ = some (r, σ') ∧ fX7_digest_156 500 x 1 τ = some (r, τ') ∧ FD N T B S H G ga gb P V md σ' τ' ∧ zi σ' 13 = nI (dSp N) := by
  have loop : ∀ n k x σ τ, 1 ≤ k → k ≤ 16 → 16 < k + n → FD N T B S H G ga gb P V md σ τ → (k = 16 → zi σ 13 = nI (dSp N)) → ∃ r σ' τ', fX6_mixSpans_5 n x (nI k) σ = some (r, σ') ∧ fX7_digest_156 n x (nI k) τ = some (r, τ') ∧ FD N T B S H G ga gb P V md σ' τ' ∧ zi σ' 13 = nI (dSp N) := by
    intro n
    induction n with
    | zero => intro k x σ τ h0 h1 h2; omega
    | succ n ih =>
      intro k x σ τ h0 h1 h2 h hz
      rw [fX6_mixSpans_5, fX7_digest_156]
      by_cases q : k = 16
      · have c1 : (15 : Int32) < nI k := by rw [q]; decide
        have c2 : (15 : Int32) < nI k := by rw [q]; decide
        rw [if_pos c1, if_pos c2]
        exact ⟨x, σ, τ, rfl, rfl, h, hz q⟩
      · have c1 : ¬ (15 : Int32) < nI k := nI_nlt (b := k) (a := 15) (by omega) (by decide)
        have c2 : ¬ (15 : Int32) < nI k := c1
        have hw : zw (nI k) 1 15 = 1 := zw_1 1 15 k (by omega) (by omega) (by decide)
        obtain ⟨r, σ', τ', g1, g2, e1⟩ := varBoth (w := 0) h hw (by decide)
        obtain ⟨r2, σ2, τ2, g3, g4, e'⟩ := varBoth (w := 1) e1 hw (by decide)
        simp only [zv, zy1, zy2, zy3, if_neg c1, if_neg c2, g1, g2, g3, g4, fX6_mix, nI_1]
        exact ih (k + 1) _ _ _ (by omega) (by omega) (by omega) e' (fun _ => due13 e1 hw (by decide) g3)
  have e := loop 500 1 x σ τ (by omega) (by omega) (by omega) h (fun z => by omega)
  have n0 : nI 1 = 1 := by decide
  rw [n0] at e
  exact e
theorem dg_rank {N : Nat} {T : Nat → Nat} {B : Nat} {S H : Nat → Nat} {G : Nat} {ga gb : Nat → Nat} {P V md : Nat} (x : Int64) {σ τ : zS} (h : FD N T B S H G ga gb P V md σ τ) (hz : zi σ 13 = nI (dSp N)) : ∃ r σ' τ', fX6_mixSpans_43 500 x 0 σ = some (r, σ') ∧ fX7_digest_196 500 x 0 τ = some (r, τ') ∧ FD N T B S H G ga gb P V md σ' τ' := by
  have hD : dSp N ≤ 15 := by
    unfold dSp
    split <;> omega
  have loop : ∀ n k x σ τ, k ≤ dSp N → dSp N < k + n → FD N T B S H G ga gb P V md σ τ → zi σ 13 = nI (dSp N) → ∃ r σ' τ', fX6_mixSpans_43 n x (nI k) σ = some (r, σ') ∧ fX7_digest_196 n x (nI k) τ = some (r, τ') ∧ FD N T B S H G ga gb P V md σ' τ' := by
    intro n
    induction n with
    | zero => intro k x σ τ h1 h2; omega
    | succ n ih =>
      intro k x σ τ h1 h2 h hz
      obtain ⟨hd, _, hm⟩ := FD_B h
      rw [fX6_mixSpans_43, fX7_digest_196, hz, M_ranked hd.1 hm.1]
      simp only [zv, zy1, zy2, zy3]
      by_cases q : dSp N ≤ k
      · rw [if_pos (nI_le q (by omega)), if_pos (nI_le q (by omega))]
        exact ⟨x, σ, τ, rfl, rfl, h⟩
      · have c : ¬ nI (dSp N) ≤ nI k := nI_ge (by omega) (by omega)
        obtain ⟨r, σ', τ', g1, g2, e'⟩ := rankBoth (nI k) h
        simp only [if_neg c, g1, g2, fX6_mix, nI_1]
        exact ih (k + 1) _ _ _ (by omega) (by omega) e' (rank13 h g1)
  have e := loop 500 0 x σ τ (by omega) (by omega) h hz
  rw [nI_0] at e
  exact e
theorem dg_edges {N : Nat} {T : Nat → Nat} {B : Nat} {S H : Nat → Nat} {G : Nat} {ga gb : Nat → Nat} {P V md : Nat} (x : Int64) {σ τ : zS} (h : FD N T B S H G ga gb P V md σ τ) : ∃ r σ' τ', fX6_mixEdges x σ = some (r, σ') ∧ fX7_digest_80 500 x 0 τ = some (r, τ') ∧ FD N T B S H G ga gb P V md σ' τ' := by
  have hN := (FD_B h).1.1
  have loop : ∀ n k x σ τ, k ≤ N → N < k + n → FD N T B S H G ga gb P V md σ τ → ∃ r σ' τ', fX6_mixEdges_5 n x (nI k) σ = some (r, σ') ∧ fX7_digest_80 n x (nI k) τ = some (r, τ') ∧ FD N T B S H G ga gb P V md σ' τ' := by
    intro n
    induction n with
    | zero => intro k x σ τ h1 h2; omega
    | succ n ih =>
      intro k x σ τ h1 h2 h
      obtain ⟨hd, hc, hm⟩ := FD_B h
      rw [fX6_mixEdges_5, fX7_digest_80, hc.1, hm.1]
      by_cases q : N ≤ k
      · rw [if_pos (nI_le q (by omega)), if_pos (nI_le q (by omega))]
        exact ⟨x, σ, τ, rfl, rfl, h⟩
      · have c : ¬ nI N ≤ nI k := nI_ge (by omega) (by omega)
        obtain ⟨r1, σ1, τ1, a1, b1, e1⟩ := dg_seen (i := k) (by omega) x h
        obtain ⟨r2, σ2, τ2, a2, b2, e2⟩ := stampBoth (i := k) (w := 0) e1 (by omega) (by decide)
        obtain ⟨r3, σ3, τ3, a3, b3, e3⟩ := stampBoth (i := k) (w := 1) e2 (by omega) (by decide)
        simp only [zv, zy1, zy2, zy3, if_neg c, a1, a2, a3, fX7_edgeDigest, b1, b2, b3, fX6_mix, nI_1]
        exact ih (k + 1) _ _ _ (by omega) (by omega) e3
  obtain ⟨r, σ', τ', g1, g2, g3⟩ := loop 500 0 x σ τ (by omega) (by omega) h
  rw [nI_0] at g1 g2
  refine ⟨r, σ', τ', ?_, g2, g3⟩
  unfold fX6_mixEdges
  simp only [zv, zy1, zy2, zy3, g1]
theorem dg_gates {N : Nat} {T : Nat → Nat} {B : Nat} {S H : Nat → Nat} {G : Nat} {ga gb : Nat → Nat} {P V md : Nat} (x : Int64) {σ τ : zS} (h : FD N T B S H G ga gb P V md σ τ) : ∃ r σ' τ', fX6_mixGates x σ = some (r, σ') ∧ fX7_digest_127 500 x 0 τ = some (r, τ') ∧ FD N T B S H G ga gb P V md σ' τ' := by
  have hG := (FD_B h).1.2.2.2.2.2.2.2.2.2.1
  have loop : ∀ n k x σ τ, k ≤ G → G < k + n → FD N T B S H G ga gb P V md σ τ → ∃ r σ' τ', fX6_mixGates_5 n x (nI k) σ = some (r, σ') ∧ fX7_digest_127 n x (nI k) τ = some (r, τ') ∧ FD N T B S H G ga gb P V md σ' τ' := by
    intro n
    induction n with
    | zero => intro k x σ τ h1 h2; omega
    | succ n ih =>
      intro k x σ τ h1 h2 h
      obtain ⟨hd, hc, hm⟩ := FD_B h
      have k2 : zi τ 4 = nI G := h.1.2.2.2.2.1.2.1
      rw [fX6_mixGates_5, fX7_digest_127, hc.2.2.2.2.2.2.1, k2]
      by_cases q : G ≤ k
      · rw [if_pos (nI_le q (by omega)), if_pos (nI_le q (by omega))]
        exact ⟨x, σ, τ, rfl, rfl, h⟩
      · have c : ¬ nI G ≤ nI k := nI_ge (by omega) (by omega)
        obtain ⟨r1, σ1, τ1, a1, b1, e1⟩ := dg_where (i := k) (by omega) x h
        obtain ⟨r2, σ2, τ2, a2, b2, e2⟩ := dg_freq (i := k) (by omega) r1 e1
        obtain ⟨r3, σ3, a3, b3, e3⟩ := closingBoth (v := nI k) e2 (zw_e (by omega) (by omega))
        simp only [zv, zy1, zy2, zy3, if_neg c, a1, a2, a3, fX7_gateDigest, b1, b2, b3, fX6_mix, nI_1]
        exact ih (k + 1) _ _ _ (by omega) (by omega) e3
  obtain ⟨r, σ', τ', g1, g2, g3⟩ := loop 500 0 x σ τ (by omega) (by omega) h
  rw [nI_0] at g1 g2
  refine ⟨r, σ', τ', ?_, g2, g3⟩
  unfold fX6_mixGates
  simp only [zv, zy1, zy2, zy3, g1]
theorem dg_bins {N : Nat} {T : Nat → Nat} {B : Nat} {S H : Nat → Nat} {G : Nat} {ga gb : Nat → Nat} {P V md : Nat} (x : Int64) {σ τ : zS} (h : FD N T B S H G ga gb P V md σ τ) : ∃ r, fX6_mixBins x σ = some r ∧ fX7_digest_45 τ 500 x 0 = some r := by
  have h2 := h.1.2.1
  have h3 := h.1.2.2.1
  have hB := h2.2.2.1
  have bl : ∀ b, b < B → ∀ n k x, k ≤ 3 → 3 < k + n → ∃ r, fX6_mixBins_20 (nI b) σ n x (nI k) = some r ∧ fX7_binDigest_6 (nI b) τ n x (nI k) = some r := by
    intro b hb n
    induction n with
    | zero => intro k x h1 h2; omega
    | succ n ih =>
      intro k x q1 q2
      rw [fX6_mixBins_20, fX7_binDigest_6]
      by_cases q : k = 3
      · have c1 : (2 : Int32) < nI k := by rw [q]; decide
        have c2 : (3 : Int32) ≤ nI k := by rw [q]; decide
        rw [if_pos c1, if_pos c2]
        exact ⟨x, rfl, rfl⟩
      · have c1 : ¬ (2 : Int32) < nI k := nI_nlt (b := k) (a := 2) (by omega) (by decide)
        have c2 : ¬ (3 : Int32) ≤ nI k := nI_ge (b := 3) (by omega) (by decide)
        obtain ⟨r, g1, g2⟩ := binBoth h2 h3 hb (nI k) (zw_1 0 2 k (by omega) (by omega) (by decide))
        simp only [zv, zy1, zy2, zy3, if_neg c1, if_neg c2, g1, g2, fX6_mix, nI_1]
        exact ih (k + 1) _ (by omega) (by omega)
  have loop : ∀ n k x, k ≤ B → B < k + n → ∃ r, fX6_mixBins_5 σ n x (nI k) = some r ∧ fX7_digest_45 τ n x (nI k) = some r := by
    intro n
    induction n with
    | zero => intro k x h1 h2; omega
    | succ n ih =>
      intro k x q1 q2
      rw [fX6_mixBins_5, fX7_digest_45, h2.1, M_bins h2]
      simp only [zv, zy1, zy2, zy3]
      by_cases q : B ≤ k
      · rw [if_pos (nI_le q (by omega)), if_pos (nI_le q (by omega))]
        exact ⟨x, rfl, rfl⟩
      · have c : ¬ nI B ≤ nI k := nI_ge (by omega) (by omega)
        obtain ⟨r1, a1, b1⟩ := bl k (by omega) 500 0 x (by omega) (by omega)
        rw [nI_0] at a1 b1
        obtain ⟨r2, a2, b2⟩ := denseBoth h2 h3 (show k < B by omega) 0 (by decide)
        obtain ⟨r3, a3, b3⟩ := denseBoth h2 h3 (show k < B by omega) 1 (by decide)
        simp only [zv, zy1, zy2, zy3, if_neg c, a1, a2, a3, fX7_binDigest, b1, b2, b3, fX6_mix, nI_1]
        exact ih (k + 1) _ (by omega) (by omega)
  obtain ⟨r, g1, g2⟩ := loop 500 0 x (by omega) (by omega)
  rw [nI_0] at g1 g2
  refine ⟨r, ?_, g2⟩
  unfold fX6_mixBins
  simp only [zv, zy1, zy2, zy3, g1]
/-- the chains, the line, and the gain -/
theorem dg_line {N : Nat} {T : Nat → Nat} {B : Nat} {S H : Nat → Nat} {G : Nat} {ga gb : Nat → Nat} {P V md : Nat} (x : Int64) {σ τ : zS} (h : FD N T B S H G ga gb P V md σ τ) : ∃ r x1 σ1 σ' τ' y0 y1, fX6_mixChains x σ = some (x1, σ1) ∧ (∃ x2, fX6_mixFit x1 σ1 = some (x2, σ') ∧ fX6_gain 5 0 σ' = some y0 ∧ fX6_gain 5 1 σ' = some y1 ∧ 31 * (31 * x2 + y0) + y1 = r) ∧ fX7_chainDigest x τ = some (r, τ') ∧ FD N T B S H G ga gb P V md σ' τ' := by
  obtain ⟨r1, σ1, τ1, a1, b1, e1⟩ := chainBoth (g := 3) (v2 := 0) (v3 := 3) h (by decide) (by decide)
  obtain ⟨r2, σ2, τ2, a2, b2, e2⟩ := chainBoth (g := 3) (v2 := 0) (v3 := 4) e1 (by decide) (by decide)
  obtain ⟨r3, σ3, τ3, a3, b3, e3⟩ := dg_chain (31 * (31 * x + r1.toInt64) + r2.toInt64) e2
  obtain ⟨hd, hc, hm⟩ := FD_B e3
  have hN := hd.1
  have cX : fX6_mixChains x σ = some (r3, σ3) := by
    unfold fX6_mixChains
    simp only [zv, zy1, zy2, zy3, a1, a2, a3, fX6_mix]
  have k5 := hc.1
  have k0 := hm.1
  by_cases c : 2 ≤ N
  · have c1 : 2 ≤ nI N := nI_le (a := 2) c (by omega)
    have c2 : ¬ nI N ≤ 1 := nI_ge (a := 1) (by omega) (by omega)
    have e1' : nI N - 1 = nI (N - 1) := nI_sub (a := N) (b := 1) (by omega)
    have hpr : ∀ {σ τ : zS}, FD N T B S H G ga gb P V md σ τ → fX6_isEdgePair (nI 0) (nI (N - 1)) σ = some 1 := by
      intro σ τ hh
      obtain ⟨_, hc', hm'⟩ := FD_B hh
      rcases pairX hN hc'.1 hm'.1 (nI 0) (nI (N - 1)) with ⟨z1, z2⟩ | ⟨a, b, _, _, _, _, z1, _⟩
      · exfalso
        unfold fX7_isFit at z2
        rw [hm'.1, if_neg (nI_pos (by omega)), if_neg (nI_ge (by omega) (by omega)), if_neg (nI_ge (by omega) (by omega))] at z2
        exact absurd z2 (by decide)
      · exact z1
    obtain ⟨r4, σ4, τ4, a4, b4, e4⟩ := fitBoth (w := 0) e3 (show 0 < N - 1 by omega) (by omega) (hpr e3) (by decide)
    obtain ⟨r5, σ5, τ5, a5, b5, e5⟩ := fitBoth (w := 1) e4 (show 0 < N - 1 by omega) (by omega) (hpr e4) (by decide)
    obtain ⟨r6, σ6, τ6, a6, b6, e6⟩ := offBoth e5 (show 0 < N - 1 by omega) (by omega) (hpr e5)
    rw [nI_0] at a4 b4 a5 b5 a6 b6
    have k4 := (FD_B e4).2.2.1
    have k5' := (FD_B e5).2.2.1
    obtain ⟨y0, u0, v0⟩ := gainBoth σ6 τ6 (m := 5) (w := 0) (by decide) (by decide)
    obtain ⟨y1, u1, v1⟩ := gainBoth σ6 τ6 (m := 5) (w := 1) (by decide) (by decide)
    refine ⟨_, r3, σ3, σ6, τ6, y0, y1, cX, ⟨31 * (31 * (31 * r3 + r4) + r5) + r6.toInt64, ?_, u0, u1, rfl⟩, ?_, e6⟩
    · unfold fX6_mixFit
      rw [k5, if_pos c1, e1']
      simp only [zv, zy1, zy2, zy3, a4, a5, a6, fX6_mix]
    · unfold fX7_chainDigest
      simp only [zv, zy1, zy2, zy3, b1, b2, b3, k0, if_neg c2, e1', b4, k4, b5, k5', b6, v0, v1]
  · have c1 : ¬ 2 ≤ nI N := nI_ge (b := 2) (by omega) (by decide)
    have c2 : nI N ≤ 1 := nI_le (b := 1) (by omega) (by decide)
    obtain ⟨y0, u0, v0⟩ := gainBoth σ3 τ3 (m := 5) (w := 0) (by decide) (by decide)
    obtain ⟨y1, u1, v1⟩ := gainBoth σ3 τ3 (m := 5) (w := 1) (by decide) (by decide)
    refine ⟨_, r3, σ3, σ3, τ3, y0, y1, cX, ⟨r3, ?_, u0, u1, rfl⟩, ?_, e3⟩
    · unfold fX6_mixFit
      rw [k5, if_neg c1]
    · unfold fX7_chainDigest
      simp only [zv, zy1, zy2, zy3, b1, b2, b3, k0, if_pos c2, v0, v1]

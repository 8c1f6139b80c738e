theorem X_locate {N : Nat} {T : Nat → Nat} {B : Nat} {S H : Nat → Nat} {G : Nat} {ga gb : Nat → Nat} {P V md : Nat} {σ : zS} (hd : DB N T B S H G ga gb P V) (hc : CB N T B S H G ga gb P V md σ) : ∃ σ', fX1_locate σ = some σ' ∧ Fr [] [] [6, 7] [] σ σ' ∧ ∀ g, g < G → za σ' 6 g = dOp N T (ga g) ∧ za σ' 7 g = dCl N T (ga g) (gb g) := by
  obtain ⟨hN, hT, hTm, hB, hB2, hS0, hS, hSm, hH, hG, hg, hP, hV⟩ := hd
  have loop : ∀ n j ρ, j ≤ G → G < j + n → Fr [] [] [6, 7] [] σ ρ → (∀ g, g < j → za ρ 6 g = dOp N T (ga g) ∧ za ρ 7 g = dCl N T (ga g) (gb g)) → ∃ σ', fX1_locate_2 n (nI j) ρ = some σ' ∧ Fr [] [] [6, 7] [] σ σ' ∧ ∀ g, g < G → za σ' 6 g = dOp N T (ga g) ∧ za σ' 7 g = dCl N T (ga g) (gb g) := by
    intro n
    induction n with
    | zero => intro j ρ h1 h2; omega
    | succ n ih =>
      intro j ρ h1 h2 fr hi
      obtain ⟨c1, c2, c3, c4, c5, c6, c7, c8, c9, c10, c11⟩ := CB_Fr hc fr (by decide) (by decide)
      rw [fX1_locate_2, c7]
      by_cases q : G ≤ j
      · rw [if_pos (nI_le q (by omega))]
        exact ⟨ρ, rfl, fr, fun i hi' => hi i (by omega)⟩
      · have hcl : (nI j).toNatClampNeg = j := nI_clamp (by omega)
        have hT' : ∀ k, k < N → za ρ 1 k = nI (T k) ∧ T k < 6000 := fun k hk => ⟨c2 k hk, hT k hk⟩
        obtain ⟨g1, g2⟩ := hg j (by omega)
        have k5 : ∀ v, zi (wa ρ 6 j v) 5 = nI N := fun v => c1
        have l1 := plc_le T (ga j) N
        have l2 := plc_le T (gb j) N
        have e1 : (if nI N ≤ nI (plc T (ga j) N) then (some (-1 : Int32)) else some (nI (plc T (ga j) N))) = some (dOp N T (ga j)) := by
          unfold dOp
          by_cases z : plc T (ga j) N < N
          · rw [if_pos z, if_neg (nI_ge z (by omega))]
          · rw [if_neg z, if_pos (nI_le (by omega) (by omega))]
        have e2 : (if nI N ≤ nI (plc T (gb j) N) then (some (-1 : Int32)) else if nI (plc T (gb j) N) ≤ nI (plc T (ga j) N) then (some (-1 : Int32)) else some (nI (plc T (gb j) N))) = some (dCl N T (ga j) (gb j)) := by
          unfold dCl
          by_cases z : plc T (gb j) N < N
          · rw [if_neg (nI_ge z (by omega))]
            by_cases y : plc T (ga j) N < plc T (gb j) N
            · rw [if_neg (nI_ge y (by omega)), if_pos ⟨z, y⟩]
            · rw [if_pos (nI_le (by omega) (by omega)), if_neg (by omega)]
          · rw [if_pos (nI_le (by omega) (by omega)), if_neg (by omega)]
        simp only [zv, zy1, zy2, zy3, if_neg (nI_ge (show j < G by omega) (show G < 2 ^ 31 by omega)), zgq (show j < 8 by omega), hcl, (c8 j (by omega)).1, (c8 j (by omega)).2, X_first c1 hN hT' (show ga j < 6000 by omega), X_first c1 hN hT' g2, c1, e1, k5, e2, nI_1]
        refine ih (j + 1) _ (by omega) (by omega) (Fr_wa (Fr_wa fr (by decide)) (by decide)) (fun i hi' => ?_)
        show upd (za ρ 6) j _ i = _ ∧ upd (za ρ 7) j _ i = _
        by_cases z : i = j
        · rw [z, upd_s, upd_s]; exact ⟨rfl, rfl⟩
        · rw [upd_n z, upd_n z]
          exact hi i (by omega)
  obtain ⟨σ', g1, g2⟩ := loop 500 0 σ (by omega) (by omega) (Fr_r σ) (fun i hi => by omega)
  rw [nI_0] at g1
  refine ⟨σ', ?_, g2⟩
  unfold fX1_locate
  simp only [zv, zy1, zy2, zy3, g1]
-- sums of squares
theorem lN_I (n : Nat) : lN n = Int64.ofInt (n : Int) := (Int64.ofInt_eq_ofNat).symm
theorem bendI {a b c : Nat} : lN a - (2 : Int64) * lN b + lN c = Int64.ofInt ((a : Int) - 2 * (b : Int) + (c : Int)) := by
  rw [Int64.ofInt_add, Int64.ofInt_sub, Int64.ofInt_mul, ← lN_I, ← lN_I, ← lN_I]
  rfl
theorem X_squares {ρ : zS} {N m : Nat} {top : Nat → Nat} (hN : N ≤ 32) (ht : ∀ i, i < N → zj ρ 0 i = lN (top i)) {c : Nat} (hm : c + 2 * m ≤ N) : fX4_sumOfSquares (nI m) (nI c) ρ = some (Int64.ofInt (zsumI (fun i => dBend top m i * dBend top m i) c)) := by
  have loop : ∀ n j, j ≤ c → c < j + n → fX4_sumOfSquares_5 (nI m) (nI c) ρ n (Int64.ofInt (zsumI (fun i => dBend top m i * dBend top m i) j)) (nI j) = some (Int64.ofInt (zsumI (fun i => dBend top m i * dBend top m i) c)) := by
    intro n
    induction n with
    | zero => intro j h1 h2; omega
    | succ n ih =>
      intro j h1 h2
      rw [fX4_sumOfSquares_5]
      by_cases q : c ≤ j
      · rw [if_pos (nI_le q (by omega)), show j = c by omega]
      · have e2 : nI j + 2 * nI m = nI (j + 2 * m) := by
          show nI j + nI 2 * nI m = _
          rw [nI_mul, nI_add]
        simp only [if_neg (nI_ge (show j < c by omega) (show c < 2 ^ 31 by omega)), e2, nI_add, zv, zgq (show j + 2 * m < 32 by omega), zgq (show j + m < 32 by omega), zgq (show j < 32 by omega), nI_clamp (show j + 2 * m < 2 ^ 31 by omega), nI_clamp (show j + m < 2 ^ 31 by omega), nI_clamp (show j < 2 ^ 31 by omega), ht (j + 2 * m) (by omega), ht (j + m) (by omega), ht j (by omega), bendI, ← Int64.ofInt_mul, ← Int64.ofInt_add, nI_1]
        exact ih (j + 1) (by omega) (by omega)
  have e := loop 500 0 (by omega) (by omega)
  rw [nI_0] at e
  have z : Int64.ofInt (zsumI (fun i => dBend top m i * dBend top m i) 0) = 0 := show Int64.ofInt 0 = 0 by decide
  rw [z] at e
  unfold fX4_sumOfSquares
  simp only [zv, zy1, zy2, zy3, e]
theorem sqI {x : Int} {M : Nat} (h1 : -(M : Int) ≤ x) (h2 : x ≤ M) : 0 ≤ x * x ∧ x * x ≤ ((M * M : Nat) : Int) := by
  have e : ((x.natAbs * x.natAbs : Nat) : Int) = x * x := Int.natAbs_mul_self
  have h : x.natAbs ≤ M := by omega
  have := Nat.mul_le_mul h h
  omega
theorem sumI {f : Nat → Int} {M : Nat} : ∀ n, (∀ i, i < n → 0 ≤ f i ∧ f i ≤ (M : Int)) → 0 ≤ zsumI f n ∧ zsumI f n ≤ ((M * n : Nat) : Int) := by
  intro n
  induction n with
  | zero => intro h; exact ⟨Int.le_refl _, by show (0 : Int) ≤ _; omega⟩
  | succ n ih =>
    intro h
    obtain ⟨a1, a2⟩ := ih (fun i hi => h i (by omega))
    obtain ⟨b1, b2⟩ := h n (by omega)
    show 0 ≤ zsumI f n + f n ∧ zsumI f n + f n ≤ _
    rw [Nat.mul_succ]
    omega
theorem dSq_b {top : Nat → Nat} {N m : Nat} (hN : N ≤ 32) (hb : ∀ i, i < N → top i ≤ 2400000) (h2 : 2 * m ≤ N) (h1 : 1 ≤ m) : 0 ≤ dSq top N m ∧ dSq top N m ≤ 691200000000000 := by
  have h := sumI (f := fun i => dBend top m i * dBend top m i) (M := 4800000 * 4800000) (N - 2 * m) (fun i hi => by
    have a1 := hb (i + 2 * m) (by omega)
    have a2 := hb (i + m) (by omega)
    have a3 := hb i (by omega)
    exact sqI (x := dBend top m i) (M := 4800000) (by unfold dBend; omega) (by unfold dBend; omega))
  refine ⟨h.1, Int.le_trans h.2 ?_⟩
  have : 4800000 * 4800000 * (N - 2 * m) ≤ 4800000 * 4800000 * 30 := Nat.mul_le_mul_left _ (by omega)
  omega
theorem dWt_b {N m : Nat} (hN : N ≤ 32) (hm : m ≤ 15) (h1 : 1 ≤ m) (h2 : 2 * m < N) : 1 ≤ dWt N m ∧ dWt N m ≤ 6750 := by
  unfold dWt
  have a := Nat.mul_le_mul hm hm
  have b := Nat.mul_le_mul a (show N - 2 * m ≤ 30 by omega)
  have c : 1 * 1 * 1 ≤ m * m * (N - 2 * m) := Nat.mul_le_mul (Nat.mul_le_mul h1 h1) (by omega)
  omega
theorem mulI {x : Int} {w : Nat} (h0 : 0 ≤ x) (h1 : x ≤ 691200000000000) (hw : w ≤ 6750) : 0 ≤ x * (w : Int) ∧ x * (w : Int) < 2 ^ 63 := by
  refine ⟨Int.mul_nonneg h0 (by omega), ?_⟩
  have : x * (w : Int) ≤ 691200000000000 * 6750 := Int.mul_le_mul h1 (by omega) (by omega) (by omega)
  omega
theorem ofI_le {a b : Int} (h1 : 0 ≤ a) (h2 : a < 2 ^ 63) (h3 : 0 ≤ b) (h4 : b < 2 ^ 63) : Int64.ofInt a ≤ Int64.ofInt b ↔ a ≤ b := by
  rw [Int64.le_iff_toInt_le, Int64.toInt_ofInt_of_le (by omega) h2, Int64.toInt_ofInt_of_le (by omega) h4]
theorem crossI {s t : Int} {v w : Nat} (h1 : 0 ≤ s) (h2 : s ≤ 691200000000000) (h3 : 0 ≤ t) (h4 : t ≤ 691200000000000) (hv : v ≤ 6750) (hw : w ≤ 6750) : Int64.ofInt s * lN v ≤ Int64.ofInt t * lN w ↔ s * (v : Int) ≤ t * (w : Int) := by
  rw [lN_I, lN_I, ← Int64.ofInt_mul, ← Int64.ofInt_mul]
  obtain ⟨a1, a2⟩ := mulI h1 h2 hv
  obtain ⟨b1, b2⟩ := mulI h3 h4 hw
  exact ofI_le a1 a2 b1 b2
theorem X_steady {ρ : zS} {N m q : Nat} {top : Nat → Nat} (hN : N ≤ 32) (hb : ∀ i, i < N → top i ≤ 2400000) (hm : 1 ≤ m ∧ m ≤ 15 ∧ 2 * m < N) (hq : 1 ≤ q ∧ q ≤ 15 ∧ 2 * q < N) (zm : zj ρ 2 m = Int64.ofInt (dSq top N m) ∧ zj ρ 3 m = lN (dWt N m)) (zq' : zj ρ 2 q = Int64.ofInt (dSq top N q) ∧ zj ρ 3 q = lN (dWt N q)) : fX4_isSteadier (nI m) (nI q) ρ = some (@ite _ (dStd top N m q) (Classical.propDecidable _) 1 0) := by
  unfold fX4_isSteadier
  rw [zgq (show m < 16 by omega), zgq (show q < 16 by omega), zgq (show q < 16 by omega), zgq (show m < 16 by omega), nI_clamp (by omega), nI_clamp (by omega), zm.1, zm.2, zq'.1, zq'.2]
  have s1 := dSq_b (m := m) hN hb (by omega) hm.1
  have s2 := dSq_b (m := q) hN hb (by omega) hq.1
  have w1 := dWt_b hN hm.2.1 hm.1 hm.2.2
  have w2 := dWt_b hN hq.2.1 hq.1 hq.2.2
  have c := crossI (v := dWt N m) (w := dWt N q) s2.1 s2.2 s1.1 s1.2 w1.2 w2.2
  by_cases z : dStd top N m q
  · rw [if_pos z, if_neg (fun y => by have := c.mp y; unfold dStd at z; omega)]
  · rw [if_neg z, if_pos (c.mpr (by unfold dStd at z; omega))]
theorem posR_le (top : Nat → Nat) (N : Nat) (g : Nat → Nat) (m : Nat) : ∀ n, posR top N g m n ≤ n := by
  intro n
  induction n with
  | zero => exact Nat.le_refl _
  | succ n ih => unfold posR; split <;> omega
theorem rks_b {top : Nat → Nat} {N : Nat} : ∀ n k, k < n → 1 ≤ rks top N n k ∧ rks top N n k ≤ n := by
  intro n
  induction n with
  | zero => intro k hk; omega
  | succ n ih =>
    intro k hk
    show 1 ≤ insK (rks top N n) (n + 1) (posR top N (rks top N n) (n + 1) n) k ∧ insK (rks top N n) (n + 1) (posR top N (rks top N n) (n + 1) n) k ≤ n + 1
    have hp := posR_le top N (rks top N n) (n + 1) n
    unfold insK
    split
    · have := ih k (by omega); omega
    · split
      · omega
      · have := ih (k - 1) (by omega); omega
theorem rnkL {N m : Nat} {top g : Nat → Nat} (hN : N ≤ 32) (hb : ∀ i, i < N → top i ≤ 2400000) (hm : 1 ≤ m ∧ m ≤ 15 ∧ 2 * m < N) : ∀ n f ρ, n ≤ 14 → n < f → (∀ q, 1 ≤ q → q ≤ m → zj ρ 2 q = Int64.ofInt (dSq top N q) ∧ zj ρ 3 q = lN (dWt N q)) → (∀ k, k < n → za ρ 11 k = nI (g k) ∧ 1 ≤ g k ∧ g k ≤ m) → ∃ ρ', fX4_placeByRank_4 (nI m) f (nI n) ρ = some (nI (posR top N g m n), ρ') ∧ Fr [] [] [11] [] ρ ρ' ∧ (∀ k, k < posR top N g m n ∨ n < k → za ρ' 11 k = za ρ 11 k) ∧ (∀ k, posR top N g m n < k → k ≤ n → za ρ' 11 k = nI (g (k - 1))) := by
  intro n
  induction n with
  | zero =>
    intro f ρ h1 h2 hz h3
    obtain ⟨f, rfl⟩ : ∃ m', f = m' + 1 := ⟨f - 1, by omega⟩
    refine ⟨ρ, ?_, Fr_r ρ, fun _ _ => rfl, fun k q1 q2 => by omega⟩
    rw [fX4_placeByRank_4, nI_0, if_pos (by decide)]
    rfl
  | succ n ih =>
    intro f ρ h1 h2 hz h3
    obtain ⟨f, rfl⟩ : ∃ m', f = m' + 1 := ⟨f - 1, by omega⟩
    rw [fX4_placeByRank_4]
    have n0 : ¬ nI (n + 1) ≤ 0 := nI_nle (by omega) (by omega)
    have e1 : nI (n + 1) - 1 = nI n := nI_pred n
    have e2 : nI (n + 1) + (-1) = nI n := nI_dec (a := n + 1) (by omega)
    have c1 : (nI n).toNatClampNeg = n := nI_clamp (by omega)
    have c2 : (nI (n + 1)).toNatClampNeg = n + 1 := nI_clamp (by omega)
    obtain ⟨g1, g2, g3⟩ := h3 n (by omega)
    have st := X_steady (ρ := ρ) (m := m) (q := g n) hN hb hm ⟨g2, by omega, by omega⟩ (hz m hm.1 (Nat.le_refl m)) (hz (g n) g2 g3)
    rw [if_neg n0, e1, zgq (show n < 15 by omega), c1, g1, st]
    unfold posR
    by_cases q : dStd top N m (g n)
    · simp only [zv, zy1, zy2, zy3, if_pos q, if_neg one_ne, zgq (show n < 15 by omega), zgq (show n + 1 < 15 by omega), c2, g1, e2]
      have w : ∀ k, k ≠ n + 1 → za (wa ρ 11 (n + 1) (nI (g n))) 11 k = za ρ 11 k := fun k hk => upd_n hk
      obtain ⟨ρ', r1, r2, r3, r4⟩ := ih f (wa ρ 11 (n + 1) (nI (g n))) (by omega) (by omega) hz (fun k hk => by rw [w k (by omega)]; exact h3 k (by omega))
      have hp := posR_le top N g m n
      refine ⟨ρ', r1, Fr_t (Fr_wa (Fr_r ρ) (by decide)) r2, fun k hk => ?_, fun k q1 q2 => ?_⟩
      · rw [r3 k (by omega), w k (by omega)]
      · by_cases z : k = n + 1
        · subst z
          rw [r3 (n + 1) (by omega)]
          exact upd_s _ _ _
        · exact r4 k q1 (by omega)
    · simp only [zv, zy1, zy2, zy3, if_neg q, if_true]
      exact ⟨ρ, rfl, Fr_r ρ, fun _ _ => rfl, fun k q1 q2 => by omega⟩
theorem X_sums {σ : zS} {N : Nat} {top : Nat → Nat} (hN : N ≤ 32) (h9 : zi σ 9 = nI N) (ht : ∀ i, i < N → zj σ 0 i = lN (top i)) (hb : ∀ i, i < N → top i ≤ 2400000) : ∃ σ', fX4_renewSums σ = some σ' ∧ Fr [13] [] [11] [2, 3] σ σ' ∧ zi σ' 13 = nI (dSp N) ∧ (∀ m, 1 ≤ m → m ≤ dSp N → zj σ' 2 m = Int64.ofInt (dSq top N m) ∧ zj σ' 3 m = lN (dWt N m)) ∧ ∀ k, k < dSp N → za σ' 11 k = nI (rks top N (dSp N) k) := by
  have hD : dSp N ≤ 15 ∧ (0 < dSp N → 2 * dSp N < N) := by
    unfold dSp
    split <;> omega
  have e13 : (if 0 < (if (zi σ 9 - 1) / 2 < 15 then (zi σ 9 - 1) / 2 else 15) then (if (zi σ 9 - 1) / 2 < 15 then (zi σ 9 - 1) / 2 else 15) else 0) = nI (dSp N) := by
    rw [h9]
    by_cases z : N = 0
    · subst z; decide
    · have e1 : nI N - 1 = nI (N - 1) := nI_sub (a := N) (b := 1) (by omega)
      have e2 : nI (N - 1) / 2 = nI ((N - 1) / 2) := nI_div (b := 2) (by omega) (by decide) (by decide)
      rw [e1, e2]
      unfold dSp
      by_cases c : (N - 1) / 2 < 15
      · have c1 : nI ((N - 1) / 2) < 15 := nI_lt (b := 15) c (by decide)
        rw [if_pos c1, if_pos c]
        by_cases y : (N - 1) / 2 = 0
        · rw [y]; decide
        · have y2 : 0 < nI ((N - 1) / 2) := nI_lt (a := 0) (b := (N - 1) / 2) (by omega) (by omega)
          rw [if_pos y2]
      · have c1 : ¬ nI ((N - 1) / 2) < 15 := nI_nlt (b := 15) (by omega) (by omega)
        rw [if_neg c1, if_neg c]
        decide
  generalize dSp N = D at hD e13
  have loop : ∀ n m ρ, 1 ≤ m → m ≤ D + 1 → D + 1 < m + n → Fr [13] [] [11] [2, 3] σ ρ → zi ρ 13 = nI D → (∀ q, 1 ≤ q → q < m → zj ρ 2 q = Int64.ofInt (dSq top N q) ∧ zj ρ 3 q = lN (dWt N q)) → (∀ k, k < m - 1 → za ρ 11 k = nI (rks top N (m - 1) k)) → ∃ σ', fX4_renewSums_23 n (nI m) ρ = some σ' ∧ Fr [13] [] [11] [2, 3] σ σ' ∧ zi σ' 13 = nI D ∧ (∀ m, 1 ≤ m → m ≤ D → zj σ' 2 m = Int64.ofInt (dSq top N m) ∧ zj σ' 3 m = lN (dWt N m)) ∧ ∀ k, k < D → za σ' 11 k = nI (rks top N D k) := by
    intro n
    induction n with
    | zero => intro m ρ h0 h1 h2; omega
    | succ n ih =>
      intro m ρ h0 h1 h2 fr h13 hq hk
      rw [fX4_renewSums_23, h13]
      by_cases q : D < m
      · rw [if_pos (nI_lt q (by omega))]
        have e : m - 1 = D := by omega
        rw [e] at hk
        exact ⟨ρ, rfl, fr, h13, fun m' a b => hq m' a (by omega), hk⟩
      · have h9' : zi ρ 9 = nI N := (fr.1 9 (by decide)).trans h9
        have ht' : ∀ i, i < N → zj ρ 0 i = lN (top i) := fun i hi => by rw [fr.2.2.2.1 0 (by decide)]; exact ht i hi
        have hm : 1 ≤ m ∧ m ≤ 15 ∧ 2 * m < N := ⟨h0, by omega, by omega⟩
        have ex : nI N - 2 * nI m = nI (N - 2 * m) := by
          show nI N - nI 2 * nI m = _
          rw [nI_mul, nI_sub (by omega)]
        have hcl : (nI m).toNatClampNeg = m := nI_clamp (by omega)
        have ew : (nI m).toInt64 * (nI m).toInt64 * (nI (N - 2 * m)).toInt64 = lN (dWt N m) := by
          rw [nI_l (by omega), nI_l (by omega), lN_mul, lN_mul]
          rfl
        have eq1 : fX4_sumOfSquares (nI m) (nI (N - 2 * m)) ρ = some (Int64.ofInt (dSq top N m)) := X_squares hN ht' (by omega)
        rw [if_neg (nI_nlt (by omega) (by omega)), h9', ex]
        simp only [zv, zy1, zy2, zy3, eq1, zgq (show m < 16 by omega), hcl, ew]
        have hz : ∀ q, 1 ≤ q → q ≤ m → zj (wj (wj ρ 2 m (Int64.ofInt (dSq top N m))) 3 m (lN (dWt N m))) 2 q = Int64.ofInt (dSq top N q) ∧ zj (wj (wj ρ 2 m (Int64.ofInt (dSq top N m))) 3 m (lN (dWt N m))) 3 q = lN (dWt N q) := by
          intro q a b
          show vp_updL (zj ρ 2) m _ q = _ ∧ vp_updL (zj ρ 3) m _ q = _
          by_cases z : q = m
          · rw [z, updL_s, updL_s]; exact ⟨rfl, rfl⟩
          · rw [updL_n z, updL_n z]
            exact hq q a (by omega)
        obtain ⟨ρ', r1, r2, r3, r4⟩ := rnkL (g := rks top N (m - 1)) hN hb hm (m - 1) 500 (wj (wj ρ 2 m (Int64.ofInt (dSq top N m))) 3 m (lN (dWt N m))) (by omega) (by omega) hz (fun k hk' => by
          have := rks_b (top := top) (N := N) (m - 1) k hk'
          exact ⟨hk k hk', this.1, by omega⟩)
        have hp := posR_le top N (rks top N (m - 1)) m (m - 1)
        have em : nI m - 1 = nI (m - 1) := nI_sub (a := m) (b := 1) h0
        have er : fX4_placeByRank (nI m) (wj (wj ρ 2 m (Int64.ofInt (dSq top N m))) 3 m (lN (dWt N m))) = some (wa ρ' 11 (posR top N (rks top N (m - 1)) m (m - 1)) (nI m)) := by
          unfold fX4_placeByRank
          rw [em]
          simp only [zv, zy1, zy2, zy3, r1, zgq (show posR top N (rks top N (m - 1)) m (m - 1) < 15 by omega), nI_clamp (show posR top N (rks top N (m - 1)) m (m - 1) < 2 ^ 31 by omega)]
        rw [er]
        simp only [zy1, nI_1]
        refine ih (m + 1) _ (by omega) (by omega) (by omega) ?_ ?_ ?_ ?_
        · exact Fr_wa (Fr_t (Fr_wj (Fr_wj fr (by decide)) (by decide)) (Fr_m r2 (by decide) (by decide) (by decide) (by decide))) (by decide)
        · exact (r2.1 13 (by decide)).trans h13
        · intro q a b
          show zj ρ' 2 q = _ ∧ zj ρ' 3 q = _
          rw [r2.2.2.2.1 2 (by decide), r2.2.2.2.1 3 (by decide)]
          exact hz q a (by omega)
        · intro k hk'
          obtain ⟨p, hp2⟩ : ∃ p, m = p + 1 := ⟨m - 1, by omega⟩
          subst hp2
          rw [Nat.add_sub_cancel] at *
          show upd (za ρ' 11) _ _ k = nI (insK (rks top N p) (p + 1) (posR top N (rks top N p) (p + 1) p) k)
          unfold insK
          by_cases y : k = posR top N (rks top N p) (p + 1) p
          · rw [if_neg (by omega), if_pos y, y, upd_s]
          · rw [upd_n y]
            by_cases y2 : k < posR top N (rks top N p) (p + 1) p
            · rw [if_pos y2, r3 k (Or.inl y2)]
              exact hk k (by omega)
            · rw [if_neg y2, if_neg y, r4 k (by omega) (by omega)]
  obtain ⟨σ', g1, g2⟩ := loop 500 1 (wi σ 13 (nI D)) (by omega) (by omega) (by omega) (Fr_wi (Fr_r σ) (by decide)) rfl (fun q a b => by omega) (fun k hk => by omega)
  refine ⟨σ', ?_, g2⟩
  have n1 : nI 1 = 1 := by decide
  rw [n1] at g1
  unfold fX4_renewSums
  rw [e13]
  simp only [zv, zy1, zy2, zy3, g1]

theorem modeV_le (n : Int32) (f : Nat → Int32) : modeV n f ≤ 2 := by
  unfold modeV
  split
  · omega
  · split <;> omega
theorem RelDB {N : Nat} {T : Nat → Nat} {B : Nat} {S H : Nat → Nat} {G : Nat} {ga gb : Nat → Nat} {P V : Nat} {σ τ : zS} (h : RelD N T B S H G ga gb P V σ τ) : DB N T B S H G ga gb P V ∧ CB N T B S H G ga gb P V (modeV (zi σ 0) (za σ 0)) σ := by
  obtain ⟨h1, h2, h3, h4, h5, h6, h7, h8, h9⟩ := h
  obtain ⟨k, hk, h0⟩ := h4.2.1
  exact ⟨⟨h1.2.2.1, fun k hk => (h1.2.2.2.1 k hk).2.2, h1.2.2.2.2, h2.2.1, h2.2.2.1, h2.2.2.2.1, fun k hk => (h2.2.2.2.2.1 k hk).2.2, h2.2.2.2.2.2.2.1, h3.2.1, h5.2.2.1, fun k hk => ⟨(h5.2.2.2 k hk).2.2.2.2.1, (h5.2.2.2 k hk).2.2.2.2.2⟩, h6.2.2.1, h6.2.2.2.2.2⟩, h1.1, fun k hk => (h1.2.2.2.1 k hk).1, h2.1, fun k hk => (h2.2.2.2.2.1 k hk).1, h3.1, fun k hk => (h3.2.2 k hk).1, h5.1, fun k hk => ⟨(h5.2.2.2 k hk).1, (h5.2.2.2 k hk).2.2.1⟩, h6.1, h6.2.2.2.1, X_mode h0 hk⟩
theorem DBtop {N : Nat} {T : Nat → Nat} {B : Nat} {S H : Nat → Nat} {G : Nat} {ga gb : Nat → Nat} {P V tk : Nat} (hd : DB N T B S H G ga gb P V) (hs : dSc tk (zsum H 12) B ≤ 400) : (∀ i, i < N → dTop tk (dSc tk (zsum H 12) B) B S H T i ≤ 2400000) ∧ ∀ i j, i ≤ j → j < N → dTop tk (dSc tk (zsum H 12) B) B S H T i ≤ dTop tk (dSc tk (zsum H 12) B) B S H T j := by
  obtain ⟨hN, hT, hTm, hB, hB2, hS0, hS, hSm, hH, hG, hg, hP, hV⟩ := hd
  refine ⟨fun i hi => top_lt hB hB2 hS0 hS hSm rfl hs (hT i hi), fun i j h1 h2 => top_mono hB hB2 hS0 hS hSm rfl ?_⟩
  by_cases z : i = j
  · rw [z]; exact Nat.le_refl _
  · exact Nat.le_of_lt (hTm i j (by omega) h2)
theorem nmem {L : List Nat} {k : Nat} (b : Nat) (h : ∀ x, x ∈ L → x < b) (hk : b ≤ k) : k ∉ L := fun z => by have := h k z; omega
/-- the class derives what is due -/
theorem X_renew {N : Nat} {T : Nat → Nat} {B : Nat} {S H : Nat → Nat} {G : Nat} {ga gb : Nat → Nat} {P V : Nat} {σ τ : zS} (h : RelD N T B S H G ga gb P V σ τ) : ∃ σ', fX6_renew σ = some σ' ∧ RelD N T B S H G ga gb P V σ' τ ∧ zi σ' 4 = 0 ∧ RDok N B T S H G ga gb P V (modeV (zi σ 0) (za σ 0)) (zi σ' 9) (zi σ' 10) (zi σ' 11) (zi σ' 12) (zi σ' 13) (zl σ' 0) (za σ' 6) (za σ' 7) (za σ' 8) (za σ' 9) (za σ' 10) (za σ' 11) (zj σ' 0) (zj σ' 2) (zj σ' 3) := by
  obtain ⟨hd, hc⟩ := RelDB h
  have hmd := modeV_le (zi σ 0) (za σ 0)
  have hh := h
  obtain ⟨h1, h2, h3, h4, h5, h6, h7, h8, h9⟩ := hh
  unfold fX6_renew
  rcases h9 with h9 | ⟨h9, h10⟩
  · have n0 : ¬ zi σ 4 = 0 := by rw [h9]; decide
    rw [if_neg n0]
    have f0 : Fr [4, 9, 10, 11, 12, 13] [0] [6, 7, 8, 9, 10, 11] [0, 1, 2, 3] σ (wi σ 4 0) := Fr_wi (Fr_r σ) (by decide)
    have c0 := CB_Fr hc f0 (by decide) (by decide)
    have hmo := c0.2.2.2.2.2.2.2.2.2.2
    generalize hmdv : modeV (zi σ 0) (za σ 0) = md at hmd hc c0 hmo
    have hs := sc_le (md := md) hd.2.2.2.1 hd.2.2.2.2.1 hd.2.2.2.2.2.2.2.2.1
    obtain ⟨tb, tm⟩ := DBtop (tk := dTk md (zsum H 12)) hd hs
    obtain ⟨s1, p1, f1, q1, q2, q3⟩ := X_stamps hd c0 hmd
    have f1' := Fr_t f0 (Fr_m f1 (by decide) (by decide) (by decide) (by decide))
    have c1 := CB_Fr hc f1' (by decide) (by decide)
    obtain ⟨s2, p2, f2, q4, q5, q6, q7, q8⟩ := X_places (σ := s1) (V := V) hd.1 hd.2.2.2.2.2.2.2.2.2.2.2.1 hd.2.2.2.2.2.2.2.2.2.2.2.2 hs q1 q2 q3 tb (fun i hi => tm i (i + 1) (by omega) hi)
    have f2' := Fr_t f1' (Fr_m f2 (by decide) (by decide) (by decide) (by decide))
    have c2 := CB_Fr hc f2' (by decide) (by decide)
    obtain ⟨s3, p3, f3, q9⟩ := X_locate hd c2
    have f3' := Fr_t f2' (Fr_m f3 (by decide) (by decide) (by decide) (by decide))
    have z9 : zi s3 9 = nI N := (f3.1 9 (by decide)).trans ((f2.1 9 (by decide)).trans q1)
    have zj0 : ∀ i, i < N → zj s3 0 i = lN (dTop (dTk md (zsum H 12)) (dSc (dTk md (zsum H 12)) (zsum H 12) B) B S H T i) := by
      intro i hi
      rw [f3.2.2.2.1 0 (by decide), f2.2.2.2.1 0 (by decide)]
      exact q3 i hi
    obtain ⟨s4, p4, f4, q10, q11, q12⟩ := X_sums (σ := s3) hd.1 z9 zj0 tb
    have f4' := Fr_t f3' (Fr_m f4 (by decide) (by decide) (by decide) (by decide))
    have z4 : zi s4 4 = 0 := (f4.1 4 (by decide)).trans ((f3.1 4 (by decide)).trans ((f2.1 4 (by decide)).trans ((f1.1 4 (by decide)).trans rfl)))
    have ok : RDok N B T S H G ga gb P V md (zi s4 9) (zi s4 10) (zi s4 11) (zi s4 12) (zi s4 13) (zl s4 0) (za s4 6) (za s4 7) (za s4 8) (za s4 9) (za s4 10) (za s4 11) (zj s4 0) (zj s4 2) (zj s4 3) := by
      rw [f4.1 9 (by decide), f4.1 10 (by decide), f4.1 11 (by decide), f4.1 12 (by decide), f4.2.1 0 (by decide), f4.2.2.1 6 (by decide), f4.2.2.1 7 (by decide), f4.2.2.1 8 (by decide), f4.2.2.1 9 (by decide), f4.2.2.1 10 (by decide), f4.2.2.2.1 0 (by decide)]
      refine ⟨z9, ?_, zj0, ?_, ?_, ?_, ?_, ?_, q9, q10, q11, q12⟩
      · rw [f3.1 10 (by decide), f2.1 10 (by decide)]; exact q2
      · rw [f3.2.1 0 (by decide)]; exact q4
      · rw [f3.2.2.1 10 (by decide)]; exact q5
      · rw [f3.2.2.1 8 (by decide), f3.2.2.1 9 (by decide)]; exact q6
      · rw [f3.1 11 (by decide)]; exact q7
      · rw [f3.1 12 (by decide)]; exact q8
    have e0 : zi s4 0 = zi σ 0 := f4'.1 0 (by decide)
    have a0 : za s4 0 = za σ 0 := f4'.2.2.1 0 (by decide)
    refine ⟨s4, ?_, ⟨?_, ?_, ?_, ?_, ?_, ?_, ?_, ?_, ?_⟩, z4, ok⟩
    · have u1 : zi s1 1 = nI P := c1.2.2.2.2.2.2.2.2.1
      have u2 : zi s1 2 = nI V := c1.2.2.2.2.2.2.2.2.2.1
      simp only [zv, zy1, zy2, zy3, hmo, p1, u1, u2, p2, p3, p4]
    · rw [f4'.1 5 (by decide), f4'.2.2.1 1 (by decide)]; exact h1
    · rw [f4'.1 6 (by decide), f4'.2.2.1 2 (by decide)]; exact h2
    · rw [f4'.1 7 (by decide), f4'.2.2.1 3 (by decide)]; exact h3
    · rw [e0, a0]; exact h4
    · rw [f4'.1 8 (by decide), f4'.2.2.1 4 (by decide), f4'.2.2.1 5 (by decide)]; exact h5
    · rw [f4'.1 1 (by decide), f4'.1 2 (by decide)]; exact h6
    · rw [f4'.1 3 (by decide)]; exact h7
    · intro k hk
      have := h8 k hk
      rw [f4'.1 (20 + k) (nmem 14 (by decide) (by omega)), f4'.1 (30 + k) (nmem 14 (by decide) (by omega)), f4'.2.2.2.1 (10 + k) (nmem 5 (by decide) (by omega)), f4'.2.2.1 (20 + k) (nmem 14 (by decide) (by omega)), f4'.2.2.2.2]
      exact this
    · refine Or.inr ⟨z4, ?_⟩
      rw [e0, a0, hmdv]
      exact ok
  · rw [if_pos h9]
    exact ⟨σ, rfl, h, h9, h10⟩

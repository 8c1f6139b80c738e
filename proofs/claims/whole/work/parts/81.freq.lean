def qLo (T : Nat → Nat) (B : Nat) (S : Nat → Nat) (i : Nat) : Nat := 60 * (T i / 60) + S (cod S B (T i % 60))
def qHi (T : Nat → Nat) (B : Nat) (S : Nat → Nat) (i : Nat) : Nat := 60 * (T i / 60) + dFi S B (cod S B (T i % 60) + 1) - 1
theorem boundsX {N : Nat} {T : Nat → Nat} {B : Nat} {S H : Nat → Nat} {G : Nat} {ga gb : Nat → Nat} {P V md i : Nat} {σ τ : zS} (h : FD N T B S H G ga gb P V md σ τ) (hi : i < N) : fX6_leastBound (nI i) σ = some (nI (qLo T B S i)) ∧ fX6_greatestBound (nI i) σ = some (nI (qHi T B S i)) ∧ fX7_boundOf (nI i) 0 τ = some (nI (qLo T B S i)) ∧ fX7_boundOf (nI i) 1 τ = some (nI (qHi T B S i)) := by
  obtain ⟨hd, c', m'⟩ := FD_B h
  obtain ⟨hN, hT, hTm, hB, hB2, hS0, hS, hSm, hH, hG, hg, hP, hV⟩ := hd
  obtain ⟨c1, c2, c3, c4, c5, c6, c7, c8, c9, c10, c11⟩ := c'
  obtain ⟨m1, m2, ⟨n', f', m3⟩, m4, m5, m6, m7⟩ := m'
  have hcl : (nI i).toNatClampNeg = i := nI_clamp (by omega)
  have hTi := hT i hi
  have hml := Nat.mod_lt (T i) (show 0 < 60 by decide)
  have hcod := (cod_spec (S := S) (x := T i % 60) B hB hS0 hSm).1
  have hcl2 : (nI (cod S B (T i % 60))).toNatClampNeg = cod S B (T i % 60) := nI_clamp (by omega)
  have hS' : ∀ k, k < B → za σ 2 k = nI (S k) ∧ S k < 60 := fun k hk => ⟨c4 k hk, hS k hk⟩
  have ec : nI (T i) / 60 = nI (T i / 60) := nI_div (b := 60) (by omega) (by decide) (by decide)
  have ef : nI (T i) - nI (T i) / 60 * 60 = nI (T i % 60) := nI_mod (b := 60) (by omega) (by decide) (by decide)
  have Xc : fX5_coarseOf (nI i) σ = some (nI (T i / 60)) := by
    unfold fX5_coarseOf
    rw [zgq (show i < 32 by omega), hcl, c2 i hi, ec]
  have Xf : fX5_fineOf (nI i) σ = some (nI (T i % 60)) := by
    unfold fX5_fineOf
    rw [zgq (show i < 32 by omega), hcl, c2 i hi, ef]
  have Xk := X_code (σ := σ) c3 hB hB2 hS0 hS' hml
  have Xe := X_end (σ := σ) c3 hB2 hS' hcod
  have Mk := M_code (σ := τ) (m3.2.2.2.2.2.2.2 (T i % 60) hml).1 hml
  have M1 := M_first m3 (show cod S B (T i % 60) ≤ B by omega)
  have M2 := M_first m3 (show cod S B (T i % 60) + 1 ≤ B by omega)
  have eS : dFi S B (cod S B (T i % 60)) = S (cod S B (T i % 60)) := if_pos hcod
  rw [eS] at M1
  have s2 : 1 ≤ dFi S B (cod S B (T i % 60) + 1) := by
    unfold dFi
    split
    · next z => have := hSm (cod S B (T i % 60)) (cod S B (T i % 60) + 1) (by omega) z; omega
    · omega
  have e60 : (60 : Int32) * nI (T i / 60) = nI (60 * (T i / 60)) := nI_mul 60 _
  have e61 : nI (T i / 60) * (60 : Int32) = nI (60 * (T i / 60)) := by
    have : nI (T i / 60) * (60 : Int32) = nI (T i / 60 * 60) := nI_mul _ 60
    rw [this, Nat.mul_comm]
  unfold qLo qHi
  refine ⟨?_, ?_, ?_, ?_⟩
  · simp only [fX6_leastBound, zv, zy1, zy2, zy3, Xc, Xf, Xk, zgq (show cod S B (T i % 60) < 12 by omega), hcl2, c4 _ hcod, e60, nI_add]
  · simp only [fX6_greatestBound, zv, zy1, zy2, zy3, Xc, Xf, Xk, Xe, e60, nI_add]
    rw [← nI_sub (b := 1) (by omega)]
    rfl
  · simp only [fX7_boundOf, zv, zy1, zy2, zy3, zgq (show i < 32 by omega), hcl, m2 i hi, ef, Mk, if_true, M1]
    rw [ec, e61, nI_add]
  · simp only [fX7_boundOf, zv, zy1, zy2, zy3, zgq (show i < 32 by omega), hcl, m2 i hi, ef, Mk, if_neg one_ne, nI_1, M2]
    have e1 : nI (dFi S B (cod S B (T i % 60) + 1)) - 1 = nI (dFi S B (cod S B (T i % 60) + 1) - 1) := nI_sub (b := 1) s2
    rw [ec, e61, e1, nI_add]
    congr 2
    omega
theorem lN_of {x : Int64} (h : 0 < x) : ∃ b, 0 < b ∧ b < 2 ^ 63 ∧ x = lN b := by
  have h1 : 0 < x.toInt := by
    have := Int64.lt_iff_toInt_lt.mp h
    exact this
  have h2 := Int64.toInt_lt x
  refine ⟨x.toInt.toNat, by omega, by omega, ?_⟩
  apply Int64.toInt_inj.mp
  rw [lT (by omega)]
  omega
theorem lowBoth (σ τ : zS) {a : Nat} {x : Int64} (w : Int32) (ha : a < 2 ^ 63) (h : 0 < x) : ∃ r, fX6_lowest (lN a) x w σ = some r ∧ fX7_partOf (lN a) x w τ = some r := by
  obtain ⟨b, h1, h2, rfl⟩ := lN_of h
  exact ⟨_, X_low ha h2 h1, M_low ha h2 h1⟩
theorem freqBoth {N : Nat} {T : Nat → Nat} {B : Nat} {S H : Nat → Nat} {G : Nat} {ga gb : Nat → Nat} {P V md g : Nat} {σ τ : zS} {w u : Int32} (h : FD N T B S H G ga gb P V md σ τ) (hg : g < G) (hw : zw w 0 3 = 1) (hu : zw u 0 1 = 1) : ∃ r σ' τ', fX6_frequency (nI g) w u σ = some (r, σ') ∧ fX7_frequencyOf (nI g) w u τ = some (r, τ') ∧ FD N T B S H G ga gb P V md σ' τ' := by
  obtain ⟨hd, hc, hm⟩ := FD_B h
  have hN := hd.1
  have hG := hd.2.2.2.2.2.2.2.2.2.1
  obtain ⟨b1, b2, b3, b4, b5⟩ := qB md hd
  obtain ⟨σ', p1, h', x0, x1, x2, x3, x4, x5, x6, x7, x8, x9, x10, x11⟩ := X_due h
  obtain ⟨τ', p2, h'', y1, y2, y3, y4⟩ := M_due h'
  obtain ⟨o1, o2⟩ := M_gates h' hg
  have c2 := (FD_B h').2.1.2.1
  have m2 := (FD_B h'').2.2.2.1
  have hcl : (nI g).toNatClampNeg = g := nI_clamp (by omega)
  have ce : zw (nI g) 0 (zi σ 8 - 1) = 1 := by rw [hc.2.2.2.2.2.2.1]; exact zw_e (by omega) hg
  unfold fX6_frequency fX7_frequencyOf
  rw [X_isGate, ce, X_within, hw, X_isHalf, hu, p1, o1, o2]
  simp only [zv, zy1, zy2, zy3, if_neg one_ne, zgq (show g < 8 by omega), hcl, (x8 g hg).1, (x8 g hg).2]
  rcases gate_at (T := T) (a := ga g) (b := gb g) hN with e | ⟨a, b, ab, bN, e1, e2, e3⟩
  · refine ⟨(-9223372036854775808 : Int64) - (-3 : Int32).toInt64, σ', τ, ?_, ?_, h'⟩
    · simp only [if_pos e, X_refuse]
    · simp only [if_pos e, M_no]
  · have pm := Nat.le_of_lt (place_m (V := V) (ref := qRef N T B S H P md) (top := qTop T B S H md) ab)
    have pb := place_b (V := V) (ref := qRef N T B S H P md) (top := qTop T B S H md) hN bN
    have ca : (nI a).toNatClampNeg = a := nI_clamp (by omega)
    have cb : (nI b).toNatClampNeg = b := nI_clamp (by omega)
    obtain ⟨xa1, xa2, ma1, ma2⟩ := boundsX h'' (i := a) (by omega)
    obtain ⟨xb1, xb2, mb1, mb2⟩ := boundsX h'' (i := b) bN
    have aN : a < N := by omega
    have eX := X_periods (a := a) (b := b) hN x4 pm aN bN
    have eM := nI_sub pm
    have hD : dPlace V (qRef N T B S H P md) (qTop T B S H md) b - dPlace V (qRef N T B S H P md) (qTop T B S H md) a ≤ 400 := by omega
    generalize dPlace V (qRef N T B S H P md) (qTop T B S H md) b - dPlace V (qRef N T B S H P md) (qTop T B S H md) a = D at eX eM hD
    have hDs : D * qSc B H md ≤ 400 * 400 := Nat.mul_le_mul hD b2
    have eD : (nI D).toInt64 = lN D := nI_l (by omega)
    have eS : (nI (qSc B H md)).toInt64 = lN (qSc B H md) := nI_l (by omega)
    simp only [if_neg e3]
    simp only [e1, e2, p2, zgq (show b < 32 by omega), zgq (show a < 32 by omega), ca, cb, eX, (y4 a aN).1, (y4 b bN).1, eM, eD, x1, eS, y1]
    obtain ⟨k, hk, rfl⟩ := w_of (n := 3) (by decide) hw
    rcases (show k = 0 ∨ k = 1 ∨ k = 2 ∨ k = 3 by omega) with e | e | e | e <;> subst e
    · have p : nI 0 = 0 := by decide
      have XL : fX6_lengthBetween (nI a) (nI b) (nI 0) σ' = some (lN (qTop T B S H md b) - lN (qTop T B S H md a)) := by
        unfold fX6_lengthBetween
        simp only [zv, zy1, zy2, zy3, if_pos p, zgq (show b < 32 by omega), zgq (show a < 32 by omega), ca, cb, x2 a aN, x2 b bN]
      simp only [XL, if_pos p, y2 a aN, y2 b bN, lN_mul]
      by_cases hL : 0 < lN (qTop T B S H md b) - lN (qTop T B S H md a)
      · obtain ⟨r, l1, l2⟩ := lowBoth σ' τ' (a := D * qSc B H md) u (by omega) hL
        refine ⟨r, σ', τ', ?_, ?_, h''⟩
        · simp only [if_pos hL, l1]
        · simp only [if_pos hL, l2]
      · refine ⟨(-9223372036854775808 : Int64) - (-3 : Int32).toInt64, σ', τ', ?_, ?_, h''⟩
        · simp only [if_neg hL, X_refuse]
        · simp only [if_neg hL, M_no]
    · have n0 : ¬ nI 1 = 0 := by decide
      have p : nI 1 = 1 := by decide
      have XL : fX6_lengthBetween (nI a) (nI b) (nI 1) σ' = some ((nI (qHi T B S b) - nI (qLo T B S a)).toInt64) := by
        unfold fX6_lengthBetween
        simp only [zv, zy1, zy2, zy3, if_neg n0, if_pos p, xb2, xa1]
      simp only [XL, if_neg n0, if_pos p, mb2, ma1, lN_mul]
      have eo : lN D * 1 = lN D := Int64.mul_one _
      simp only [eo]
      by_cases hL : 0 < (nI (qHi T B S b) - nI (qLo T B S a)).toInt64
      · obtain ⟨r, l1, l2⟩ := lowBoth σ' τ' (a := D) u (by omega) hL
        refine ⟨r, σ', τ', ?_, ?_, h''⟩
        · simp only [if_pos hL, l1]
        · simp only [if_pos hL, l2]
      · refine ⟨(-9223372036854775808 : Int64) - (-3 : Int32).toInt64, σ', τ', ?_, ?_, h''⟩
        · simp only [if_neg hL, X_refuse]
        · simp only [if_neg hL, M_no]
    · have n0 : ¬ nI 2 = 0 := by decide
      have n1 : ¬ nI 2 = 1 := by decide
      have p : nI 2 = 2 := by decide
      have XL : fX6_lengthBetween (nI a) (nI b) (nI 2) σ' = some ((nI (qLo T B S b) - nI (qHi T B S a)).toInt64) := by
        unfold fX6_lengthBetween
        simp only [zv, zy1, zy2, zy3, if_neg n0, if_neg n1, if_pos p, xb1, xa2]
      simp only [XL, if_neg n0, if_neg n1, if_pos p, mb1, ma2, lN_mul]
      have eo : lN D * 1 = lN D := Int64.mul_one _
      simp only [eo]
      by_cases hL : 0 < (nI (qLo T B S b) - nI (qHi T B S a)).toInt64
      · obtain ⟨r, l1, l2⟩ := lowBoth σ' τ' (a := D) u (by omega) hL
        refine ⟨r, σ', τ', ?_, ?_, h''⟩
        · simp only [if_pos hL, l1]
        · simp only [if_pos hL, l2]
      · refine ⟨(-9223372036854775808 : Int64) - (-3 : Int32).toInt64, σ', τ', ?_, ?_, h''⟩
        · simp only [if_neg hL, X_refuse]
        · simp only [if_neg hL, M_no]
    · have n0 : ¬ nI 3 = 0 := by decide
      have n1 : ¬ nI 3 = 1 := by decide
      have n2 : ¬ nI 3 = 2 := by decide
      have XL : fX6_lengthBetween (nI a) (nI b) (nI 3) σ' = some ((nI (T b) - nI (T a)).toInt64) := by
        unfold fX6_lengthBetween
        simp only [zv, zy1, zy2, zy3, if_neg n0, if_neg n1, if_neg n2, zgq (show b < 32 by omega), zgq (show a < 32 by omega), ca, cb, c2 a aN, c2 b bN]
      simp only [XL, if_neg n0, if_neg n1, if_neg n2, m2 a aN, m2 b bN, lN_mul]
      have eo : lN D * 1 = lN D := Int64.mul_one _
      simp only [eo]
      by_cases hL : 0 < (nI (T b) - nI (T a)).toInt64
      · obtain ⟨r, l1, l2⟩ := lowBoth σ' τ' (a := D) u (by omega) hL
        refine ⟨r, σ', τ', ?_, ?_, h''⟩
        · simp only [if_pos hL, l1]
        · simp only [if_pos hL, l2]
      · refine ⟨(-9223372036854775808 : Int64) - (-3 : Int32).toInt64, σ', τ', ?_, ?_, h''⟩
        · simp only [if_neg hL, X_refuse]
        · simp only [if_neg hL, M_no]
theorem ok_frequency_ : ok_frequency Rel := by
  intro σ τ v w u h
  obtain ⟨N, T, B, S, H, G, ga, gb, P, V, md, hf⟩ := Rel_FD h
  obtain ⟨hd, hc, hm⟩ := FD_B hf
  have hG := hd.2.2.2.2.2.2.2.2.2.1
  have k1 := hc.2.2.2.2.2.2.1
  have k2 := hf.1.2.2.2.2.1.2.1
  rcases zw_N (v := v) G (by omega) with e | ⟨i, hi, rfl, e⟩
  · refine ⟨(-9223372036854775808 : Int64) - (-2 : Int32).toInt64, σ, τ, ?_, ?_, h⟩
    · unfold fX6_frequency
      rw [X_isGate, k1, e]
      rfl
    · unfold fX7_frequency
      rw [M_isGate, k2, e]
      rfl
  · rcases zw01 w 0 3 with e2 | e2
    · refine ⟨(-9223372036854775808 : Int64) - (-2 : Int32).toInt64, σ, τ, ?_, ?_, h⟩
      · unfold fX6_frequency
        rw [X_isGate, k1, e, X_within, e2]
        rfl
      · unfold fX7_frequency
        rw [M_isGate, k2, e, M_in, e2]
        rfl
    · rcases zw01 u 0 1 with e3 | e3
      · refine ⟨(-9223372036854775808 : Int64) - (-2 : Int32).toInt64, σ, τ, ?_, ?_, h⟩
        · unfold fX6_frequency
          rw [X_isGate, k1, e, X_within, e2, X_isHalf, e3]
          rfl
        · unfold fX7_frequency
          rw [M_isGate, k2, e, M_in, e2, M_in, e3]
          rfl
      · obtain ⟨r, σ', τ', g1, g2, g3⟩ := freqBoth hf hi e2 e3
        refine ⟨r, σ', τ', g1, ?_, FD_Rel g3⟩
        unfold fX7_frequency
        rw [M_isGate, k2, e, M_in, e2, M_in, e3, g2]
        rfl
theorem M_squares {τ : zS} {N m : Nat} {top : Nat → Nat} (hN : N ≤ 32) (h0 : zi τ 0 = nI N) (ht : ∀ i, i < N → zj τ 0 i = lN (top i)) (hm : 2 * m < N) : fX7_squaresAt (nI m) τ = some (Int64.ofInt (dSq top N m)) := by
  have e2 : ∀ j, nI j + 2 * nI m = nI (j + 2 * m) := by
    intro j
    show nI j + nI 2 * nI m = _
    rw [nI_mul, nI_add]
  have loop : ∀ n j, j ≤ N - 2 * m → N - 2 * m < j + n → fX7_squaresAt_5 (nI m) τ n (Int64.ofInt (zsumI (fun i => dBend top m i * dBend top m i) j)) (nI j) = some (Int64.ofInt (dSq top N m)) := by
    intro n
    induction n with
    | zero => intro j h1 h2; omega
    | succ n ih =>
      intro j h1 h2
      rw [fX7_squaresAt_5, h0, e2]
      by_cases q : N ≤ j + 2 * m
      · rw [if_pos (nI_le q (by omega)), show j = N - 2 * m by omega]
        rfl
      · simp only [if_neg (nI_ge (show j + 2 * m < N by omega) (show N < 2 ^ 31 by omega)), e2, nI_add, zv, zgq (show j + 2 * m < 32 by omega), zgq (show j + m < 32 by omega), zgq (show j < 32 by omega), nI_clamp (show j + 2 * m < 2 ^ 31 by omega), nI_clamp (show j + m < 2 ^ 31 by omega), nI_clamp (show j < 2 ^ 31 by omega), ht (j + 2 * m) (by omega), ht (j + m) (by omega), ht j (by omega), bendI, ← Int64.ofInt_mul, ← Int64.ofInt_add, nI_1]
        exact ih (j + 1) (by omega) (by omega)
  have e := loop 500 0 (by omega) (by omega)
  rw [nI_0] at e
  have z : Int64.ofInt (zsumI (fun i => dBend top m i * dBend top m i) 0) = 0 := show Int64.ofInt 0 = 0 by decide
  rw [z] at e
  have e3 : 2 * nI m = nI (2 * m) := nI_mul 2 m
  unfold fX7_squaresAt
  simp only [zv, zy1, zy2, zy3, e, h0, e3, if_neg (nI_ge hm (show N < 2 ^ 31 by omega))]
theorem M_weight {τ : zS} {N m : Nat} (hN : N ≤ 32) (h0 : zi τ 0 = nI N) (hm : 2 * m < N) : fX7_weightAt (nI m) τ = some (lN (2 * dWt N m)) := by
  have e3 : 2 * nI m = nI (2 * m) := nI_mul 2 m
  unfold fX7_weightAt
  rw [h0, e3, nI_sub (by omega), nI_l (by omega), nI_l (by omega)]
  show some (lN 2 * lN m * lN m * lN (N - 2 * m)) = _
  rw [lN_mul, lN_mul, lN_mul]
  unfold dWt
  congr 2
  rw [Nat.mul_assoc 2 m m, Nat.mul_assoc 2 (m * m)]
theorem dSq_N {top : Nat → Nat} {N m : Nat} (hN : N ≤ 32) (hb : ∀ i, i < N → top i ≤ 2400000) (h2 : 2 * m ≤ N) (h1 : 1 ≤ m) : ∃ s : Nat, s ≤ 691200000000000 ∧ dSq top N m = (s : Int) ∧ Int64.ofInt (dSq top N m) = lN s := by
  obtain ⟨a, b⟩ := dSq_b hN hb h2 h1
  refine ⟨(dSq top N m).toNat, by omega, by omega, ?_⟩
  rw [lN_I]
  congr 1
  omega
theorem varBoth {N : Nat} {T : Nat → Nat} {B : Nat} {S H : Nat → Nat} {G : Nat} {ga gb : Nat → Nat} {P V md : Nat} {σ τ : zS} {v w : Int32} (h : FD N T B S H G ga gb P V md σ τ) (hv : zw v 1 15 = 1) (hw : zw w 0 1 = 1) : ∃ r σ' τ', fX6_variance v w σ = some (r, σ') ∧ fX7_varianceOf v w τ = some (r, τ') ∧ FD N T B S H G ga gb P V md σ' τ' := by
  obtain ⟨hd, hc, hm⟩ := FD_B h
  have hN := hd.1
  obtain ⟨b1, b2, b3, b4, b5⟩ := qB md hd
  obtain ⟨σ', p1, h', x0, x1, x2, x3, x4, x5, x6, x7, x8, x9, x10, x11⟩ := X_due h
  obtain ⟨τ', p2, h'', y1, y2, y3, y4⟩ := M_due h'
  have m1 := (FD_B h'').2.2.1
  obtain ⟨m, hm1, hm2, rfl⟩ : ∃ m, 1 ≤ m ∧ m ≤ 15 ∧ v = nI m := by
    rcases zw_C (v := v) 1 15 (by decide) (by decide) with e | ⟨k, a1, a2, a3, _⟩
    · have e' : zw v 1 15 = 0 := e
      rw [e'] at hv; exact absurd hv (by decide)
    · exact ⟨k, a1, a2, a3⟩
  have e3 : 2 * nI m = nI (2 * m) := nI_mul 2 m
  have hcl : (nI m).toNatClampNeg = m := nI_clamp (by omega)
  have hsp : m ≤ dSp N ↔ 2 * m < N := by
    unfold dSp
    split <;> omega
  have hsb : dSp N ≤ 15 := by
    unfold dSp
    split <;> omega
  unfold fX6_variance fX7_varianceOf
  rw [X_within, hv, X_isHalf, hw, p1, p2]
  simp only [zv, zy1, zy2, zy3, if_neg one_ne, x9, m1, e3]
  by_cases c : 2 * m < N
  · have c1 : nI m ≤ nI (dSp N) := nI_le (hsp.mpr c) (by omega)
    have c2 : ¬ nI N ≤ nI (2 * m) := nI_ge c (by omega)
    obtain ⟨s, s1, s2, s3⟩ := dSq_N (m := m) hN b4 (by omega) hm1
    obtain ⟨w1, w2⟩ := dWt_b hN hm2 hm1 c
    obtain ⟨q1, q2⟩ := x10 m hm1 (hsp.mpr c)
    have hden : 2 * dWt N m * qSc B H md * qSc B H md ≤ 2 * 6750 * 400 * 400 := Nat.mul_le_mul (Nat.mul_le_mul (by omega) b2) b2
    have hpos : 1 * 1 * 1 ≤ 2 * dWt N m * qSc B H md * qSc B H md := Nat.mul_le_mul (Nat.mul_le_mul (by omega) b1) b1
    have eS : (nI (qSc B H md)).toInt64 = lN (qSc B H md) := nI_l (by omega)
    have e2 : (2 : Int64) * lN (dWt N m) = lN (2 * dWt N m) := lN_mul 2 _
    refine ⟨lN (lowN s (2 * dWt N m * qSc B H md * qSc B H md) w), σ', τ', ?_, ?_, h''⟩
    · simp only [if_pos c1, zgq (show m < 16 by omega), hcl, q1, q2, s3, x1, eS, e2, lN_mul, X_low (show s < 2 ^ 63 by omega) (show 2 * dWt N m * qSc B H md * qSc B H md < 2 ^ 63 by omega) (show 0 < 2 * dWt N m * qSc B H md * qSc B H md by omega)]
    · simp only [if_neg c2, M_squares hN m1 y2 c, M_weight hN m1 c, s3, y1, lN_mul, M_low (show s < 2 ^ 63 by omega) (show 2 * dWt N m * qSc B H md * qSc B H md < 2 ^ 63 by omega) (show 0 < 2 * dWt N m * qSc B H md * qSc B H md by omega)]
  · have c1 : ¬ nI m ≤ nI (dSp N) := nI_ge (by omega) (by omega)
    have c2 : nI N ≤ nI (2 * m) := nI_le (by omega) (by omega)
    refine ⟨(-9223372036854775808 : Int64) - (-3 : Int32).toInt64, σ', τ', ?_, ?_, h''⟩
    · simp only [if_neg c1, X_refuse]
    · simp only [if_pos c2, M_no]
theorem ok_variance_ : ok_variance Rel := by
  intro σ τ v w h
  obtain ⟨N, T, B, S, H, G, ga, gb, P, V, md, hf⟩ := Rel_FD h
  rcases zw01 v 1 15 with e | e
  · refine ⟨(-9223372036854775808 : Int64) - (-2 : Int32).toInt64, σ, τ, ?_, ?_, h⟩
    · unfold fX6_variance
      rw [X_within, e]
      rfl
    · unfold fX7_variance
      rw [M_in, e]
      rfl
  · rcases zw01 w 0 1 with e2 | e2
    · refine ⟨(-9223372036854775808 : Int64) - (-2 : Int32).toInt64, σ, τ, ?_, ?_, h⟩
      · unfold fX6_variance
        rw [X_within, e, X_isHalf, e2]
        rfl
      · unfold fX7_variance
        rw [M_in, e, M_in, e2]
        rfl
    · obtain ⟨r, σ', τ', g1, g2, g3⟩ := varBoth hf e e2
      refine ⟨r, σ', τ', g1, ?_, FD_Rel g3⟩
      unfold fX7_variance
      rw [M_in, e, M_in, e2, g2]
      rfl

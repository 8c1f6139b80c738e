theorem mulB {u U Z : Nat} {z : Int} (hu : u ≤ U) (h1 : -(Z : Int) ≤ z) (h2 : z ≤ Z) : -((U * Z : Nat) : Int) ≤ (u : Int) * z ∧ (u : Int) * z ≤ ((U * Z : Nat) : Int) := by
  have e : ((u : Int) * z).natAbs = u * z.natAbs := by rw [Int.natAbs_mul, Int.natAbs_natCast]
  have hz : z.natAbs ≤ Z := by omega
  have := Nat.mul_le_mul hu hz
  generalize (u : Int) * z = w at *
  omega
theorem absL {d : Int64} {D : Int} (h : d = Int64.ofInt D) (h1 : -4611686018427387904 < D) (h2 : D < 4611686018427387904) : (if 0 ≤ d then some d else some (-d)) = some (if 0 < d then d else -d) ∧ ¬ (if 0 < d then d else -d) ≤ -1 := by
  have e : d.toInt = D := by rw [h, Int64.toInt_ofInt_of_le (by omega) (by omega)]
  have e0 : (0 : Int64).toInt = 0 := by decide
  have e1 : (-1 : Int64).toInt = -1 := by decide
  have en : (-d).toInt = -D := by
    rw [h, ← Int64.ofInt_neg, Int64.toInt_ofInt_of_le (by omega) (by omega)]
  by_cases c : 0 < d
  · have c' := Int64.lt_iff_toInt_lt.mp c
    have c2 : 0 ≤ d := Int64.le_iff_toInt_le.mpr (by omega)
    rw [if_pos c, if_pos c2, Int64.le_iff_toInt_le]
    exact ⟨rfl, by omega⟩
  · have c' : ¬ (0 : Int64).toInt < d.toInt := fun z => c (Int64.lt_iff_toInt_lt.mpr z)
    rw [if_neg c]
    refine ⟨?_, fun z => by have := Int64.le_iff_toInt_le.mp z; omega⟩
    by_cases c2 : 0 ≤ d
    · have c3 := Int64.le_iff_toInt_le.mp c2
      rw [if_pos c2]
      congr 1
      apply Int64.toInt_inj.mp
      omega
    · rw [if_neg c2]
theorem offD {A Bv n t p PL TP : Nat} (hA : A ≤ 983040000000) (hB : Bv ≤ 163840000) (hn : n ≤ 32) (ht : t ≤ 2400000) (hp : p ≤ 400) (hP : PL ≤ 12800) (hT : TP ≤ 76800000) : ∃ D : Int, lN Bv * (lN n * lN t - lN TP) - lN A * (lN n * lN p - lN PL) = Int64.ofInt D ∧ -4611686018427387904 < D ∧ D < 4611686018427387904 := by
  refine ⟨(Bv : Int) * ((n * t : Nat) - (TP : Int)) - (A : Int) * ((n * p : Nat) - (PL : Int)), ?_, ?_⟩
  · rw [Int64.ofInt_sub, Int64.ofInt_mul, Int64.ofInt_mul, Int64.ofInt_sub, Int64.ofInt_sub, ← lN_I, ← lN_I, ← lN_I, ← lN_I, ← lN_I, ← lN_I, lN_mul, lN_mul]
  · have a1 : n * t ≤ 32 * 2400000 := Nat.mul_le_mul hn ht
    have a2 : n * p ≤ 32 * 400 := Nat.mul_le_mul hn hp
    obtain ⟨b1, b2⟩ := mulB (u := Bv) (Z := 76800000) (z := ((n * t : Nat) : Int) - (TP : Int)) hB (by omega) (by omega)
    obtain ⟨b3, b4⟩ := mulB (u := A) (Z := 12800) (z := ((n * p : Nat) : Int) - (PL : Int)) hA (by omega) (by omega)
    generalize (Bv : Int) * (((n * t : Nat) : Int) - (TP : Int)) = u1 at *
    generalize (A : Int) * (((n * p : Nat) : Int) - (PL : Int)) = u2 at *
    omega
theorem offLoop {σ τ : zS} {N a b A Bv n PL TP : Nat} {pl top : Nat → Nat} (hN : N ≤ 32) (hab : a < b) (hb : b < N) (hp : ∀ i, i < N → za σ 10 i = nI (pl i)) (ht : ∀ i, i < N → zj σ 0 i = lN (top i)) (hp' : ∀ i, i < N → za τ 6 i = nI (pl i)) (ht' : ∀ i, i < N → zj τ 0 i = lN (top i)) (h2 : zl τ 2 = lN PL) (h3 : zl τ 3 = lN TP) (hpb : ∀ i, i < N → pl i ≤ 400) (htb : ∀ i, i < N → top i ≤ 2400000) (hA : A ≤ 983040000000) (hB : Bv ≤ 163840000) (hn : n ≤ 32) (hP : PL ≤ 12800) (hT : TP ≤ 76800000) : ∀ f j v v' d, a ≤ j → j ≤ b + 1 → b + 1 < j + f → (a < j → v' = v) → (j = a → d = -1) → ∃ r, fX2_farthest_50 (nI b) (lN n) (lN A) (lN Bv) (lN PL) (lN TP) σ f v d (nI j) = some r ∧ fX7_offOf_60 (nI b) (lN n) (lN A) (lN Bv) τ f v' d (nI j) = some r := by
  intro f
  induction f with
  | zero => intro j v v' d h0 h1 h2; omega
  | succ f ih =>
    intro j v v' d h0 h1 h2' q1 q2
    rw [fX2_farthest_50, fX7_offOf_60]
    by_cases c : j = b + 1
    · have en : nI b < nI (b + 1) := nI_lt (by omega) (by omega)
      rw [c, if_pos en, if_pos en, q1 (by omega)]
      exact ⟨v, rfl, rfl⟩
    · have hcl : (nI j).toNatClampNeg = j := nI_clamp (by omega)
      have ng : ¬ nI b < nI j := nI_nlt (by omega) (by omega)
      have lp : (nI (pl j)).toInt64 = lN (pl j) := nI_l (by have := hpb j (by omega); omega)
      obtain ⟨D, d1, d2, d3⟩ := offD (A := A) (Bv := Bv) (n := n) (t := top j) (p := pl j) (PL := PL) (TP := TP) hA hB hn (htb j (by omega)) (hpb j (by omega)) hP hT
      obtain ⟨e1, e2⟩ := absL d1 d2 d3
      simp only [zv, zy1, zy2, zy3, if_neg ng, zgq (show j < 32 by omega), hcl, hp j (by omega), ht j (by omega), hp' j (by omega), ht' j (by omega), lp, h2, h3, e1, nI_1]
      generalize (if 0 < lN Bv * (lN n * lN (top j) - lN TP) - lN A * (lN n * lN (pl j) - lN PL) then lN Bv * (lN n * lN (top j) - lN TP) - lN A * (lN n * lN (pl j) - lN PL) else -(lN Bv * (lN n * lN (top j) - lN TP) - lN A * (lN n * lN (pl j) - lN PL))) = x at e2 ⊢
      by_cases y : x ≤ d
      · have ja : a < j := by
          apply Nat.lt_of_le_of_ne h0
          intro z
          rw [q2 z.symm] at y
          exact e2 y
        simp only [if_pos y]
        exact ih (j + 1) v v' d (by omega) (by omega) (by omega) (fun _ => q1 ja) (fun z => by omega)
      · simp only [if_neg y]
        exact ih (j + 1) (nI j) (nI j) x (by omega) (by omega) (by omega) (fun _ => rfl) (fun z => by omega)
theorem offBoth {N : Nat} {T : Nat → Nat} {B : Nat} {S H : Nat → Nat} {G : Nat} {ga gb : Nat → Nat} {P V md a b : Nat} {σ τ : zS} (h : FD N T B S H G ga gb P V md σ τ) (hab : a < b) (hbN : b < N) (hpr : fX6_isEdgePair (nI a) (nI b) σ = some 1) : ∃ r σ' τ', fX6_off (nI a) (nI b) σ = some (r, σ') ∧ fX7_offOf (nI a) (nI b) τ = some (r, τ') ∧ FD N T B S H G ga gb P V md σ' τ' := by
  obtain ⟨hd, hc, hm⟩ := FD_B h
  have hN := hd.1
  obtain ⟨b1, b2, b3, b4, b5⟩ := qB md hd
  obtain ⟨σ', p1, h', x0, x1, x2, x3, x4, x5, x6, x7, x8, x9, x10, x11⟩ := X_due h
  obtain ⟨τ', p2, h'', y1, y2, y3, y4⟩ := M_due h'
  have pb : ∀ i, i < N → dPlace V (qRef N T B S H P md) (qTop T B S H md) i ≤ 400 := fun i hi => place_b hN hi
  have pm : ∀ i j, i < j → j < N → dPlace V (qRef N T B S H P md) (qTop T B S H md) i < dPlace V (qRef N T B S H P md) (qTop T B S H md) j := fun i j hij _ => place_m hij
  obtain ⟨f1, f2, f3, f4⟩ := X_fits (σ := σ') hN hab hbN x4 pb x2
  obtain ⟨τ2, q1, q2, q3, q4, q5, q6⟩ := M_fits (τ := τ') hN hab hbN (fun i hi => (y4 i hi).1) pb y2
  obtain ⟨t1, t2, t3, t4, t5, t6⟩ := fitB hN hab hbN pb pm b4 b5
  have u1 : ∀ i, i < N → za τ2 6 i = nI (dPlace V (qRef N T B S H P md) (qTop T B S H md) i) := fun i hi => by rw [q2.2.2.1 6 (by decide)]; exact (y4 i hi).1
  have u2 : ∀ i, i < N → zj τ2 0 i = lN (qTop T B S H md i) := fun i hi => by rw [q2.2.2.2.1 0 (by decide)]; exact y2 i hi
  generalize sm (fun i => dPlace V (qRef N T B S H P md) (qTop T B S H md) i * qTop T B S H md i) a b = X at *
  generalize sm (fun i => dPlace V (qRef N T B S H P md) (qTop T B S H md) i * dPlace V (qRef N T B S H P md) (qTop T B S H md) i) a b = Q at *
  generalize sm (dPlace V (qRef N T B S H P md) (qTop T B S H md)) a b = PL at *
  generalize sm (qTop T B S H md) a b = TP at *
  have en : (nI b - nI a + 1).toInt64 = lN (b - a + 1) := by
    rw [nI_sub (by omega), nI_1, nI_l (by omega)]
  have eA : lN ((b - a + 1) * X) - lN (PL * TP) = lN ((b - a + 1) * X - PL * TP) := lN_sub t3
  have eB : lN ((b - a + 1) * Q) - lN (PL * PL) = lN ((b - a + 1) * Q - PL * PL) := lN_sub (Nat.le_of_lt t5)
  obtain ⟨r, r1, r2⟩ := offLoop (A := (b - a + 1) * X - PL * TP) (Bv := (b - a + 1) * Q - PL * PL) (n := b - a + 1) (PL := PL) (TP := TP) hN hab hbN x4 x2 u1 u2 q3 q4 pb b4 (by omega) (by omega) (by omega) (by omega) (by omega) 500 a (nI a) (-1) (-1) (by omega) (by omega) (by omega) (fun z => by omega) (fun _ => rfl)
  refine ⟨r, σ', τ2, ?_, ?_, ⟨RelM_Fr2 h''.1 q2, h''.2⟩⟩
  · unfold fX6_off fX2_farthest fX2_fitAbove fX2_fitBelow
    rw [hpr, p1]
    simp only [zv, zy1, zy2, zy3, if_neg one_ne, f1, f2, f3, f4, en, lN_mul, eA, eB, r1]
  · unfold fX7_offOf fX7_sums
    rw [p2]
    simp only [zv, zy1, zy2, zy3, q1, q3, q4, q5, q6, en, lN_mul, eA, eB, r2]
theorem ok_off_ : ok_off Rel := by
  intro σ τ v u h
  obtain ⟨N, T, B, S, H, G, ga, gb, P, V, md, hf⟩ := Rel_FD h
  obtain ⟨hd, hc, hm⟩ := FD_B hf
  rcases pairX hd.1 hc.1 hm.1 v u with ⟨e1, e2⟩ | ⟨a, b, hab, hb, rfl, rfl, e1, e2⟩
  · refine ⟨-2, σ, τ, ?_, ?_, h⟩
    · unfold fX6_off
      rw [e1]
      rfl
    · unfold fX7_off
      rw [e2]
      rfl
  · obtain ⟨r, σ', τ', g1, g2, g3⟩ := offBoth hf hab hb e1
    refine ⟨r, σ', τ', g1, ?_, FD_Rel g3⟩
    unfold fX7_off
    rw [e2, g2]
    rfl

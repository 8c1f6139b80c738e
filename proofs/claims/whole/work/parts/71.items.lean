/-- one item of one sheet is written -/
theorem RS_item {σ τ σ' τ' : zS} {k i : Nat} (hs : RS σ τ) (hk : k < 4) (hi : i < 40) (a1 : ∀ j, j < 4 → zi σ' (20 + j) = zi σ (20 + j) ∧ zi σ' (30 + j) = zi σ (30 + j)) (b1 : za τ' 11 = za τ 11) (b2 : za τ' 12 = za τ 12)
    (a2 : ∀ j, j < 4 → j ≠ k → zj σ' (10 + j) = zj σ (10 + j) ∧ zd σ' (0 + j) = zd σ (0 + j) ∧ za σ' (20 + j) = za σ (20 + j)) (a3 : ∀ x, x ≠ i → zj σ' (10 + k) x = zj σ (10 + k) x ∧ zd σ' (0 + k) x = zd σ (0 + k) x ∧ za σ' (20 + k) x = za σ (20 + k) x)
    (b3 : ∀ x, x ≠ 40 * k + i → zj τ' 2 x = zj τ 2 x ∧ zd τ' 0 x = zd τ 0 x ∧ za τ' 13 x = za τ 13 x)
    (hn : (zi σ (20 + k) = -1) ∨ ((zi σ (20 + k) = 0 ∨ zi σ (20 + k) = 1) ∧ zj σ' (10 + k) i = zj τ' 2 (40 * k + i) ∧ za σ' (20 + k) i = 0) ∨ ((zi σ (20 + k) = 2 ∨ zi σ (20 + k) = 3) ∧ za σ' (20 + k) i = za τ' 13 (40 * k + i) ∧ (za σ' (20 + k) i = 0 ∨ za σ' (20 + k) i = 1) ∧ (za σ' (20 + k) i = 0 → zd σ' (0 + k) i = zd τ' 0 (40 * k + i) ∧ zn64 (FP.dmul eight (zd σ' (0 + k) i)) = true))) : RS σ' τ' := by
  intro j hj
  obtain ⟨q1, q2, q3, q4⟩ := hs j hj
  rw [(a1 j hj).1, (a1 j hj).2, b1, b2]
  refine ⟨q1, q2, q3, ?_⟩
  by_cases z : j = k
  · subst z
    have d01 : ∀ a b : Int32, a = b → b = -1 → ¬ a = 0 ∧ ¬ a = 1 ∧ ¬ a = 2 ∧ ¬ a = 3 := by
      intro a b e1 e2
      subst e1
      subst e2
      decide
    rcases q4 with q4 | ⟨q5, q6⟩ | ⟨q5, q6⟩
    · exact Or.inl q4
    · refine Or.inr (Or.inl ⟨q5, fun x hx => ?_⟩)
      by_cases y : x = i
      · subst y
        rcases hn with n1 | ⟨_, n2, n3⟩ | ⟨n1, _⟩
        · exact absurd q5 (by rw [n1]; decide)
        · exact ⟨n2, n3⟩
        · rcases q5 with q5 | q5 <;> rw [q5] at n1 <;> exact absurd n1 (by decide)
      · have r1 := a3 x y
        have r2 := b3 (40 * j + x) (by omega)
        have r3 := q6 x hx
        refine ⟨?_, ?_⟩
        · show zj σ' (10 + j) x = zj τ' 2 (40 * j + x)
          rw [r1.1, r2.1]; exact r3.1
        · rw [r1.2.2]; exact r3.2
    · refine Or.inr (Or.inr ⟨q5, fun x hx => ?_⟩)
      by_cases y : x = i
      · subst y
        rcases hn with n1 | ⟨n1, _⟩ | ⟨_, n2⟩
        · exact absurd q5 (by rw [n1]; decide)
        · rcases q5 with q5 | q5 <;> rw [q5] at n1 <;> exact absurd n1 (by decide)
        · exact n2
      · have r1 := a3 x y
        have r2 := b3 (40 * j + x) (by omega)
        have r3 := q6 x hx
        show za σ' (20 + j) x = za τ' 13 (40 * j + x) ∧ _ ∧ (_ → zd σ' (0 + j) x = zd τ' 0 (40 * j + x) ∧ _)
        rw [r1.2.2, r1.2.1, r2.2.2, r2.2.1]
        exact r3
  · have r1 := a2 j hj z
    have ne : ∀ x, x < 40 → 40 * j + x ≠ 40 * k + i := fun x hx => by omega
    rcases q4 with q4 | ⟨q5, q6⟩ | ⟨q5, q6⟩
    · exact Or.inl q4
    · refine Or.inr (Or.inl ⟨q5, fun x hx => ?_⟩)
      have r2 := b3 (40 * j + x) (ne x hx)
      show zj σ' (10 + j) x = zj τ' 2 (40 * j + x) ∧ _
      rw [r1.1, r1.2.2, r2.1]
      exact q6 x hx
    · refine Or.inr (Or.inr ⟨q5, fun x hx => ?_⟩)
      have r2 := b3 (40 * j + x) (ne x hx)
      show za σ' (20 + j) x = za τ' 13 (40 * j + x) ∧ _ ∧ (_ → zd σ' (0 + j) x = zd τ' 0 (40 * j + x) ∧ _)
      rw [r1.2.2, r1.2.1, r2.2.2, r2.2.1]
      exact q6 x hx
theorem X_has {σ : zS} {k sz : Nat} (h : zi σ (30 + k) = nI sz) (hs : sz ≤ 40) (v : Int32) : (fX3_has k v σ = some 0 ∧ zw v 0 (nI sz - 1) = 0) ∨ ∃ i, i < sz ∧ v = nI i ∧ fX3_has k v σ = some 1 ∧ zw v 0 (nI sz - 1) = 1 := by
  unfold fX3_has
  rw [h]
  rcases zw_N (v := v) sz (by omega) with e | ⟨i, hi, rfl, e⟩
  · left
    refine ⟨?_, e⟩
    by_cases c0 : v < 0
    · rw [if_pos c0]
    · rw [if_neg c0]
      obtain ⟨j, hj, rfl⟩ := nI_of c0
      have c1 : sz ≤ j := by
        apply Nat.le_of_not_lt
        intro z
        have e1 : nI sz - 1 = nI (sz - 1) := nI_sub (a := sz) (b := 1) (by omega)
        rw [e1] at e
        have e2 : zw (nI j) 0 (nI (sz - 1)) = 1 := zw_1 0 (sz - 1) j (Nat.zero_le _) (by omega) (by omega)
        rw [e2] at e
        exact absurd e (by decide)
      rw [if_pos (nI_le c1 hj)]
  · right
    refine ⟨i, hi, rfl, ?_, e⟩
    rw [if_neg (nI_pos (by omega)), if_neg (nI_ge hi (by omega))]
theorem M_has {τ : zS} {k sz : Nat} (hk : k < 4) (h : za τ 12 k = nI sz) (v : Int32) : fX7_hasItem (nI k) v τ = some (zw v 0 (nI sz - 1)) := by
  unfold fX7_hasItem
  rw [zgq hk, nI_clamp (by omega), h, M_in]
  exact zg_t (zw_z _ _ _)
theorem at40 {k i : Nat} : (40 : Int32) * nI k + nI i = nI (40 * k + i) := by
  show nI 40 * nI k + nI i = _
  rw [nI_mul, nI_add]
theorem ok_blank_ : ok_blank Rel := by
  intro σ τ v x h
  unfold fX6_blank fX7_blank
  rw [X_isSheet, M_isSheet]
  rcases zw_sh (v := v) with e | ⟨k, hk, rfl, e, hc⟩
  · refine ⟨-2, σ, τ, ?_, ?_, h⟩ <;> simp only [zv, zy1, zy2, zy3, e, if_true]
  have hs := (Rel_RS h).1
  obtain ⟨r1, r2, ⟨sz, hsz, r3⟩, r4⟩ := hs k hk
  have m1 : ¬ (1 : Int32) ≤ 0 := by decide
  have m2 : ¬ (2 : Int32) ≤ 0 := by decide
  have m3 : ¬ (3 : Int32) ≤ 0 := by decide
  have m0 : (0 : Int32) ≤ 0 := by decide
  rcases r4 with q | ⟨q, _⟩ | ⟨q, q6⟩
  · have q' : za τ 11 k = -1 := by rw [← r1]; exact q
    refine ⟨-10 - 1, wi σ 3 1, wi τ 5 1, ?_, ?_, Rel_find h 1⟩
    · simp only [zv, zy1, zy2, zy3, e, if_neg one_ne, zgq hk, hc, fX3_isLost, if_pos q, X_find]
    · simp only [zv, zy1, zy2, zy3, e, if_neg one_ne, zgq hk, hc, if_pos q', if_neg m1, M_meet]
  · have nl : ¬ zi σ (20 + k) = -1 := by rcases q with q | q <;> rw [q] <;> decide
    have n2 : ¬ zi σ (20 + k) = 2 := by rcases q with q | q <;> rw [q] <;> decide
    have n3 : ¬ zi σ (20 + k) = 3 := by rcases q with q | q <;> rw [q] <;> decide
    have nl' : ¬ za τ 11 k = -1 := by rw [← r1]; exact nl
    have nh' : ¬ 2 ≤ za τ 11 k := by rw [← r1]; rcases q with q | q <;> rw [q] <;> decide
    refine ⟨-10 - 3, wi σ 3 3, wi τ 5 3, ?_, ?_, Rel_find h 3⟩
    · simp only [zv, zy1, zy2, zy3, e, if_neg one_ne, zgq hk, hc, fX3_isLost, fX3_holdsReals, if_neg nl, if_neg n2, if_neg n3, if_true, X_find]
    · simp only [zv, zy1, zy2, zy3, e, if_neg one_ne, zgq hk, hc, if_neg nl', if_neg nh', if_neg m3, M_meet]
  · have nl : ¬ zi σ (20 + k) = -1 := by rcases q with q | q <;> rw [q] <;> decide
    have hr : fX3_holdsReals k σ = some 1 := by
      unfold fX3_holdsReals
      rcases q with q | q
      · rw [if_pos q]
      · have n2 : ¬ zi σ (20 + k) = 2 := by rw [q]; decide
        rw [if_neg n2, if_pos q]
    have nl' : ¬ za τ 11 k = -1 := by rw [← r1]; exact nl
    have nh' : 2 ≤ za τ 11 k := by rw [← r1]; rcases q with q | q <;> rw [q] <;> decide
    have r3' : za τ 12 k = nI sz := by rw [← r2]; exact r3
    have mh := M_has (τ := τ) hk r3' x
    rcases X_has r3 hsz x with ⟨g1, g2⟩ | ⟨i, hi, rfl, g1, g2⟩
    · rw [g2] at mh
      refine ⟨-10 - 2, wi σ 3 2, wi τ 5 2, ?_, ?_, Rel_find h 2⟩
      · simp only [zv, zy1, zy2, zy3, e, if_neg one_ne, zgq hk, hc, fX3_isLost, hr, if_neg nl, g1, if_true, X_find]
      · simp only [zv, zy1, zy2, zy3, e, if_neg one_ne, zgq hk, hc, if_neg nl', if_pos nh', mh, if_true, if_neg m2, M_meet]
    · rw [g2] at mh
      have hcl : (nI i).toNatClampNeg = i := nI_clamp (by omega)
      have hcl2 : (nI (40 * k + i)).toNatClampNeg = 40 * k + i := nI_clamp (by omega)
      refine ⟨1, wa σ (20 + k) i 1, wa τ 13 (40 * k + i) 1, ?_, ?_, ?_⟩
      · simp only [zv, zy1, zy2, zy3, e, if_neg one_ne, zgq hk, hc, fX3_isLost, hr, if_neg nl, g1, if_true, zgq (show i < 40 by omega), hcl, nar1]
      · simp only [zv, zy1, zy2, zy3, e, if_neg one_ne, zgq hk, hc, if_neg nl', if_pos nh', mh, if_pos m0, at40, zgq (show 40 * k + i < 160 by omega), hcl2, nar1]
      · refine Rel_sh h (fun _ _ _ => rfl) rfl (fun j hj => by rw [za_wa, if_neg (by omega)]) (fun _ _ => rfl) (fun _ _ => rfl) (fun j hj => by rw [za_wa, if_neg (by omega)]) (Rel_RS h).2 ?_
        have u1 : za (wa σ (20 + k) i 1) (20 + k) = upd (za σ (20 + k)) i 1 := if_pos rfl
        have u2 : za (wa τ 13 (40 * k + i) 1) 13 = upd (za τ 13) (40 * k + i) 1 := rfl
        refine RS_item (k := k) (i := i) hs hk (by omega) (fun _ _ => ⟨rfl, rfl⟩) rfl rfl (fun j _ z => ⟨rfl, rfl, by rw [za_wa, if_neg (by omega)]⟩) (fun y hy => ⟨rfl, rfl, by rw [u1, upd_n hy]⟩) (fun y hy => ⟨rfl, rfl, by rw [u2, upd_n hy]⟩) (Or.inr (Or.inr ⟨q, ?_⟩))
        rw [u1, u2, upd_s, upd_s]
        exact ⟨rfl, Or.inr rfl, fun z => absurd z (by decide)⟩
theorem ok_put_ : ok_put Rel := by
  intro σ τ v f x y h
  unfold fX6_put fX7_put
  rw [X_isSheet, M_isSheet, X_isForm, M_in]
  rcases zw_sh (v := v) with e | ⟨k, hk, rfl, e, hc⟩
  · refine ⟨-2, σ, τ, ?_, ?_, h⟩ <;> simp only [zv, zy1, zy2, zy3, e, if_true]
  rcases zw01 f 0 3 with e2 | e2
  · refine ⟨-2, σ, τ, ?_, ?_, h⟩ <;> simp only [zv, zy1, zy2, zy3, e, e2, if_true, if_neg one_ne]
  have hs := (Rel_RS h).1
  obtain ⟨r1, r2, ⟨sz, hsz, r3⟩, r4⟩ := hs k hk
  have m1 : ¬ (1 : Int32) ≤ 0 := by decide
  have m2 : ¬ (2 : Int32) ≤ 0 := by decide
  have m3 : ¬ (3 : Int32) ≤ 0 := by decide
  have m0 : (0 : Int32) ≤ 0 := by decide
  by_cases nl : zi σ (20 + k) = -1
  · have q' : za τ 11 k = -1 := by rw [← r1]; exact nl
    refine ⟨-10 - 1, wi σ 3 1, wi τ 5 1, ?_, ?_, Rel_find h 1⟩
    · simp only [zv, zy1, zy2, zy3, e, e2, if_neg one_ne, zgq hk, hc, fX3_isLost, if_pos nl, X_find]
    · simp only [zv, zy1, zy2, zy3, e, e2, if_neg one_ne, zgq hk, hc, if_pos q', if_neg m1, M_meet]
  have nl' : ¬ za τ 11 k = -1 := by rw [← r1]; exact nl
  by_cases qf : zi σ (20 + k) = f
  · have qf' : za τ 11 k = f := by rw [← r1]; exact qf
    have r3' : za τ 12 k = nI sz := by rw [← r2]; exact r3
    have mh := M_has (τ := τ) hk r3' x
    rcases X_has r3 hsz x with ⟨g1, g2⟩ | ⟨i, hi, rfl, g1, g2⟩
    · rw [g2] at mh
      refine ⟨-10 - 2, wi σ 3 2, wi τ 5 2, ?_, ?_, Rel_find h 2⟩
      · simp only [zv, zy1, zy2, zy3, e, e2, if_neg one_ne, zgq hk, hc, fX3_isLost, if_neg nl, if_pos qf, g1, if_true, X_find]
      · simp only [zv, zy1, zy2, zy3, e, e2, if_neg one_ne, zgq hk, hc, if_neg nl', if_pos qf', mh, if_true, if_neg m2, M_meet]
    · rw [g2] at mh
      have hcl : (nI i).toNatClampNeg = i := nI_clamp (by omega)
      have hcl2 : (nI (40 * k + i)).toNatClampNeg = 40 * k + i := nI_clamp (by omega)
      have z32 := zn32_of (f8_val y)
      have zf2 := zn64_of (f8d_val y)
      have z64 : zn64 (FP.ddiv (FP.i2d y) (4620693217682128896 : UInt64)) = true := zn64_of (d8_val y)
      -- the model's part
      obtain ⟨xw, xr, hx, hr⟩ : ∃ (xw : Int64) (xr : UInt64), (if f = 1 then some (y.toInt64 * (100000007 : Int64)) else some y.toInt64) = some xw ∧ (if f = 2 then (zg (zn32 (FP.fdiv (FP.i2f y) (1090519040 : UInt32))) (zg (zn64 (FP.f2d (FP.fdiv (FP.i2f y) (1090519040 : UInt32)))) (some (FP.f2d (FP.fdiv (FP.i2f y) (1090519040 : UInt32)))))) else zg (zn64 (FP.ddiv (FP.i2d y) (4620693217682128896 : UInt64))) (some (FP.ddiv (FP.i2d y) (4620693217682128896 : UInt64)))) = some xr := by
        rw [zg_t z32, zg_t zf2, zg_t z64]
        refine ⟨if f = 1 then y.toInt64 * (100000007 : Int64) else y.toInt64, if f = 2 then FP.f2d (FP.fdiv (FP.i2f y) (1090519040 : UInt32)) else FP.ddiv (FP.i2d y) (4620693217682128896 : UInt64), ?_, ?_⟩
        · split <;> rfl
        · split <;> rfl
      have hm : fX7_keeps (nI (40 * k + i)) xr (wj τ 2 (40 * k + i) xw) = some (wa (wd (wj τ 2 (40 * k + i) xw) 0 (40 * k + i) xr) 13 (40 * k + i) 0) := by
        unfold fX7_keeps
        simp only [zv, zgq (show 40 * k + i < 160 by omega), hcl2, nar0]
      have hmm : ∀ σ' : zS, fX3_store k (nI i) y σ = some σ' → Rel σ' (wa (wd (wj τ 2 (40 * k + i) xw) 0 (40 * k + i) xr) 13 (40 * k + i) 0) → ∃ (r : Int32) (σ' τ' : zS), (zy1 (some (zw (nI k) 0 3)) fun x1 => if x1 = 0 then some (-2, σ) else zy1 (some (zw f 0 3)) fun x2 => if x2 = 0 then some (-2, σ) else zg (zq (nI k) 4) (zy1 (fX3_isLost (nI k).toNatClampNeg σ) fun x4 => if x4 = 0 then (if zi σ (20 + (nI k).toNatClampNeg) = f then (zy1 (fX3_has (nI k).toNatClampNeg (nI i) σ) fun x5 => if x5 = 0 then (zy2 (fX6_finding 2 σ) fun x6 s7 => some (x6, s7)) else (zy1 (fX3_store (nI k).toNatClampNeg (nI i) y σ) fun s8 => some (1, s8))) else (zy2 (fX6_finding 3 σ) fun x9 s10 => some (x9, s10))) else (zy2 (fX6_finding 1 σ) fun x11 s12 => some (x11, s12)))) = some (r, σ') ∧ (zy1 (some (zw (nI k) 0 3)) fun x1 => if x1 = 0 then some (-2, τ) else zy1 (some (zw f 0 3)) fun x2 => if x2 = 0 then some (-2, τ) else zg (zq (nI k) 4) (zy1 (if za τ 11 (nI k).toNatClampNeg = -1 then some 1 else zg (zq (nI k) 4) (if za τ 11 (nI k).toNatClampNeg = f then (zy1 (fX7_hasItem (nI k) (nI i) τ) fun x3 => if x3 = 0 then some 2 else some 0) else some 3)) fun x4 => if x4 ≤ 0 then (zy1 (if f = 1 then some (y.toInt64 * (100000007 : Int64)) else some y.toInt64) fun x5 => zg (zq (40 * nI k + nI i) 160) (zv (wj τ 2 (40 * nI k + nI i).toNatClampNeg x5) fun s6 => zy1 (if f = 2 then (zg (zn32 (FP.fdiv (FP.i2f y) (1090519040 : UInt32))) (zg (zn64 (FP.f2d (FP.fdiv (FP.i2f y) (1090519040 : UInt32)))) (some (FP.f2d (FP.fdiv (FP.i2f y) (1090519040 : UInt32)))))) else zg (zn64 (FP.ddiv (FP.i2d y) (4620693217682128896 : UInt64))) (some (FP.ddiv (FP.i2d y) (4620693217682128896 : UInt64)))) fun x7 => zy1 (fX7_keeps (40 * nI k + nI i) x7 s6) fun s8 => some (1, s8))) else (zy2 (fX7_meets x4 τ) fun x9 s10 => some (x9, s10)))) = some (r, τ') ∧ Rel σ' τ' := by
        intro σ' g3 hR
        refine ⟨1, σ', _, ?_, ?_, hR⟩
        · simp only [zv, zy1, zy2, zy3, e, e2, if_neg one_ne, zgq hk, hc, fX3_isLost, if_neg nl, if_pos qf, g1, if_true, g3]
        · simp only [zv, zy1, e, e2, if_neg one_ne, zgq hk, hc, if_neg nl', if_pos qf', mh, if_pos m0, at40, zgq (show 40 * k + i < 160 by omega), hcl2, hx, hr, hm]
      have frame : ∀ (σ' : zS), (∀ j, zi σ' j = zi σ j) → zl σ' = zl σ → (∀ j, j ≠ 20 + k → za σ' j = za σ j) → (∀ j, j ≠ 10 + k → zj σ' j = zj σ j) → (∀ j, j ≠ 0 + k → zd σ' j = zd σ j) → (∀ z, z ≠ i → zj σ' (10 + k) z = zj σ (10 + k) z ∧ zd σ' (0 + k) z = zd σ (0 + k) z ∧ za σ' (20 + k) z = za σ (20 + k) z) → (((zi σ (20 + k) = 0 ∨ zi σ (20 + k) = 1) ∧ zj σ' (10 + k) i = xw ∧ za σ' (20 + k) i = 0) ∨ ((zi σ (20 + k) = 2 ∨ zi σ (20 + k) = 3) ∧ za σ' (20 + k) i = 0 ∧ zd σ' (0 + k) i = xr ∧ zn64 (FP.dmul eight xr) = true)) → Rel σ' (wa (wd (wj τ 2 (40 * k + i) xw) 0 (40 * k + i) xr) 13 (40 * k + i) 0) := by
        intro σ' f1 f2 f3 f4 f5 f6 f7
        refine Rel_sh h (fun j _ _ => f1 j) f2 (fun j hj => f3 j (by omega)) (fun j hj => f4 j (by omega)) (fun _ _ => rfl) (fun j hj => by rw [za_wa, if_neg (by omega)]; rfl) (by rw [f1]; exact (Rel_RS h).2) ?_
        have u1 : zj (wa (wd (wj τ 2 (40 * k + i) xw) 0 (40 * k + i) xr) 13 (40 * k + i) 0) 2 = vp_updL (zj τ 2) (40 * k + i) xw := rfl
        have u2 : zd (wa (wd (wj τ 2 (40 * k + i) xw) 0 (40 * k + i) xr) 13 (40 * k + i) 0) 0 = vf_upd (zd τ 0) (40 * k + i) xr := rfl
        have u3 : za (wa (wd (wj τ 2 (40 * k + i) xw) 0 (40 * k + i) xr) 13 (40 * k + i) 0) 13 = upd (za τ 13) (40 * k + i) 0 := rfl
        refine RS_item (k := k) (i := i) hs hk (by omega) (fun j _ => ⟨f1 _, f1 _⟩) rfl rfl (fun j _ z => ⟨f4 _ (by omega), f5 _ (by omega), f3 _ (by omega)⟩) f6 (fun z hz => ⟨by rw [u1, updL_n hz], by rw [u2, updD_n hz], by rw [u3, upd_n hz]⟩) (Or.inr ?_)
        rw [u1, u2, u3, updL_s, updD_s, upd_s]
        rcases f7 with ⟨p1, p2, p3⟩ | ⟨p1, p2, p3, p4⟩
        · exact Or.inl ⟨p1, p2, p3⟩
        · exact Or.inr ⟨p1, p2, Or.inl p2, fun _ => ⟨p3, by rw [p3]; exact p4⟩⟩
      have w0 : za (wa σ (20 + k) i 0) (20 + k) = upd (za σ (20 + k)) i 0 := if_pos rfl
      have hz0 : zi (wa σ (20 + k) i 0) (20 + k) = zi σ (20 + k) := rfl
      rcases r4 with q | ⟨q, _⟩ | ⟨q, _⟩
      · exact absurd q nl
      · rcases q with q | q
        · have ef : f = 0 := by rw [← qf]; exact q
          subst ef
          have exw : xw = y.toInt64 := (Option.some.inj hx).symm
          refine hmm (wj (wa σ (20 + k) i 0) (10 + k) i y.toInt64) ?_ ?_
          · unfold fX3_store
            simp only [zv, zgq (show i < 40 by omega), hcl, nar0, hz0, if_pos q]
          · have w1 : zj (wj (wa σ (20 + k) i 0) (10 + k) i y.toInt64) (10 + k) = vp_updL (zj σ (10 + k)) i y.toInt64 := if_pos rfl
            refine frame _ (fun _ => rfl) rfl (fun j hj => by show za (wa σ (20 + k) i 0) j = _; rw [za_wa, if_neg hj]) (fun j hj => by rw [zj_wj, if_neg hj]; rfl) (fun _ _ => rfl) (fun z hz => ⟨by rw [w1, updL_n hz], rfl, by show za (wa σ (20 + k) i 0) (20 + k) z = _; rw [w0, upd_n hz]⟩) (Or.inl ⟨Or.inl q, by rw [w1, updL_s, exw], by show za (wa σ (20 + k) i 0) (20 + k) i = 0; rw [w0, upd_s]⟩)
        · have ef : f = 1 := by rw [← qf]; exact q
          subst ef
          have exw : xw = y.toInt64 * 100000007 := (Option.some.inj hx).symm
          have n0 : ¬ zi σ (20 + k) = 0 := by rw [q]; decide
          refine hmm (wj (wa σ (20 + k) i 0) (10 + k) i (y.toInt64 * 100000007)) ?_ ?_
          · unfold fX3_store
            simp only [zv, zgq (show i < 40 by omega), hcl, nar0, hz0, if_neg n0, if_pos q]
          · have w1 : zj (wj (wa σ (20 + k) i 0) (10 + k) i (y.toInt64 * 100000007)) (10 + k) = vp_updL (zj σ (10 + k)) i (y.toInt64 * 100000007) := if_pos rfl
            refine frame _ (fun _ => rfl) rfl (fun j hj => by show za (wa σ (20 + k) i 0) j = _; rw [za_wa, if_neg hj]) (fun j hj => by rw [zj_wj, if_neg hj]; rfl) (fun _ _ => rfl) (fun z hz => ⟨by rw [w1, updL_n hz], rfl, by show za (wa σ (20 + k) i 0) (20 + k) z = _; rw [w0, upd_n hz]⟩) (Or.inl ⟨Or.inr q, by rw [w1, updL_s, exw], by show za (wa σ (20 + k) i 0) (20 + k) i = 0; rw [w0, upd_s]⟩)
      · rcases q with q | q
        · have ef : f = 2 := by rw [← qf]; exact q
          subst ef
          have n0 : ¬ zi σ (20 + k) = 0 := by rw [q]; decide
          have n1 : ¬ zi σ (20 + k) = 1 := by rw [q]; decide
          rw [if_pos rfl, zg_t z32, zg_t zf2] at hr
          have exr : xr = FP.f2d (FP.fdiv (FP.i2f y) (1090519040 : UInt32)) := (Option.some.inj hr).symm
          refine hmm (wd (wa σ (20 + k) i 0) (0 + k) i xr) ?_ ?_
          · unfold fX3_store
            simp only [zv, zgq (show i < 40 by omega), hcl, nar0, hz0, if_neg n0, if_neg n1, if_pos q, zg_t z32, zg_t zf2, exr]
          · have w1 : zd (wd (wa σ (20 + k) i 0) (0 + k) i xr) (0 + k) = vf_upd (zd σ (0 + k)) i xr := if_pos rfl
            refine frame _ (fun _ => rfl) rfl (fun j hj => by show za (wa σ (20 + k) i 0) j = _; rw [za_wa, if_neg hj]) (fun _ _ => rfl) (fun j hj => by rw [zd_wd, if_neg hj]; rfl) (fun z hz => ⟨rfl, by rw [w1, updD_n hz], by show za (wa σ (20 + k) i 0) (20 + k) z = _; rw [w0, upd_n hz]⟩) (Or.inr ⟨Or.inl q, by show za (wa σ (20 + k) i 0) (20 + k) i = 0; rw [w0, upd_s], by rw [w1, updD_s], by rw [exr]; exact good_of (f8d_val y)⟩)
        · have ef : f = 3 := by rw [← qf]; exact q
          subst ef
          have n0 : ¬ zi σ (20 + k) = 0 := by rw [q]; decide
          have n1 : ¬ zi σ (20 + k) = 1 := by rw [q]; decide
          have n2 : ¬ zi σ (20 + k) = 2 := by rw [q]; decide
          have n32 : ¬ (3 : Int32) = 2 := by decide
          rw [if_neg n32, zg_t z64] at hr
          have exr : xr = FP.ddiv (FP.i2d y) (4620693217682128896 : UInt64) := (Option.some.inj hr).symm
          refine hmm (wd (wa σ (20 + k) i 0) (0 + k) i xr) ?_ ?_
          · unfold fX3_store
            simp only [zv, zgq (show i < 40 by omega), hcl, nar0, hz0, if_neg n0, if_neg n1, if_neg n2, zg_t z64, exr]
          · have w1 : zd (wd (wa σ (20 + k) i 0) (0 + k) i xr) (0 + k) = vf_upd (zd σ (0 + k)) i xr := if_pos rfl
            refine frame _ (fun _ => rfl) rfl (fun j hj => by show za (wa σ (20 + k) i 0) j = _; rw [za_wa, if_neg hj]) (fun _ _ => rfl) (fun j hj => by rw [zd_wd, if_neg hj]; rfl) (fun z hz => ⟨rfl, by rw [w1, updD_n hz], by show za (wa σ (20 + k) i 0) (20 + k) z = _; rw [w0, upd_n hz]⟩) (Or.inr ⟨Or.inr q, by show za (wa σ (20 + k) i 0) (20 + k) i = 0; rw [w0, upd_s], by rw [w1, updD_s], by rw [exr]; exact good_of (d8_val y)⟩)
  · have qf' : ¬ za τ 11 k = f := by rw [← r1]; exact qf
    refine ⟨-10 - 3, wi σ 3 3, wi τ 5 3, ?_, ?_, Rel_find h 3⟩
    · simp only [zv, zy1, zy2, zy3, e, e2, if_neg one_ne, zgq hk, hc, fX3_isLost, if_neg nl, if_neg qf, if_true, X_find]
    · simp only [zv, zy1, zy2, zy3, e, e2, if_neg one_ne, zgq hk, hc, if_neg nl', if_neg qf', if_neg m3, M_meet]

theorem X_refuse (n : Int32) (σ : zS) : fX6_refusal n σ = some ((-9223372036854775808 : Int64) - n.toInt64) := rfl
theorem M_no (n : Int32) (τ : zS) : fX7_no n τ = some ((-9223372036854775808 : Int64) - n.toInt64) := rfl
theorem ok_get_ : ok_get Rel := by
  intro σ τ v x h
  unfold fX6_get fX7_get
  rw [X_isSheet, M_isSheet]
  rcases zw_sh (v := v) with e | ⟨k, hk, rfl, e, hc⟩
  · refine ⟨(-9223372036854775808 : Int64) - (-2 : Int32).toInt64, σ, τ, ?_, ?_, h⟩
    · simp only [zv, zy1, zy2, zy3, e, if_true, X_refuse]
    · simp only [zv, zy1, zy2, zy3, e, if_true, M_no]
  have hs := (Rel_RS h).1
  obtain ⟨r1, r2, ⟨sz, hsz, r3⟩, r4⟩ := hs k hk
  have m1 : ¬ (1 : Int32) ≤ 0 := by decide
  have m2 : ¬ (2 : Int32) ≤ 0 := by decide
  have m0 : (0 : Int32) ≤ 0 := by decide
  by_cases nl : zi σ (20 + k) = -1
  · have q' : za τ 11 k = -1 := by rw [← r1]; exact nl
    refine ⟨(-9223372036854775808 : Int64) - ((-10 : Int32) - 1).toInt64, wi σ 3 1, wi τ 5 1, ?_, ?_, Rel_find h 1⟩
    · simp only [zv, zy1, zy2, zy3, e, if_neg one_ne, zgq hk, hc, fX3_isLost, if_pos nl, X_find, X_refuse]
    · simp only [zv, zy1, zy2, zy3, e, if_neg one_ne, zgq hk, hc, if_pos q', if_neg m1, M_meet, M_no]
  have nl' : ¬ za τ 11 k = -1 := by rw [← r1]; exact nl
  have r3' : za τ 12 k = nI sz := by rw [← r2]; exact r3
  have mh := M_has (τ := τ) hk r3' x
  rcases X_has r3 hsz x with ⟨g1, g2⟩ | ⟨i, hi, rfl, g1, g2⟩
  · rw [g2] at mh
    refine ⟨(-9223372036854775808 : Int64) - ((-10 : Int32) - 2).toInt64, wi σ 3 2, wi τ 5 2, ?_, ?_, Rel_find h 2⟩
    · simp only [zv, zy1, zy2, zy3, e, if_neg one_ne, zgq hk, hc, fX3_isLost, if_neg nl, g1, if_true, X_find, X_refuse]
    · simp only [zv, zy1, zy2, zy3, e, if_neg one_ne, zgq hk, hc, if_neg nl', mh, if_true, if_neg m2, M_meet, M_no]
  rw [g2] at mh
  have hcl : (nI i).toNatClampNeg = i := nI_clamp (by omega)
  have hcl2 : (nI (40 * k + i)).toNatClampNeg = 40 * k + i := nI_clamp (by omega)
  rcases r4 with q | ⟨q, q6⟩ | ⟨q, q6⟩
  · exact absurd q nl
  · have t := q6 i (by omega)
    have t1 : zj σ (10 + k) i = zj τ 2 (40 * k + i) := t.1
    have n2 : ¬ zi σ (20 + k) = 2 := by rcases q with q | q <;> rw [q] <;> decide
    have n3 : ¬ zi σ (20 + k) = 3 := by rcases q with q | q <;> rw [q] <;> decide
    have nh' : ¬ 2 ≤ za τ 11 k := by rw [← r1]; rcases q with q | q <;> rw [q] <;> decide
    refine ⟨zj σ (10 + k) i, σ, τ, ?_, ?_, h⟩
    · simp only [zv, zy1, zy2, zy3, e, if_neg one_ne, zgq hk, hc, fX3_isLost, if_neg nl, g1, if_true, zgq (show i < 40 by omega), hcl, t.2, fX3_told, fX3_holdsReals, if_neg n2, if_neg n3]
    · simp only [zv, zy1, zy2, zy3, e, if_neg one_ne, zgq hk, hc, if_neg nl', mh, if_pos m0, fX7_itemOf, if_neg nh', at40, zgq (show 40 * k + i < 160 by omega), hcl2, t1]
  · have t := q6 i (by omega)
    have t1 : za σ (20 + k) i = za τ 13 (40 * k + i) := t.1
    have hr : fX3_holdsReals k σ = some 1 := by
      unfold fX3_holdsReals
      rcases q with q | q
      · rw [if_pos q]
      · have n2 : ¬ zi σ (20 + k) = 2 := by rw [q]; decide
        rw [if_neg n2, if_pos q]
    have nh' : 2 ≤ za τ 11 k := by rw [← r1]; rcases q with q | q <;> rw [q] <;> decide
    by_cases b0 : za σ (20 + k) i = 0
    · obtain ⟨t2, t3⟩ := t.2.2 b0
      have t2 : zd σ (0 + k) i = zd τ 0 (40 * k + i) := t2
      have b0' : za τ 13 (40 * k + i) = 0 := by rw [← t1]; exact b0
      have t3' : zn64 (FP.dmul (4620693217682128896 : UInt64) (zd σ (0 + k) i)) = true := t3
      have t4' : zn64 (FP.dmul (4620693217682128896 : UInt64) (zd τ 0 (40 * k + i))) = true := by rw [← t2]; exact t3'
      refine ⟨FP.d2l (FP.dmul (4620693217682128896 : UInt64) (zd σ (0 + k) i)), σ, τ, ?_, ?_, h⟩
      · simp only [zv, zy1, zy2, zy3, e, if_neg one_ne, zgq hk, hc, fX3_isLost, if_neg nl, g1, if_true, zgq (show i < 40 by omega), hcl, if_pos b0, fX3_told, hr, zg_t t3']
      · simp only [zv, zy1, zy2, zy3, e, if_neg one_ne, zgq hk, hc, if_neg nl', mh, if_pos m0, fX7_itemOf, if_pos nh', at40, zgq (show 40 * k + i < 160 by omega), hcl2, if_pos b0', zg_t t4', t2]
    · have b0' : ¬ za τ 13 (40 * k + i) = 0 := by rw [← t1]; exact b0
      refine ⟨(-9223372036854775808 : Int64) - (-1 : Int32).toInt64, σ, τ, ?_, ?_, h⟩
      · simp only [zv, zy1, zy2, zy3, e, if_neg one_ne, zgq hk, hc, fX3_isLost, if_neg nl, g1, if_true, zgq (show i < 40 by omega), hcl, if_neg b0, X_refuse]
      · simp only [zv, zy1, zy2, zy3, e, if_neg one_ne, zgq hk, hc, if_neg nl', mh, if_pos m0, fX7_itemOf, if_pos nh', at40, zgq (show 40 * k + i < 160 by omega), hcl2, if_neg b0', M_no]
/-- both loops of found -/
theorem foundLoop {σ τ : zS} {k sz : Nat} {g w : Int32} (hk : k < 4) (hsz : sz ≤ 40) (h1 : zi σ (30 + k) = nI sz) (h2 : za τ 12 k = nI sz) (hi : ∀ i, i < 40 → za σ (20 + k) i = za τ 13 (40 * k + i) ∧ (za σ (20 + k) i = 0 → zd σ (0 + k) i = zd τ 0 (40 * k + i))) (hg : g = 0 ↔ w = 0) : ∀ n i b c, i ≤ sz → sz < i + n → (b = -1 ∨ ∃ j, j < i ∧ b = nI j ∧ za σ (20 + k) j = 0) → ∃ b' c', fX3_countNoNumbers_4 k σ n c (nI i) = some c' ∧ fX3_extreme_4 k g σ n b (nI i) = some b' ∧ fX7_foundOf_8 (nI k) w τ n b c (nI i) = some (b', c') := by
  have hc : (nI k).toNatClampNeg = k := nI_clamp (by omega)
  intro n
  induction n with
  | zero => intro i b c q1 q2; omega
  | succ n ih =>
    intro i b c q1 q2 hb
    rw [fX3_countNoNumbers_4, fX3_extreme_4, fX7_foundOf_8, zgq hk, hc, h1, h2]
    by_cases q : sz ≤ i
    · rw [if_pos (nI_le q (by omega)), if_pos (nI_le q (by omega)), if_pos (nI_le q (by omega))]
      exact ⟨b, c, rfl, rfl, rfl⟩
    · have hcl : (nI i).toNatClampNeg = i := nI_clamp (by omega)
      have hcl2 : (nI (40 * k + i)).toNatClampNeg = 40 * k + i := nI_clamp (by omega)
      have ng : ¬ nI sz ≤ nI i := nI_ge (by omega) (by omega)
      obtain ⟨t1, t2⟩ := hi i (by omega)
      have z0 : c + 0 = c := Int32.add_zero c
      by_cases e0 : za σ (20 + k) i = 0
      · have e0' : za τ 13 (40 * k + i) = 0 := by rw [← t1]; exact e0
        have t2 := t2 e0
        rcases hb with hb | ⟨j, hj, hb, hj0⟩
        · subst hb
          obtain ⟨b', c', g1, g2, g3⟩ := ih (i + 1) (nI i) c (by omega) (by omega) (Or.inr ⟨i, by omega, rfl, e0⟩)
          refine ⟨b', c', ?_, ?_, ?_⟩
          · simp only [if_neg ng, zgq (show i < 40 by omega), hcl, if_pos e0, zy1, nI_1]; exact g1
          · simp only [if_neg ng, zgq (show i < 40 by omega), hcl, if_pos e0, zy1, nI_1, if_true]; exact g2
          · simp only [if_neg ng, at40, zv, zgq (show 40 * k + i < 160 by omega), hcl2, if_pos e0', zy1, nI_1, if_true, if_neg one_ne, z0]; exact g3
        · subst hb
          have nj : ¬ nI j = -1 := nI_neg1 (by omega)
          have hclj : (nI j).toNatClampNeg = j := nI_clamp (by omega)
          have hclj2 : (nI (40 * k + j)).toNatClampNeg = 40 * k + j := nI_clamp (by omega)
          have t3 := (hi j (by omega)).2 hj0
          by_cases gw : g = 0
          · have w0 := hg.mp gw
            by_cases cmp : 0 ≤ Op.cmpValue (FP.dcmp (zd σ (0 + k) i) (zd σ (0 + k) j)) .g
            · have cmp' : 0 ≤ Op.cmpValue (FP.dcmp (zd τ 0 (40 * k + i)) (zd τ 0 (40 * k + j))) .g := by rw [← t2, ← t3]; exact cmp
              obtain ⟨b', c', g1, g2, g3⟩ := ih (i + 1) (nI j) c (by omega) (by omega) (Or.inr ⟨j, by omega, rfl, hj0⟩)
              refine ⟨b', c', ?_, ?_, ?_⟩
              · simp only [if_neg ng, zgq (show i < 40 by omega), hcl, if_pos e0, zy1, nI_1]; exact g1
              · simp only [if_neg ng, zgq (show i < 40 by omega), hcl, if_pos e0, zy1, nI_1, if_neg nj, zgq (show j < 40 by omega), hclj, fX3_isBeyond, if_pos gw, if_pos cmp, if_true]; exact g2
              · simp only [if_neg ng, at40, zv, zgq (show 40 * k + i < 160 by omega), hcl2, if_pos e0', zy1, nI_1, if_neg nj, if_pos w0, zgq (show 40 * k + j < 160 by omega), hclj2, if_pos cmp', if_true, z0]; exact g3
            · have cmp' : ¬ 0 ≤ Op.cmpValue (FP.dcmp (zd τ 0 (40 * k + i)) (zd τ 0 (40 * k + j))) .g := by rw [← t2, ← t3]; exact cmp
              obtain ⟨b', c', g1, g2, g3⟩ := ih (i + 1) (nI i) c (by omega) (by omega) (Or.inr ⟨i, by omega, rfl, e0⟩)
              refine ⟨b', c', ?_, ?_, ?_⟩
              · simp only [if_neg ng, zgq (show i < 40 by omega), hcl, if_pos e0, zy1, nI_1]; exact g1
              · simp only [if_neg ng, zgq (show i < 40 by omega), hcl, if_pos e0, zy1, nI_1, if_neg nj, zgq (show j < 40 by omega), hclj, fX3_isBeyond, if_pos gw, if_neg cmp, if_neg one_ne]; exact g2
              · simp only [if_neg ng, at40, zv, zgq (show 40 * k + i < 160 by omega), hcl2, if_pos e0', zy1, nI_1, if_neg nj, if_pos w0, zgq (show 40 * k + j < 160 by omega), hclj2, if_neg cmp', if_neg one_ne, z0]; exact g3
          · have w0 : ¬ w = 0 := fun z => gw (hg.mpr z)
            by_cases cmp : Op.cmpValue (FP.dcmp (zd σ (0 + k) i) (zd σ (0 + k) j)) .l ≤ 0
            · have cmp' : Op.cmpValue (FP.dcmp (zd τ 0 (40 * k + i)) (zd τ 0 (40 * k + j))) .l ≤ 0 := by rw [← t2, ← t3]; exact cmp
              obtain ⟨b', c', g1, g2, g3⟩ := ih (i + 1) (nI j) c (by omega) (by omega) (Or.inr ⟨j, by omega, rfl, hj0⟩)
              refine ⟨b', c', ?_, ?_, ?_⟩
              · simp only [if_neg ng, zgq (show i < 40 by omega), hcl, if_pos e0, zy1, nI_1]; exact g1
              · simp only [if_neg ng, zgq (show i < 40 by omega), hcl, if_pos e0, zy1, nI_1, if_neg nj, zgq (show j < 40 by omega), hclj, fX3_isBeyond, if_neg gw, if_pos cmp, if_true]; exact g2
              · simp only [if_neg ng, at40, zv, zgq (show 40 * k + i < 160 by omega), hcl2, if_pos e0', zy1, nI_1, if_neg nj, if_neg w0, zgq (show 40 * k + j < 160 by omega), hclj2, if_pos cmp', if_true, z0]; exact g3
            · have cmp' : ¬ Op.cmpValue (FP.dcmp (zd τ 0 (40 * k + i)) (zd τ 0 (40 * k + j))) .l ≤ 0 := by rw [← t2, ← t3]; exact cmp
              obtain ⟨b', c', g1, g2, g3⟩ := ih (i + 1) (nI i) c (by omega) (by omega) (Or.inr ⟨i, by omega, rfl, e0⟩)
              refine ⟨b', c', ?_, ?_, ?_⟩
              · simp only [if_neg ng, zgq (show i < 40 by omega), hcl, if_pos e0, zy1, nI_1]; exact g1
              · simp only [if_neg ng, zgq (show i < 40 by omega), hcl, if_pos e0, zy1, nI_1, if_neg nj, zgq (show j < 40 by omega), hclj, fX3_isBeyond, if_neg gw, if_neg cmp, if_neg one_ne]; exact g2
              · simp only [if_neg ng, at40, zv, zgq (show 40 * k + i < 160 by omega), hcl2, if_pos e0', zy1, nI_1, if_neg nj, if_neg w0, zgq (show 40 * k + j < 160 by omega), hclj2, if_neg cmp', if_neg one_ne, z0]; exact g3
      · have e0' : ¬ za τ 13 (40 * k + i) = 0 := by rw [← t1]; exact e0
        have hb' : b = -1 ∨ ∃ j, j < i + 1 ∧ b = nI j ∧ za σ (20 + k) j = 0 := hb.imp id (fun ⟨j, hj, u⟩ => ⟨j, by omega, u⟩)
        obtain ⟨b', c', g1, g2, g3⟩ := ih (i + 1) b (c + 1) (by omega) (by omega) hb'
        refine ⟨b', c', ?_, ?_, ?_⟩
        · simp only [if_neg ng, zgq (show i < 40 by omega), hcl, if_neg e0, zy1, nI_1]; exact g1
        · simp only [if_neg ng, zgq (show i < 40 by omega), hcl, if_neg e0, zy1, nI_1]; exact g2
        · simp only [if_neg ng, at40, zv, zgq (show 40 * k + i < 160 by omega), hcl2, if_neg e0', zy1, nI_1, if_true]; exact g3
theorem ok_found_ : ok_found Rel := by
  intro σ τ v w h
  unfold fX6_found fX7_found
  rw [X_isSheet, M_isSheet, X_within, M_in]
  rcases zw_sh (v := v) with e | ⟨k, hk, rfl, e, hc⟩
  · refine ⟨-2, σ, τ, ?_, ?_, h⟩ <;> simp only [zv, zy1, zy2, zy3, e, if_true]
  rcases zw01 w 0 2 with e2 | e2
  · refine ⟨-2, σ, τ, ?_, ?_, h⟩ <;> simp only [zv, zy1, zy2, zy3, e, e2, if_true, if_neg one_ne]
  have hs := (Rel_RS h).1
  obtain ⟨r1, r2, ⟨sz, hsz, r3⟩, r4⟩ := hs k hk
  have r3' : za τ 12 k = nI sz := by rw [← r2]; exact r3
  rcases r4 with q | ⟨q, _⟩ | ⟨q, q6⟩
  · have q' : za τ 11 k = -1 := by rw [← r1]; exact q
    refine ⟨-10 - 1, wi σ 3 1, wi τ 5 1, ?_, ?_, Rel_find h 1⟩
    · simp only [zv, zy1, zy2, zy3, e, e2, if_neg one_ne, zgq hk, hc, fX3_isLost, if_pos q, X_find]
    · simp only [zv, zy1, zy2, zy3, e, e2, if_neg one_ne, zgq hk, hc, if_pos q', M_meet]
  · have nl : ¬ zi σ (20 + k) = -1 := by rcases q with q | q <;> rw [q] <;> decide
    have n2 : ¬ zi σ (20 + k) = 2 := by rcases q with q | q <;> rw [q] <;> decide
    have n3 : ¬ zi σ (20 + k) = 3 := by rcases q with q | q <;> rw [q] <;> decide
    have nl' : ¬ za τ 11 k = -1 := by rw [← r1]; exact nl
    have nh' : ¬ 2 ≤ za τ 11 k := by rw [← r1]; rcases q with q | q <;> rw [q] <;> decide
    refine ⟨-10 - 3, wi σ 3 3, wi τ 5 3, ?_, ?_, Rel_find h 3⟩
    · simp only [zv, zy1, zy2, zy3, e, e2, if_neg one_ne, zgq hk, hc, fX3_isLost, fX3_holdsReals, if_neg nl, if_neg n2, if_neg n3, if_true, X_find]
    · simp only [zv, zy1, zy2, zy3, e, e2, if_neg one_ne, zgq hk, hc, if_neg nl', if_neg nh', M_meet]
  · have nl : ¬ zi σ (20 + k) = -1 := by rcases q with q | q <;> rw [q] <;> decide
    have hr : fX3_holdsReals k σ = some 1 := by
      unfold fX3_holdsReals
      rcases q with q | q
      · rw [if_pos q]
      · have n2 : ¬ zi σ (20 + k) = 2 := by rw [q]; decide
        rw [if_neg n2, if_pos q]
    have nl' : ¬ za τ 11 k = -1 := by rw [← r1]; exact nl
    have nh' : 2 ≤ za τ 11 k := by rw [← r1]; rcases q with q | q <;> rw [q] <;> decide
    have n10 : ¬ (1 : Int32) = 2 := by decide
    have fl := fun (g : Int32) (hg : g = 0 ↔ w = 0) => foundLoop (σ := σ) (τ := τ) (g := g) (w := w) hk hsz r3 r3' (fun i hi => ⟨(q6 i hi).1, fun z => ((q6 i hi).2.2 z).1⟩) hg 500 0 (-1) 0 (by omega) (by omega) (Or.inl rfl)
    rw [nI_0] at fl
    by_cases w2 : w = 2
    · obtain ⟨b', c', g1, g2, g3⟩ := fl 1 (by rw [w2]; decide)
      refine ⟨c', σ, τ, ?_, ?_, h⟩
      · simp only [zv, zy1, zy2, zy3, e, e2, if_neg one_ne, zgq hk, hc, fX3_isLost, if_neg nl, if_true, hr, if_pos w2, fX3_countNoNumbers, g1]
      · simp only [zv, zy1, zy2, zy3, e, e2, if_neg one_ne, zgq hk, hc, if_neg nl', if_pos nh', fX7_foundOf, g3, if_pos w2]
    · by_cases w1 : w = 1
      · obtain ⟨b', c', g1, g2, g3⟩ := fl 1 (by rw [w1])
        refine ⟨b', σ, τ, ?_, ?_, h⟩
        · simp only [zv, zy1, zy2, zy3, e, e2, if_neg one_ne, zgq hk, hc, fX3_isLost, if_neg nl, if_true, hr, if_neg w2, if_pos w1, fX3_extreme, g2]
        · simp only [zv, zy1, zy2, zy3, e, e2, if_neg one_ne, zgq hk, hc, if_neg nl', if_pos nh', fX7_foundOf, g3, if_neg w2]
      · have w0 : w = 0 := by
          rcases zw_C (v := w) 0 2 (by decide) (by decide) with e' | ⟨j, _, hj, rfl, _⟩
          · have e' : zw w 0 2 = 0 := e'
            rw [e'] at e2; exact absurd e2 (by decide)
          · rcases (show j = 0 ∨ j = 1 ∨ j = 2 by omega) with z | z | z
            · rw [z]; rfl
            · exact absurd (by rw [z]; rfl) w1
            · exact absurd (by rw [z]; rfl) w2
        obtain ⟨b', c', g1, g2, g3⟩ := fl 0 (by rw [w0])
        refine ⟨b', σ, τ, ?_, ?_, h⟩
        · simp only [zv, zy1, zy2, zy3, e, e2, if_neg one_ne, zgq hk, hc, fX3_isLost, if_neg nl, if_true, hr, if_neg w2, if_neg w1, fX3_extreme, g2]
        · simp only [zv, zy1, zy2, zy3, e, e2, if_neg one_ne, zgq hk, hc, if_neg nl', if_pos nh', fX7_foundOf, g3, if_neg w2]

theorem RelD_sh {N : Nat} {T : Nat → Nat} {B : Nat} {S H : Nat → Nat} {G : Nat} {ga gb : Nat → Nat} {P V md : Nat} {σ τ σ' τ' : zS} (h : FD N T B S H G ga gb P V md σ τ) (a1 : ∀ j, j < 20 → zi σ' j = zi σ j) (a2 : zl σ' = zl σ) (a3 : ∀ j, j < 20 → za σ' j = za σ j) (a4 : ∀ j, j < 10 → zj σ' j = zj σ j) (b1 : ∀ j, zi τ' j = zi τ j) (b3 : ∀ j, j < 11 → za τ' j = za τ j) (hs : RS σ' τ') : FD N T B S H G ga gb P V md σ' τ' := by
  obtain ⟨⟨h1, h2, h3, h4, h5, h6, h7, h8, h9⟩, hm⟩ := h
  refine ⟨⟨?_, ?_, ?_, ?_, ?_, ?_, ?_, hs, ?_⟩, ?_⟩
  · rw [a1 5 (by omega), b1 0, a3 1 (by omega), b3 0 (by omega)]; exact h1
  · rw [a1 6 (by omega), a3 2 (by omega), b3 1 (by omega), b3 3 (by omega), b3 4 (by omega)]; exact h2
  · rw [a1 7 (by omega), a3 3 (by omega), b3 2 (by omega)]; exact h3
  · rw [a1 0 (by omega), a3 0 (by omega), b1 1, b3 5 (by omega)]; exact h4
  · rw [a1 8 (by omega), a3 4 (by omega), a3 5 (by omega), b1 4, b3 9 (by omega), b3 10 (by omega)]; exact h5
  · rw [a1 1 (by omega), a1 2 (by omega), b1 2, b1 3]; exact h6
  · rw [a1 3 (by omega), b1 5]; exact h7
  · unfold RD at h9 ⊢
    rw [a1 4 (by omega), a1 0 (by omega), a3 0 (by omega), a1 9 (by omega), a1 10 (by omega), a1 11 (by omega), a1 12 (by omega), a1 13 (by omega), a2, a3 6 (by omega), a3 7 (by omega), a3 8 (by omega), a3 9 (by omega), a3 10 (by omega), a3 11 (by omega), a4 0 (by omega), a4 2 (by omega), a4 3 (by omega)]
    exact h9
  · rw [a1 0 (by omega), a3 0 (by omega)]; exact hm
theorem XD_sh {N : Nat} {T : Nat → Nat} {B : Nat} {S H : Nat → Nat} {G : Nat} {ga gb : Nat → Nat} {P V md : Nat} {σ σ' : zS} (h : XD N T B S H G ga gb P V md σ) (a1 : ∀ j, j < 20 → zi σ' j = zi σ j) (a2 : zl σ' = zl σ) (a3 : ∀ j, j < 20 → za σ' j = za σ j) (a4 : ∀ j, j < 10 → zj σ' j = zj σ j) : XD N T B S H G ga gb P V md σ' := by
  unfold XD at h ⊢
  rw [a1 4 (by omega), a1 10 (by omega), a1 11 (by omega), a1 12 (by omega), a1 13 (by omega), a2, a3 6 (by omega), a3 7 (by omega), a3 8 (by omega), a3 9 (by omega), a3 10 (by omega), a3 11 (by omega), a4 0 (by omega), a4 2 (by omega), a4 3 (by omega)]
  exact h
/-- a variance where nothing is due -/
theorem X_var {N : Nat} {T : Nat → Nat} {B : Nat} {S H : Nat → Nat} {G : Nat} {ga gb : Nat → Nat} {P V md m s : Nat} {ρ : zS} {w : Int32} (hd : DB N T B S H G ga gb P V) (hx : XD N T B S H G ga gb P V md ρ) (hm : 1 ≤ m ∧ m ≤ 15 ∧ 2 * m < N) (hw : zw w 0 1 = 1) (hs : s ≤ 691200000000000 ∧ Int64.ofInt (dSq (qTop T B S H md) N m) = lN s) : fX6_variance (nI m) w ρ = some (lN (lowN s (2 * dWt N m * qSc B H md * qSc B H md) w), ρ) := by
  obtain ⟨x0, x1, x2, x3, x4, x5, x6, x7, x8, x9, x10, x11⟩ := hx
  have hN := hd.1
  obtain ⟨b1, b2, b3, b4, b5⟩ := qB md hd
  have hsp : m ≤ dSp N := by
    unfold dSp
    split <;> omega
  have hsb : dSp N ≤ 15 := by
    unfold dSp
    split <;> omega
  have hcl : (nI m).toNatClampNeg = m := nI_clamp (by omega)
  have c1 : nI m ≤ nI (dSp N) := nI_le hsp (by omega)
  obtain ⟨w1, w2⟩ := dWt_b hN hm.2.1 hm.1 hm.2.2
  obtain ⟨q1, q2⟩ := x10 m hm.1 hsp
  have hden : 2 * dWt N m * qSc B H md * qSc B H md ≤ 2 * 6750 * 400 * 400 := Nat.mul_le_mul (Nat.mul_le_mul (by omega) b2) b2
  have hpos : 1 * 1 * 1 ≤ 2 * dWt N m * qSc B H md * qSc B H md := Nat.mul_le_mul (Nat.mul_le_mul (by omega) b1) b1
  have eS : (nI (qSc B H md)).toInt64 = lN (qSc B H md) := nI_l (by omega)
  have e2 : (2 : Int64) * lN (dWt N m) = lN (2 * dWt N m) := lN_mul 2 _
  have hv : zw (nI m) 1 15 = 1 := zw_1 1 15 m hm.1 hm.2.1 (by decide)
  have p1 : fX6_renew ρ = some ρ := by
    unfold fX6_renew
    rw [if_pos x0]
  unfold fX6_variance
  rw [X_within, hv, X_isHalf, hw, p1]
  simp only [zv, zy1, zy2, zy3, if_neg one_ne, x9, if_pos c1, zgq (show m < 16 by omega), hcl, q1, q2, hs.2, x1, eS, e2, lN_mul, X_low (show s < 2 ^ 63 by omega) (show 2 * dWt N m * qSc B H md * qSc B H md < 2 ^ 63 by omega) (show 0 < 2 * dWt N m * qSc B H md * qSc B H md by omega)]
theorem M_var {N : Nat} {T : Nat → Nat} {B : Nat} {S H : Nat → Nat} {G : Nat} {ga gb : Nat → Nat} {P V md m s : Nat} {σ τ : zS} {w : Int32} (h : FD N T B S H G ga gb P V md σ τ) (hm : 1 ≤ m ∧ m ≤ 15 ∧ 2 * m < N) (hs : s ≤ 691200000000000 ∧ Int64.ofInt (dSq (qTop T B S H md) N m) = lN s) : ∃ τ', fX7_varianceOf (nI m) w τ = some (lN (lowN s (2 * dWt N m * qSc B H md * qSc B H md) w), τ') ∧ FD N T B S H G ga gb P V md σ τ' := by
  obtain ⟨hd, _, _⟩ := FD_B h
  have hN := hd.1
  obtain ⟨b1, b2, b3, b4, b5⟩ := qB md hd
  obtain ⟨τ', p2, h'', y1, y2, y3, y4⟩ := M_due h
  have m1 := (FD_B h'').2.2.1
  have e3 : 2 * nI m = nI (2 * m) := nI_mul 2 m
  have c2 : ¬ nI N ≤ nI (2 * m) := nI_ge hm.2.2 (by omega)
  obtain ⟨w1, w2⟩ := dWt_b hN hm.2.1 hm.1 hm.2.2
  have hden : 2 * dWt N m * qSc B H md * qSc B H md ≤ 2 * 6750 * 400 * 400 := Nat.mul_le_mul (Nat.mul_le_mul (by omega) b2) b2
  have hpos : 1 * 1 * 1 ≤ 2 * dWt N m * qSc B H md * qSc B H md := Nat.mul_le_mul (Nat.mul_le_mul (by omega) b1) b1
  refine ⟨τ', ?_, h''⟩
  unfold fX7_varianceOf
  rw [p2]
  simp only [zv, zy1, zy2, zy3, m1, e3, if_neg c2, M_squares hN m1 y2 hm.2.2, M_weight hN m1 hm.2.2, hs.2, y1, lN_mul, M_low (show s < 2 ^ 63 by omega) (show 2 * dWt N m * qSc B H md * qSc B H md < 2 ^ 63 by omega) (show 0 < 2 * dWt N m * qSc B H md * qSc B H md by omega)]
theorem writeLoop {N : Nat} {T : Nat → Nat} {B : Nat} {S H : Nat → Nat} {G : Nat} {ga gb : Nat → Nat} {P V md k sz : Nat} (hk : k < 4) (hsz : sz ≤ 40) : ∀ n m c ρ τ, 1 ≤ m → m ≤ 16 → 16 < m + n → FD N T B S H G ga gb P V md ρ τ → XD N T B S H G ga gb P V md ρ → zi ρ (30 + k) = nI sz → zi ρ (20 + k) = 3 → ∃ r σ' τ', fX6_write_53 k n c (nI m) ρ = some (r, σ') ∧ fX7_write_54 (nI k) n c (nI m) τ = some (r, τ') ∧ FD N T B S H G ga gb P V md σ' τ' := by
  intro n
  induction n with
  | zero => intro m c ρ τ h0 h1 h2; omega
  | succ n ih =>
    intro m c ρ τ h0 h1 h2 h hx hz hf
    obtain ⟨hd, _, hm'⟩ := FD_B h
    have hN := hd.1
    obtain ⟨b1, b2, b3, b4, b5⟩ := qB md hd
    have hs := h.1.2.2.2.2.2.2.2.1
    have r2 := (hs k hk).2.1
    have hz' : za τ 12 k = nI sz := by rw [← r2]; exact hz
    have hkl : (nI k).toNatClampNeg = k := nI_clamp (by omega)
    have x9 := hx.2.2.2.2.2.2.2.2.2.1
    have hsb : dSp N ≤ 15 ∧ (dSp N < m ↔ N ≤ 2 * m ∨ 15 < m) := by
      unfold dSp
      split <;> omega
    rw [fX6_write_53, fX7_write_54, zgq hk, hkl, hz, hz']
    by_cases q : m = 16
    · have c1 : (15 : Int32) < nI m := by rw [q]; decide
      rw [if_pos c1, if_pos c1]
      exact ⟨c, ρ, τ, rfl, rfl, h⟩
    · have c1 : ¬ (15 : Int32) < nI m := nI_nlt (b := m) (a := 15) (by omega) (by decide)
      rw [if_neg c1, if_neg c1]
      by_cases q2 : sz < m
      · rw [if_pos (nI_lt q2 (by omega)), if_pos (nI_lt q2 (by omega))]
        exact ⟨c, ρ, τ, rfl, rfl, h⟩
      · have e3 : 2 * nI m = nI (2 * m) := nI_mul 2 m
        have em : nI m - 1 = nI (m - 1) := nI_sub (a := m) (b := 1) h0
        have ek : (40 : Int32) * nI k + nI m - 1 = nI (40 * k + (m - 1)) := by
          rw [at40]
          have : nI (40 * k + m) - 1 = nI (40 * k + m - 1) := nI_sub (b := 1) (by omega)
          rw [this, show 40 * k + m - 1 = 40 * k + (m - 1) by omega]
        have cl1 : (nI (m - 1)).toNatClampNeg = m - 1 := nI_clamp (by omega)
        have cl2 : (nI (40 * k + (m - 1))).toNatClampNeg = 40 * k + (m - 1) := nI_clamp (by omega)
        have n2 : ¬ nI sz < nI m := nI_nlt (by omega) (by omega)
        have z0 : c + 0 = c := Int32.add_zero c
        rw [if_neg n2, if_neg n2, x9, hm'.1, e3, em, ek]
        by_cases q3 : 2 * m < N
        · have d1 : ¬ nI (dSp N) < nI m := nI_nlt (by omega) (by omega)
          have d2 : ¬ nI N ≤ nI (2 * m) := nI_ge q3 (by omega)
          obtain ⟨s, s1, s2, s3⟩ := dSq_N (m := m) hN b4 (by omega) h0
          have fr1 : ∀ j, j < 20 → za (wa ρ (20 + k) (m - 1) 0) j = za ρ j := fun j hj => by rw [za_wa, if_neg (by omega)]
          have xd1 : XD N T B S H G ga gb P V md (wa ρ (20 + k) (m - 1) 0) := XD_sh hx (fun _ _ => rfl) rfl fr1 (fun _ _ => rfl)
          have v0 := X_var (w := 0) hd xd1 ⟨h0, by omega, q3⟩ (by decide) ⟨s1, s3⟩
          have v1 := X_var (w := 1) hd xd1 ⟨h0, by omega, q3⟩ (by decide) ⟨s1, s3⟩
          obtain ⟨τ1, u0, t1⟩ := M_var (w := 0) h ⟨h0, by omega, q3⟩ ⟨s1, s3⟩
          obtain ⟨τ2, u1, t2⟩ := M_var (w := 1) t1 ⟨h0, by omega, q3⟩ ⟨s1, s3⟩
          obtain ⟨w1, w2⟩ := dWt_b hN (show m ≤ 15 by omega) h0 q3
          have hden : 2 * dWt N m * qSc B H md * qSc B H md ≤ 2 * 6750 * 400 * 400 := Nat.mul_le_mul (Nat.mul_le_mul (by omega) b2) b2
          have hpos : 1 * 1 * 1 ≤ 2 * dWt N m * qSc B H md * qSc B H md := Nat.mul_le_mul (Nat.mul_le_mul (by omega) b1) b1
          generalize 2 * dWt N m * qSc B H md * qSc B H md = dn at v0 v1 u0 u1 hden hpos
          have ne : lN (lowN s dn 1) ≠ 0 := by
            intro z
            have g1 : 0 < lowN s dn 1 := by
              unfold lowN
              rw [if_neg one_ne]
              exact Nat.div_pos (Nat.le_of_dvd (by omega) (Nat.gcd_dvd_right s dn)) (Nat.gcd_pos_of_pos_right s (by omega))
            have g2 : lowN s dn 1 ≤ dn := by
              unfold lowN
              rw [if_neg one_ne]
              exact Nat.div_le_self _ _
            have := (lN_eqI (b := 0) (by omega) (by decide)).mp z
            omega
          have qv := lq_val (a := lN (lowN s dn 0)) ne
          have qz := zn64_of qv
          have qg := good_of qv
          obtain ⟨qq, hqq⟩ : ∃ q, q = FP.ddiv (FP.l2d (lN (lowN s dn 0))) (FP.l2d (lN (lowN s dn 1))) := ⟨_, rfl⟩
          rw [← hqq] at qv qz qg
          have f1 : za (wd (wa ρ (20 + k) (m - 1) 0) (0 + k) (m - 1) qq) (20 + k) = upd (za ρ (20 + k)) (m - 1) 0 := if_pos rfl
          have f2 : zd (wd (wa ρ (20 + k) (m - 1) 0) (0 + k) (m - 1) qq) (0 + k) = vf_upd (zd ρ (0 + k)) (m - 1) qq := if_pos rfl
          have f3 : za (wa (wa (wd τ2 0 (40 * k + (m - 1)) qq) 13 (40 * k + (m - 1)) 0) 13 (40 * k + (m - 1)) 0) 13 = upd (upd (za τ2 13) (40 * k + (m - 1)) 0) (40 * k + (m - 1)) 0 := rfl
          have f4 : zd (wa (wa (wd τ2 0 (40 * k + (m - 1)) qq) 13 (40 * k + (m - 1)) 0) 13 (40 * k + (m - 1)) 0) 0 = vf_upd (zd τ2 0) (40 * k + (m - 1)) qq := rfl
          have fr2 : ∀ j, j < 20 → za (wd (wa ρ (20 + k) (m - 1) 0) (0 + k) (m - 1) qq) j = za ρ j := fr1
          have rs : RS (wd (wa ρ (20 + k) (m - 1) 0) (0 + k) (m - 1) qq) (wa (wa (wd τ2 0 (40 * k + (m - 1)) qq) 13 (40 * k + (m - 1)) 0) 13 (40 * k + (m - 1)) 0) := by
            refine RS_item (k := k) (i := m - 1) t2.1.2.2.2.2.2.2.2.1 hk (by omega) (fun _ _ => ⟨rfl, rfl⟩) rfl rfl (fun j _ z => ⟨rfl, by rw [zd_wd, if_neg (by omega)]; rfl, ?_⟩) (fun y hy => ⟨rfl, by rw [f2, updD_n hy], by rw [f1, upd_n hy]⟩) (fun y hy => ⟨rfl, by rw [f4, updD_n hy], by rw [f3, upd_n hy, upd_n hy]⟩) (Or.inr (Or.inr ⟨Or.inr hf, ?_⟩))
            · show za (wa ρ (20 + k) (m - 1) 0) (20 + j) = _
              rw [za_wa, if_neg (by omega)]
            · rw [f1, f2, f3, f4, upd_s, updD_s, upd_s, updD_s]
              exact ⟨rfl, Or.inl rfl, fun _ => ⟨rfl, qg⟩⟩
          have h3 : FD N T B S H G ga gb P V md (wd (wa ρ (20 + k) (m - 1) 0) (0 + k) (m - 1) qq) (wa (wa (wd τ2 0 (40 * k + (m - 1)) qq) 13 (40 * k + (m - 1)) 0) 13 (40 * k + (m - 1)) 0) := RelD_sh t2 (fun _ _ => rfl) rfl fr2 (fun _ _ => rfl) (fun _ => rfl) (fun j hj => by rw [za_wa, if_neg (by omega), za_wa, if_neg (by omega)]; rfl) rs
          have x3 := XD_sh (σ' := wd (wa ρ (20 + k) (m - 1) 0) (0 + k) (m - 1) qq) hx (fun _ _ => rfl) rfl fr2 (fun _ _ => rfl)
          obtain ⟨r, σ', τ', g1, g2, g3⟩ := ih (m + 1) (c + 1) _ _ (by omega) (by omega) (by omega) h3 x3 hz hf
          refine ⟨r, σ', τ', ?_, ?_, g3⟩
          · simp only [zv, zy1, zy2, zy3, if_neg d1, if_neg one_ne, zgq (show m - 1 < 40 by omega), cl1, nar0, v0, v1, ← hqq, zg_t qz, nI_1, g1]
          · simp only [zv, zy1, zy2, zy3, if_neg d2, if_neg one_ne, fX7_keeps, zgq (show 40 * k + (m - 1) < 160 by omega), cl2, nar0, u0, u1, ← hqq, zg_t qz, nI_1, g2]
        · have d1 : nI (dSp N) < nI m := nI_lt (by omega) (by omega)
          have d2 : nI N ≤ nI (2 * m) := nI_le (by omega) (by omega)
          have f1 : za (wa ρ (20 + k) (m - 1) 1) (20 + k) = upd (za ρ (20 + k)) (m - 1) 1 := if_pos rfl
          have f3 : za (wa (wa (wd τ 0 (40 * k + (m - 1)) FP.dconst0) 13 (40 * k + (m - 1)) 0) 13 (40 * k + (m - 1)) 1) 13 = upd (upd (za τ 13) (40 * k + (m - 1)) 0) (40 * k + (m - 1)) 1 := rfl
          have f4 : zd (wa (wa (wd τ 0 (40 * k + (m - 1)) FP.dconst0) 13 (40 * k + (m - 1)) 0) 13 (40 * k + (m - 1)) 1) 0 = vf_upd (zd τ 0) (40 * k + (m - 1)) FP.dconst0 := rfl
          have fr2 : ∀ j, j < 20 → za (wa ρ (20 + k) (m - 1) 1) j = za ρ j := fun j hj => by rw [za_wa, if_neg (by omega)]
          have rs : RS (wa ρ (20 + k) (m - 1) 1) (wa (wa (wd τ 0 (40 * k + (m - 1)) FP.dconst0) 13 (40 * k + (m - 1)) 0) 13 (40 * k + (m - 1)) 1) := by
            refine RS_item (k := k) (i := m - 1) hs hk (by omega) (fun _ _ => ⟨rfl, rfl⟩) rfl rfl (fun j _ z => ⟨rfl, rfl, by rw [za_wa, if_neg (by omega)]⟩) (fun y hy => ⟨rfl, rfl, by rw [f1, upd_n hy]⟩) (fun y hy => ⟨rfl, by rw [f4, updD_n hy], by rw [f3, upd_n hy, upd_n hy]⟩) (Or.inr (Or.inr ⟨Or.inr hf, ?_⟩))
            rw [f1, f3, upd_s, upd_s]
            exact ⟨rfl, Or.inr rfl, fun z => absurd z (by decide)⟩
          have h3 : FD N T B S H G ga gb P V md (wa ρ (20 + k) (m - 1) 1) (wa (wa (wd τ 0 (40 * k + (m - 1)) FP.dconst0) 13 (40 * k + (m - 1)) 0) 13 (40 * k + (m - 1)) 1) := RelD_sh h (fun _ _ => rfl) rfl fr2 (fun _ _ => rfl) (fun _ => rfl) (fun j hj => by rw [za_wa, if_neg (by omega), za_wa, if_neg (by omega)]; rfl) rs
          have x3 := XD_sh (σ' := wa ρ (20 + k) (m - 1) 1) hx (fun _ _ => rfl) rfl fr2 (fun _ _ => rfl)
          obtain ⟨r, σ', τ', g1, g2, g3⟩ := ih (m + 1) c _ _ (by omega) (by omega) (by omega) h3 x3 hz hf
          refine ⟨r, σ', τ', ?_, ?_, g3⟩
          · simp only [zv, zy1, zy2, zy3, if_pos d1, if_true, zgq (show m - 1 < 40 by omega), cl1, nar1, nI_1, g1]
          · simp only [zv, zy1, zy2, zy3, if_pos d2, if_true, fX7_keeps, zgq (show 40 * k + (m - 1) < 160 by omega), cl2, nar0, nar1, z0, nI_1, g2]
theorem ok_write_ : ok_write Rel := by
  intro σ τ v h
  unfold fX6_write fX7_write
  rw [X_isSheet, M_isSheet]
  rcases zw_sh (v := v) with e | ⟨k, hk, rfl, e, hc⟩
  · refine ⟨-2, σ, τ, ?_, ?_, h⟩ <;> simp only [zv, zy1, zy2, zy3, e, if_true]
  have hs := (Rel_RS h).1
  obtain ⟨r1, r2, ⟨sz, hsz, r3⟩, r4⟩ := hs k hk
  by_cases nl : zi σ (20 + k) = -1
  · have q' : za τ 11 k = -1 := by rw [← r1]; exact nl
    refine ⟨-10 - 1, wi σ 3 1, wi τ 5 1, ?_, ?_, Rel_find h 1⟩
    · simp only [zv, zy1, zy2, zy3, e, if_neg one_ne, zgq hk, hc, fX3_isLost, if_pos nl, X_find]
    · simp only [zv, zy1, zy2, zy3, e, if_neg one_ne, zgq hk, hc, if_pos q', M_meet]
  have nl' : ¬ za τ 11 k = -1 := by rw [← r1]; exact nl
  by_cases hf : zi σ (20 + k) = 3
  · have hf' : za τ 11 k = 3 := by rw [← r1]; exact hf
    obtain ⟨N, T, B, S, H, G, ga, gb, P, V, md, hF⟩ := Rel_FD h
    obtain ⟨σ', p1, h', hx⟩ := X_due hF
    have rs' := (h'.1.2.2.2.2.2.2.2.1 k hk)
    have f2 : zi σ' (20 + k) = 3 := by rw [rs'.1]; exact hf'
    have s2 : zi σ' (30 + k) = nI sz := by rw [rs'.2.1, ← r2]; exact r3
    obtain ⟨r, σ2, τ2, g1, g2, g3⟩ := writeLoop hk hsz 500 1 0 σ' τ (by omega) (by omega) (by omega) h' hx s2 f2
    have n1 : nI 1 = 1 := by decide
    rw [n1] at g1 g2
    refine ⟨r, σ2, τ2, ?_, ?_, FD_Rel g3⟩
    · simp only [zv, zy1, zy2, zy3, e, if_neg one_ne, zgq hk, hc, fX3_isLost, if_neg nl, if_true, if_pos hf, p1, g1]
    · simp only [zv, zy1, zy2, zy3, e, if_neg one_ne, zgq hk, hc, if_neg nl', if_pos hf', g2]
  · have hf' : ¬ za τ 11 k = 3 := by rw [← r1]; exact hf
    refine ⟨-10 - 3, wi σ 3 3, wi τ 5 3, ?_, ?_, Rel_find h 3⟩
    · simp only [zv, zy1, zy2, zy3, e, if_neg one_ne, zgq hk, hc, fX3_isLost, if_neg nl, if_true, if_neg hf, X_find]
    · simp only [zv, zy1, zy2, zy3, e, if_neg one_ne, zgq hk, hc, if_neg nl', if_neg hf', M_meet]

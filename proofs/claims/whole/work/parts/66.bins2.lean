theorem sweepLoop (d n : Nat) (hd : d < 60) : ∀ f k σ τ H0, Rel σ τ → zi σ 4 = 1 → zi σ 7 = nI H0 → H0 + n ≤ 400 + k → H0 ≤ 400 → n < k + f → k ≤ n → n ≤ 400 → ∃ σ' τ', fX6_sweep_49 (nI d) (nI n) f (nI k) σ = some σ' ∧ fX7_sweep_41 (nI d) (nI n) f (nI k) τ = some τ' ∧ Rel σ' τ' := by
  intro f
  induction f with
  | zero => intro k σ τ H0 _ _ _ _ _ h1 h2; omega
  | succ f ih =>
    intro k σ τ H0 h h4 h7 hs hH h1 h2 hn
    rw [fX6_sweep_49, fX7_sweep_41]
    by_cases c : n ≤ k
    · rw [if_pos (nI_le c (by omega)), if_pos (nI_le c (by omega))]
      exact ⟨_, _, rfl, rfl, h⟩
    · rw [if_neg (nI_ge (by omega) (by omega)), if_neg (nI_ge (by omega) (by omega))]
      have hm : k * d < 2 ^ 31 := by
        have : k * d ≤ 400 * 60 := Nat.mul_le_mul (by omega) (by omega)
        omega
      have e60 : nI k * nI d - nI k * nI d / 60 * 60 = nI (k * d % 60) := by
        rw [nI_mul]
        exact nI_mod (b := 60) hm (by decide) (by decide)
      have hx : k * d % 60 < 60 := Nat.mod_lt _ (by decide)
      obtain ⟨cd, y, σ', hc, hy, hx1, hm1, hm2, hR, hs4, hs7⟩ := hitStep h h4 (x := k * d % 60) (v := 1) hx (H0 := H0) h7 (by omega) hH
      have hx2 : fX0_addHits (nI (k * d % 60)) 1 σ = some (nI y, σ') := hx1
      have hm3 : za τ 2 cd + 1 = nI y := hm2
      have hcl : (nI cd).toNatClampNeg = cd := nI_clamp (by omega)
      obtain ⟨s1, t1, g1, g2, g3⟩ := ih (k + 1) σ' (wa τ 2 cd (nI y)) (H0 + 1) hR hs4 hs7 (by omega) (by omega) (by omega) (by omega) hn
      refine ⟨s1, t1, ?_, ?_, g3⟩
      · simp only [zv, zy1, zy2, zy3, e60, hx2, nI_1]
        exact g1
      · simp only [zv, zy1, zy2, zy3, e60, hm1, zgq hc, hcl, hm3, nI_1]
        exact g2
theorem ok_sweep_ : ok_sweep Rel := by
  intro σ τ d n h
  unfold fX6_sweep fX7_sweep
  rw [X_within, M_in, X_within, M_in]
  obtain ⟨H0, hH0, e7, ea⟩ := Rel_hits h
  rcases zw_C (v := d) 1 59 (by decide) (by decide) with e | ⟨d, _, hd, rfl, e⟩
  · have e : zw d 1 59 = 0 := e
    refine ⟨-2, σ, τ, ?_, ?_, h⟩ <;> simp only [zv, zy1, zy2, zy3, e, if_true]
  have e : zw (nI d) 1 59 = 1 := e
  rcases zw_C (v := n) 1 400 (by decide) (by decide) with e2 | ⟨n, _, hn, rfl, e2⟩
  · have e2 : zw n 1 400 = 0 := e2
    refine ⟨-2, σ, τ, ?_, ?_, h⟩ <;> simp only [zv, zy1, zy2, zy3, e, e2, if_true, if_neg one_ne]
  have e2 : zw (nI n) 1 400 = 1 := e2
  by_cases c : H0 + n ≤ 400
  · have c1 : nI (H0 + n) ≤ 400 := nI_le (b := 400) c (by decide)
    obtain ⟨s1, t1, g1, g2, g3⟩ := sweepLoop d n (by omega) 500 0 (wi σ 4 1) τ H0 (Rel_stale h) rfl e7 (by omega) hH0 (by omega) (by omega) hn
    rw [nI_0] at g1 g2
    obtain ⟨H1, _, e71, ea1⟩ := Rel_hits g3
    refine ⟨nI H1, s1, t1, ?_, ?_, g3⟩
    · simp only [zv, zy1, zy2, zy3, e, e2, if_neg one_ne, e7, nI_add, if_pos c1, g1, e71]
    · simp only [zv, zy1, zy2, zy3, e, e2, if_neg one_ne, ea, nI_add, if_pos c1, g2, ea1]
  · have c1 : ¬ nI (H0 + n) ≤ 400 := nI_ge (a := 400) (by omega) (by omega)
    refine ⟨-4, σ, τ, ?_, ?_, h⟩
    · simp only [zv, zy1, zy2, zy3, e, e2, if_neg one_ne, e7, nI_add, if_neg c1]
    · simp only [zv, zy1, zy2, zy3, e, e2, if_neg one_ne, ea, nI_add, if_neg c1]
def z12 (f : Nat → Int32) (i : Nat) : Nat → Int32 := fun k => if i ≤ k ∧ k < 12 then 0 else f k
theorem z12_s {f : Nat → Int32} {i : Nat} (h : i < 12) : z12 (upd f i 0) (i + 1) = z12 f i := by
  funext k
  unfold z12 upd
  by_cases e : k = i
  · subst e
    rw [if_neg (by omega), if_pos rfl, if_pos (by omega)]
  · by_cases c : i + 1 ≤ k ∧ k < 12
    · rw [if_pos c, if_pos (by omega)]
    · rw [if_neg c, if_neg e, if_neg (by omega)]
theorem z12_e {f : Nat → Int32} {i : Nat} (h : 12 ≤ i) : z12 f i = f := by
  funext k
  unfold z12
  rw [if_neg (by omega)]
theorem X_forget {σ : zS} : fX0_forgetHits σ = some (wi (sa σ 3 (z12 (za σ 3) 0)) 7 0) := by
  have loop : ∀ n i f, i ≤ 12 → 12 < i + n → fX0_forgetHits_2 n (nI i) (sa σ 3 f) = some (sa σ 3 (z12 f i)) := by
    intro n
    induction n with
    | zero => intro i f h1 h2; omega
    | succ n ih =>
      intro i f h1 h2
      rw [fX0_forgetHits_2]
      by_cases c : 12 ≤ i
      · have c1 : (12 : Int32) ≤ nI i := nI_le (a := 12) c (by omega)
        rw [if_pos c1, z12_e c]
      · have c1 : ¬ (12 : Int32) ≤ nI i := nI_ge (b := 12) (by omega) (by decide)
        rw [if_neg c1, zgq (by omega), nI_clamp (by omega), wa_on, nI_1]
        show fX0_forgetHits_2 n (nI (i + 1)) (sa σ 3 (upd f i 0)) = _
        rw [ih (i + 1) _ (by omega) (by omega), z12_s (by omega)]
  unfold fX0_forgetHits
  have e := loop 500 0 (za σ 3) (by omega) (by omega)
  rw [sa_self, nI_0] at e
  simp only [zv, zy1, zy2, zy3, e]
theorem M_forget {τ : zS} {H0 : Nat} (ha : fX7_allHits τ = some (nI H0)) : fX7_forgets τ = some (nI H0, sa τ 2 (z12 (za τ 2) 0)) := by
  have loop : ∀ n i f, i ≤ 12 → 12 < i + n → fX7_forgets_7 (nI H0) n (nI i) (sa τ 2 f) = some (sa τ 2 (z12 f i)) := by
    intro n
    induction n with
    | zero => intro i f h1 h2; omega
    | succ n ih =>
      intro i f h1 h2
      rw [fX7_forgets_7]
      by_cases c : 12 ≤ i
      · have c1 : (12 : Int32) ≤ nI i := nI_le (a := 12) c (by omega)
        rw [if_pos c1, z12_e c]
      · have c1 : ¬ (12 : Int32) ≤ nI i := nI_ge (b := 12) (by omega) (by decide)
        rw [if_neg c1, zgq (by omega), nI_clamp (by omega), wa_on, nI_1]
        show fX7_forgets_7 (nI H0) n (nI (i + 1)) (sa τ 2 (upd f i 0)) = _
        rw [ih (i + 1) _ (by omega) (by omega), z12_s (by omega)]
  unfold fX7_forgets
  have e := loop 500 0 (za τ 2) (by omega) (by omega)
  rw [sa_self, nI_0] at e
  simp only [zv, zy1, zy2, zy3, ha, e]
theorem RH_0 {f f' : Nat → Int32} : RH (fun _ => 0) 0 (z12 f 0) (z12 f' 0) := by
  refine ⟨by decide, by decide, fun k hk => ?_⟩
  unfold z12
  rw [if_pos (by omega), if_pos (by omega)]
  exact ⟨rfl, rfl⟩
theorem ok_fresh_ : ok_fresh Rel := by
  intro σ τ h
  obtain ⟨H0, hH0, e7, ea⟩ := Rel_hits h
  obtain ⟨N, T, B, S, H, G, ga, gb, P, V, h1, h2, h3, h4, h5, h6, h7, h8, h9⟩ := h
  refine ⟨nI H0, wi (wi (sa σ 3 (z12 (za σ 3) 0)) 7 0) 4 1, sa τ 2 (z12 (za τ 2) 0), ?_, ?_, ?_⟩
  · unfold fX6_fresh
    simp only [zv, zy1, zy2, zy3, X_forget, e7]
  · unfold fX7_fresh
    simp only [zv, zy1, zy2, zy3, M_forget ea]
  · exact ⟨N, T, B, S, fun _ => 0, G, ga, gb, P, V, h1, h2, RH_0, h4, h5, h6, h7, RS_saM (RS_wi (RS_wi (RS_sa h8 (by decide)) (by decide)) (by decide)) (by decide) (by decide) (by decide), Or.inl rfl⟩
theorem binsAt {σ τ : zS} (h : Rel σ τ) : ∃ B S H, RB B S (zi σ 6) (za σ 2) (za τ 1) (za τ 3) (za τ 4) ∧ RH H (zi σ 7) (za σ 3) (za τ 2) := by
  obtain ⟨N, T, B, S, H, G, ga, gb, P, V, h1, h2, h3, h4, h5, h6, h7, h8, h9⟩ := h
  exact ⟨B, S, H, h2, h3⟩
theorem M_isBin {τ : zS} {B : Nat} {S : Nat → Nat} {n : Int32} {f : Nat → Int32} (h : RB B S n f (za τ 1) (za τ 3) (za τ 4)) (v : Int32) : fX7_isBin v τ = some (zw v 0 (nI B - 1)) := by
  unfold fX7_isBin
  rw [M_bins h]
  simp only [zv, zy1, zy2, zy3, M_in]
  exact zg_t (zw_z _ _ _)
theorem X_width {σ : zS} {B b : Nat} {S : Nat → Nat} (h6 : zi σ 6 = nI B) (hB2 : B ≤ 12) (hS : ∀ k, k < B → za σ 2 k = nI (S k) ∧ S k < 60) (hb : b < B) : fX0_widthOf (nI b) σ = some (nI (dFi S B (b + 1)) - nI (S b)) := by
  unfold fX0_widthOf
  rw [X_end h6 hB2 hS hb]
  simp only [zv, zy1, zy2, zy3, zgq (show b < 12 by omega), nI_clamp (show b < 2 ^ 31 by omega), (hS b hb).1]
theorem M_width {τ : zS} {B b : Nat} {S : Nat → Nat} {n : Int32} {f : Nat → Int32} (h : RB B S n f (za τ 1) (za τ 3) (za τ 4)) (hb : b < B) : fX7_widthOf (nI b) τ = some (nI (dFi S B (b + 1)) - nI (S b)) := by
  unfold fX7_widthOf
  have e : dFi S B b = S b := if_pos hb
  simp only [zv, zy1, zy2, zy3, nI_1, M_first h (show b + 1 ≤ B by omega), M_first h (show b ≤ B by omega), e]
/-- a bin's number, on both sides -/
theorem binBoth {σ τ : zS} {B b : Nat} {S H : Nat → Nat} (h2 : RB B S (zi σ 6) (za σ 2) (za τ 1) (za τ 3) (za τ 4)) (h3 : RH H (zi σ 7) (za σ 3) (za τ 2)) (hb : b < B) (w : Int32) (hw : zw w 0 2 = 1) : ∃ r, fX6_bin (nI b) w σ = some r ∧ fX7_binOf (nI b) w τ = some r := by
  have hB2 := h2.2.2.1
  have e : zw (nI b) 0 (nI B - 1) = 1 := by
    have e1 : nI B - 1 = nI (B - 1) := nI_sub (a := B) (b := 1) (by omega)
    rw [e1]
    exact zw_1 0 (B - 1) b (Nat.zero_le _) (by omega) (by omega)
  have hcl : (nI b).toNatClampNeg = b := nI_clamp (by omega)
  have t := h2.2.2.2.2.1 b hb
  have t3 := h3.2.2 b (by omega)
  have e1 : dFi S B b = S b := if_pos hb
  unfold fX6_bin fX7_binOf
  rw [X_isBin, h2.1, X_within]
  simp only [zv, zy1, zy2, zy3, e, hw, if_neg one_ne]
  by_cases c0 : w = 0
  · simp only [if_pos c0, zgq (show b < 12 by omega), hcl, t.1, M_first h2 (show b ≤ B by omega), e1]
    exact ⟨_, rfl, rfl⟩
  · by_cases c1 : w = 1
    · simp only [if_neg c0, if_pos c1, X_width h2.1 hB2 (RB_S h2) hb, M_width h2 hb]
      exact ⟨_, rfl, rfl⟩
    · simp only [if_neg c0, if_neg c1, zgq (show b < 12 by omega), hcl, t3.1, t3.2]
      exact ⟨_, rfl, rfl⟩
theorem ok_bin_ : ok_bin Rel := by
  intro σ τ b w h
  obtain ⟨B, S, H, h2, h3⟩ := binsAt h
  have hB2 := h2.2.2.1
  rcases zw_N (v := b) B (by omega) with e | ⟨b, hb, rfl, e⟩
  · refine ⟨-2, ?_, ?_, h⟩
    · unfold fX6_bin; rw [X_isBin, h2.1]; simp only [zv, zy1, zy2, zy3, e, if_true]
    · unfold fX7_bin; rw [M_isBin h2]; simp only [zv, zy1, zy2, zy3, e, if_true]
  · rcases zw01 w 0 2 with e2 | e2
    · refine ⟨-2, ?_, ?_, h⟩
      · unfold fX6_bin; rw [X_isBin, h2.1, X_within]; simp only [zv, zy1, zy2, zy3, e, e2, if_true, if_neg one_ne]
      · unfold fX7_bin; rw [M_isBin h2, M_in]; simp only [zv, zy1, zy2, zy3, e, e2, if_true, if_neg one_ne]
    · obtain ⟨r, g1, g2⟩ := binBoth h2 h3 hb w e2
      refine ⟨r, g1, ?_, h⟩
      unfold fX7_bin
      rw [M_isBin h2, M_in]
      simp only [zv, zy1, zy2, zy3, e, e2, if_neg one_ne, g2]
theorem denseBoth {σ τ : zS} {B b : Nat} {S H : Nat → Nat} (h2 : RB B S (zi σ 6) (za σ 2) (za τ 1) (za τ 3) (za τ 4)) (h3 : RH H (zi σ 7) (za σ 3) (za τ 2)) (hb : b < B) (w : Int32) (hw : zw w 0 1 = 1) : ∃ r, fX6_dense (nI b) w σ = some r ∧ fX7_denseOf (nI b) w τ = some r := by
  have hB2 := h2.2.2.1
  have e : zw (nI b) 0 (nI B - 1) = 1 := by
    have e1 : nI B - 1 = nI (B - 1) := nI_sub (a := B) (b := 1) (by omega)
    rw [e1]
    exact zw_1 0 (B - 1) b (Nat.zero_le _) (by omega) (by omega)
  have hcl : (nI b).toNatClampNeg = b := nI_clamp (by omega)
  have t3 := h3.2.2 b (by omega)
  have hs := h3.2.1
  have hle := zsum_le (H := H) (c := b) 12 (by omega)
  unfold fX6_dense fX7_denseOf
  rw [X_isBin, h2.1, X_isHalf, M_all (RH_M h3), h3.1]
  simp only [zv, zy1, zy2, zy3, e, hw, if_neg one_ne]
  by_cases c : zsum H 12 = 0
  · have c1 : nI (zsum H 12) = 0 := by rw [c]; rfl
    simp only [if_pos c1]
    exact ⟨_, rfl, rfl⟩
  · have c1 : ¬ nI (zsum H 12) = 0 := nI_ne0 (by omega) (by omega)
    have e60 : (60 : Int64) * (nI (H b)).toInt64 = lN (60 * H b) := by
      rw [nI_l (by omega)]
      exact lN_mul 60 (H b)
    simp only [if_neg c1, zgq (show b < 12 by omega), hcl, t3.1, t3.2, e60, nI_l (show zsum H 12 < 2 ^ 31 by omega)]
    have ha : 60 * H b < 2 ^ 63 := by omega
    simp only [X_low ha (show zsum H 12 < 2 ^ 63 by omega) (show 0 < zsum H 12 by omega), M_low ha (show zsum H 12 < 2 ^ 63 by omega) (show 0 < zsum H 12 by omega)]
    exact ⟨_, rfl, rfl⟩
theorem ok_dense_ : ok_dense Rel := by
  intro σ τ b w h
  obtain ⟨B, S, H, h2, h3⟩ := binsAt h
  have hB2 := h2.2.2.1
  rcases zw_N (v := b) B (by omega) with e | ⟨b, hb, rfl, e⟩
  · refine ⟨(-9223372036854775808 : Int64) - ((-2 : Int32).toInt64), ?_, ?_, h⟩
    · unfold fX6_dense; rw [X_isBin, h2.1]; simp only [zv, zy1, zy2, zy3, e, if_true]; rfl
    · unfold fX7_dense; rw [M_isBin h2]; simp only [zv, zy1, zy2, zy3, e, if_true]; rfl
  · rcases zw01 w 0 1 with e2 | e2
    · refine ⟨(-9223372036854775808 : Int64) - ((-2 : Int32).toInt64), ?_, ?_, h⟩
      · unfold fX6_dense; rw [X_isBin, h2.1, X_isHalf]; simp only [zv, zy1, zy2, zy3, e, e2, if_true, if_neg one_ne]; rfl
      · unfold fX7_dense; rw [M_isBin h2, M_in]; simp only [zv, zy1, zy2, zy3, e, e2, if_true, if_neg one_ne]; rfl
    · obtain ⟨r, g1, g2⟩ := denseBoth h2 h3 hb w e2
      refine ⟨r, g1, ?_, h⟩
      unfold fX7_dense
      rw [M_isBin h2, M_in]
      simp only [zv, zy1, zy2, zy3, e, e2, if_neg one_ne, g2]

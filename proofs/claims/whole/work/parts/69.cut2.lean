/-- the model's side of cut: with the cuts as they are due, learns and forgets -/
theorem cutM {τ : zS} {B x : Nat} {S : Nat → Nat} {v : Int32} {n : Int32} {f : Nat → Int32} (hB : 1 ≤ B) (hB2 : B ≤ 12) (h0 : S 0 = 0) (hf : ∀ k, k < B → f k = nI (S k)) (hS : ∀ k, k < B → S k < 60) (hm : ∀ i j, i < j → j < B → S i < S j) (hx : x < 60) (hc : ∀ y, y < 60 → (upd (za τ 1) x v y = 0 ∨ upd (za τ 1) x v y = 1) ∧ (upd (za τ 1) x v y = 1 ↔ ∃ b, 1 ≤ b ∧ b < B ∧ S b = y)) {H0 : Nat} (ha : fX7_allHits τ = some (nI H0)) (hn : n = nI B) :
    ∃ τ', (zy1 (fX7_learns (wa τ 1 x v)) fun s5 => zy2 (fX7_forgets s5) fun _ s7 => zy1 (fX7_bins s7) fun x8 => some (x8, s7)) = some (nI B, τ') ∧ RB B S n f (za τ' 1) (za τ' 3) (za τ' 4) ∧ (∃ g, za τ' 2 = z12 g 0) ∧ zi τ' = zi τ ∧ za τ' 0 = za τ 0 ∧ za τ' 5 = za τ 5 ∧ za τ' 9 = za τ 9 ∧ za τ' 10 = za τ 10 ∧ za τ' 11 = za τ 11 ∧ za τ' 12 = za τ 12 ∧ za τ' 13 = za τ 13 ∧ zj τ' = zj τ ∧ zd τ' = zd τ := by
  obtain ⟨co, fi, e1, e2, e3, e4⟩ := M_learns (τ := wa τ 1 x v) hB hB2 h0 hS hm hc
  have ha2 : fX7_allHits (sa (sa (wa τ 1 x v) 3 co) 4 fi) = some (nI H0) := by
    have e : ∀ n a i, fX7_allHits_4 (sa (sa (wa τ 1 x v) 3 co) 4 fi) n a i = fX7_allHits_4 τ n a i := by
      intro n
      induction n with
      | zero => intro a i; rfl
      | succ n ih =>
        intro a i
        have gz : za (sa (sa (wa τ 1 x v) 3 co) 4 fi) 2 = za τ 2 := rfl
        rw [fX7_allHits_4, fX7_allHits_4, gz]
        simp only [zv, ih]
    unfold fX7_allHits at ha ⊢
    rw [e]
    exact ha
  have hRB : RB B S n f (upd (za τ 1) x v) co fi := ⟨hn, hB, hB2, h0, fun k hk => ⟨hf k hk, e3 k hk, hS k hk⟩, e4, hm, fun y hy => ⟨e2 y hy, (hc y hy).1, (hc y hy).2⟩⟩
  refine ⟨sa (sa (sa (wa τ 1 x v) 3 co) 4 fi) 2 (z12 (za τ 2) 0), ?_, hRB, ⟨za τ 2, rfl⟩, rfl, rfl, rfl, rfl, rfl, rfl, rfl, rfl, rfl, rfl⟩
  have hb : fX7_bins (sa (sa (sa (wa τ 1 x v) 3 co) 4 fi) 2 (z12 (za τ 2) 0)) = some (nI B) := M_bins (n := n) (f := f) hRB
  have gz : za (sa (sa (wa τ 1 x v) 3 co) 4 fi) 2 = za τ 2 := rfl
  simp only [zv, zy1, zy2, zy3, e1, M_forget ha2, gz, hb]
theorem RS_of {σ τ τ' : zS} (h : RS σ τ) (a : za τ' 11 = za τ 11) (b : za τ' 12 = za τ 12) (c : za τ' 13 = za τ 13) (d : zj τ' = zj τ) (e : zd τ' = zd τ) : RS σ τ' := by
  intro k hk
  rw [a, b, c, d, e]
  exact h k hk
theorem nar0 : vp_nar .boolean 0 = 0 := by decide
theorem nar1 : vp_nar .boolean 1 = 1 := by decide
theorem ok_cut_ : ok_cut Rel := by
  intro σ τ v h
  obtain ⟨H0, hH0, e7, ea⟩ := Rel_hits h
  obtain ⟨N, T, B, S, H, G, ga, gb, P, V, h1, h2, h3, h4, h5, h6, h7, h8, h9⟩ := id h
  unfold fX6_cut fX7_cut
  rw [X_within, M_in]
  rcases zw_C (v := v) 1 59 (by decide) (by decide) with e | ⟨x, hx1, hx, rfl, e⟩
  · have e : zw v 1 59 = 0 := e
    refine ⟨-2, σ, τ, ?_, ?_, h⟩ <;> simp only [zv, zy1, zy2, zy3, e, if_true]
  have e : zw (nI x) 1 59 = 1 := e
  have hB := h2.2.1
  have hB2 := h2.2.2.1
  have h0 := h2.2.2.2.1
  have hm := h2.2.2.2.2.2.2.1
  have hS := RB_S h2
  obtain ⟨c1, c2, c3⟩ := cod_spec (S := S) (x := x) B hB h0 hm
  have ex := X_code h2.1 hB hB2 h0 hS (x := x) (by omega)
  generalize cod S B x = c at c1 c2 c3 ex
  have hcl : (nI c).toNatClampNeg = c := nI_clamp (by omega)
  have hxl : (nI x).toNatClampNeg = x := nI_clamp (by omega)
  obtain ⟨hco, hcu01, hcu⟩ := h2.2.2.2.2.2.2.2 x (by omega)
  have hSc := hS c c1
  by_cases q : S c = x
  · -- the bin begins there: it goes
    have hc0 : 1 ≤ c := by
      rcases Nat.eq_zero_or_pos c with z | z
      · rw [z] at q; omega
      · exact z
    have hcx : za τ 1 x = 1 := hcu.mpr ⟨c, hc0, c1, q⟩
    have hcx0 : ¬ za τ 1 x = 0 := by rw [hcx]; decide
    have q1 : za σ 2 c = nI x := by rw [hSc.1, q]
    obtain ⟨τ', m1, m2, ⟨g, m3⟩, m4, m5, m6, m7, m8, m9, m10, m11, m12, m13⟩ := cutM (τ := τ) (B := B - 1) (x := x) (S := fun k => if k < c then S k else S (k + 1)) (v := 0) (n := nI (B - 1)) (f := shl (za σ 2) c (B - 1)) (by omega) (by omega) (by rw [if_pos (show 0 < c from hc0)]; exact h0) (by
        intro k hk
        unfold shl
        by_cases z : k < c
        · simp only [if_pos z]
          rw [if_neg (by omega)]
          exact (hS k (by omega)).1
        · simp only [if_neg z]
          rw [if_pos (by omega)]
          exact (hS (k + 1) (by omega)).1) (by
        intro k hk
        by_cases z : k < c
        · simp only [if_pos z]; exact (hS k (by omega)).2
        · simp only [if_neg z]; exact (hS (k + 1) (by omega)).2) (by
        intro i j hij hj
        by_cases z1 : i < c
        · by_cases z2 : j < c
          · simp only [if_pos z1, if_pos z2]; exact hm i j hij (by omega)
          · simp only [if_pos z1, if_neg z2]; exact hm i (j + 1) (by omega) (by omega)
        · have z2 : ¬ j < c := by omega
          simp only [if_neg z1, if_neg z2]
          exact hm (i + 1) (j + 1) (by omega) (by omega)) (by omega) (by
        intro y hy
        obtain ⟨_, y1, y2⟩ := h2.2.2.2.2.2.2.2 y hy
        unfold upd
        by_cases z : y = x
        · rw [if_pos z]
          refine ⟨Or.inl rfl, fun w => absurd w (by decide), fun ⟨b, b1, b2, b3⟩ => ?_⟩
          exfalso
          by_cases z1 : b < c
          · simp only [if_pos z1] at b3
            have := hm b c z1 c1
            omega
          · simp only [if_neg z1] at b3
            have := hm c (b + 1) (by omega) (by omega)
            omega
        · rw [if_neg z]
          refine ⟨y1, fun w => ?_, fun ⟨b, b1, b2, b3⟩ => y2.mpr ?_⟩
          · obtain ⟨b, b1, b2, b3⟩ := y2.mp w
            by_cases z1 : b < c
            · exact ⟨b, b1, by omega, by simp only [if_pos z1]; exact b3⟩
            · have z3 : b ≠ c := fun u => by rw [u] at b3; omega
              refine ⟨b - 1, by omega, by omega, ?_⟩
              have z2 : ¬ b - 1 < c := by omega
              simp only [if_neg z2]
              rw [Nat.sub_add_cancel (by omega)]
              exact b3
          · by_cases z1 : b < c
            · simp only [if_pos z1] at b3
              exact ⟨b, b1, by omega, b3⟩
            · simp only [if_neg z1] at b3
              exact ⟨b + 1, by omega, by omega, b3⟩) ea rfl
    refine ⟨nI (B - 1), wi (wi (sa (sa (wi σ 6 (nI (B - 1))) 2 (shl (za σ 2) c (B - 1))) 3 (z12 (za σ 3) 0)) 7 0) 4 1, τ', ?_, ?_, ?_⟩
    · have hz : zi (wi (wi (sa (sa (wi σ 6 (nI (B - 1))) 2 (shl (za σ 2) c (B - 1))) 3 (z12 (za σ 3) 0)) 7 0) 4 1) 6 = nI (B - 1) := rfl
      simp only [zv, zy1, zy2, zy3, e, if_neg one_ne, ex, zgq (show c < 12 by omega), hcl, if_pos q1, X_join h2.1 c1 hB2, hz]
    · simp only [zv, zy1, zy2, zy3] at m1
      simp only [zv, zy1, zy2, zy3, e, if_neg one_ne, zgq (show x < 60 by omega), hxl, if_neg hcx0, nar0]
      exact m1
    · refine ⟨N, T, B - 1, fun k => if k < c then S k else S (k + 1), fun _ => 0, G, ga, gb, P, V, ?_, m2, ?_, ?_, ?_, ?_, ?_, RS_of (RS_wi (RS_wi (RS_sa (RS_sa (RS_wi h8 (by decide)) (by decide)) (by decide)) (by decide)) (by decide)) m9 m10 m11 m12 m13, Or.inl rfl⟩
      · rw [m4, m5]; exact h1
      · rw [m3]; exact RH_0
      · rw [m4, m6]; exact h4
      · rw [m4, m7, m8]; exact h5
      · rw [m4]; exact h6
      · rw [m4]; exact h7
  · -- a new bin
    have hn : ∀ b, b < B → S b ≠ x := by
      intro b hb z
      rcases Nat.lt_trichotomy b c with w | w | w
      · have := hm b c w c1; omega
      · rw [w] at z; exact q z
      · have := c3 b w hb; omega
    have hcx0 : za τ 1 x = 0 := by
      rcases hcu01 with z | z
      · exact z
      · obtain ⟨b, _, b2, b3⟩ := hcu.mp z
        exact absurd b3 (hn b b2)
    have q1 : ¬ za σ 2 c = nI x := by
      rw [hSc.1]
      exact fun z => q ((nI_eq (by omega) (by omega)).mp z)
    by_cases hB12 : B = 12
    · refine ⟨-4, σ, τ, ?_, ?_, h⟩
      · have c12 : (12 : Int32) ≤ zi σ 6 := by rw [h2.1]; exact nI_le (a := 12) (by omega) (by omega)
        simp only [zv, zy1, zy2, zy3, e, if_neg one_ne, ex, zgq (show c < 12 by omega), hcl, if_neg q1, if_pos c12]
      · have c12 : nI B = 12 := by rw [hB12]; rfl
        simp only [zv, zy1, zy2, zy3, e, if_neg one_ne, zgq (show x < 60 by omega), hxl, if_pos hcx0, M_bins h2, if_pos c12]
    · have k1 : c + 1 ≠ 0 := by omega
      obtain ⟨τ', m1, m2, ⟨g, m3⟩, m4, m5, m6, m7, m8, m9, m10, m11, m12, m13⟩ := cutM (τ := τ) (B := B + 1) (x := x) (S := insK S x (c + 1)) (v := 1) (n := nI (B + 1)) (f := upd (shf (za σ 2) (c + 1) B) (c + 1) (nI x)) (by omega) (by omega) (by unfold insK; rw [if_pos (by omega)]; exact h0) (by
          intro k hk
          by_cases z : k = c + 1
          · subst z
            simp only [upd, insK, Nat.lt_irrefl, if_true, if_false]
          · by_cases z2 : k < c + 1
            · have z3 : ¬ (c + 1 < k ∧ k ≤ B) := by omega
              simp only [upd, shf, insK, if_neg z, if_pos z2, if_neg z3]
              exact (hS k (by omega)).1
            · have z3 : c + 1 < k ∧ k ≤ B := by omega
              simp only [upd, shf, insK, if_neg z, if_neg z2, if_pos z3]
              exact (hS (k - 1) (by omega)).1) (by
          intro k hk
          unfold insK
          by_cases z2 : k < c + 1
          · rw [if_pos z2]; exact (hS k (by omega)).2
          · rw [if_neg z2]
            by_cases z : k = c + 1
            · rw [if_pos z]; omega
            · rw [if_neg z]; exact (hS (k - 1) (by omega)).2) (by
          intro i j hij hj
          unfold insK
          by_cases z1 : i < c + 1
          · rw [if_pos z1]
            by_cases z2 : j < c + 1
            · rw [if_pos z2]; exact hm i j hij (by omega)
            · rw [if_neg z2]
              have hic : S i ≤ S c := by
                rcases Nat.lt_or_ge i c with w | w
                · exact Nat.le_of_lt (hm i c w c1)
                · have : i = c := by omega
                  rw [this]; exact Nat.le_refl _
              have hne := hn c c1
              by_cases z : j = c + 1
              · rw [if_pos z]; omega
              · rw [if_neg z]
                have := c3 (j - 1) (by omega) (by omega)
                omega
          · rw [if_neg z1]
            have z2 : ¬ j < c + 1 := by omega
            have z3 : ¬ j = c + 1 := by omega
            rw [if_neg z2, if_neg z3]
            by_cases z : i = c + 1
            · rw [if_pos z]
              exact c3 (j - 1) (by omega) (by omega)
            · rw [if_neg z]
              exact hm (i - 1) (j - 1) (by omega) (by omega)) (by omega) (by
          intro y hy
          obtain ⟨_, y1, y2⟩ := h2.2.2.2.2.2.2.2 y hy
          unfold upd
          by_cases z : y = x
          · rw [if_pos z]
            refine ⟨Or.inr rfl, fun _ => ⟨c + 1, by omega, by omega, ?_⟩, fun _ => rfl⟩
            unfold insK
            rw [if_neg (by omega), if_pos rfl, z]
          · rw [if_neg z]
            refine ⟨y1, fun w => ?_, fun ⟨b, b1, b2, b3⟩ => y2.mpr ?_⟩
            · obtain ⟨b, b1, b2, b3⟩ := y2.mp w
              by_cases z1 : b < c + 1
              · exact ⟨b, b1, by omega, by unfold insK; rw [if_pos z1]; exact b3⟩
              · refine ⟨b + 1, by omega, by omega, ?_⟩
                unfold insK
                rw [if_neg (by omega), if_neg (by omega)]
                exact b3
            · unfold insK at b3
              by_cases z1 : b < c + 1
              · rw [if_pos z1] at b3
                exact ⟨b, b1, by omega, b3⟩
              · rw [if_neg z1] at b3
                by_cases z2 : b = c + 1
                · rw [if_pos z2] at b3
                  exact absurd b3.symm z
                · rw [if_neg z2] at b3
                  exact ⟨b - 1, by omega, by omega, b3⟩) ea rfl
      refine ⟨nI (B + 1), wi (wi (sa (wi (sa σ 2 (upd (shf (za σ 2) (c + 1) B) (c + 1) (nI x))) 6 (nI (B + 1))) 3 (z12 (za σ 3) 0)) 7 0) 4 1, τ', ?_, ?_, ?_⟩
      · have c12 : ¬ (12 : Int32) ≤ zi σ 6 := by rw [h2.1]; exact nI_ge (b := 12) (by omega) (by decide)
        have hz : zi (wi (wi (sa (wi (sa σ 2 (upd (shf (za σ 2) (c + 1) B) (c + 1) (nI x))) 6 (nI (B + 1))) 3 (z12 (za σ 3) 0)) 7 0) 4 1) 6 = nI (B + 1) := rfl
        simp only [zv, zy1, zy2, zy3, e, if_neg one_ne, ex, zgq (show c < 12 by omega), hcl, if_neg q1, if_neg c12, X_split h2.1 c1 (show B < 12 by omega), hz]
      · have c12 : ¬ nI B = 12 := fun z => hB12 ((nI_eq (b := 12) (by omega) (by decide)).mp z)
        simp only [zv, zy1, zy2, zy3] at m1
        simp only [zv, zy1, zy2, zy3, e, if_neg one_ne, zgq (show x < 60 by omega), hxl, if_pos hcx0, M_bins h2, if_neg c12, nar1]
        exact m1
      · refine ⟨N, T, B + 1, insK S x (c + 1), fun _ => 0, G, ga, gb, P, V, ?_, m2, ?_, ?_, ?_, ?_, ?_, RS_of (RS_wi (RS_wi (RS_sa (RS_wi (RS_sa h8 (by decide)) (by decide)) (by decide)) (by decide)) (by decide)) m9 m10 m11 m12 m13, Or.inl rfl⟩
        · rw [m4, m5]; exact h1
        · rw [m3]; exact RH_0
        · rw [m4, m6]; exact h4
        · rw [m4, m7, m8]; exact h5
        · rw [m4]; exact h6
        · rw [m4]; exact h7

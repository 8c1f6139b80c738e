theorem ok_clear_ : ok_clear Rel := by
  intro σ τ h
  obtain ⟨N, T, B, S, H, G, ga, gb, P, V, h1, h2, h3, h4, h5, h6, h7, h8, h9⟩ := h
  refine ⟨zi σ 5, wi (wi σ 5 0) 4 1, wi τ 0 0, rfl, ?_, ?_⟩
  · show some (zi τ 0, wi τ 0 0) = _
    rw [h1.1, h1.2.1]
  · exact ⟨0, T, B, S, H, G, ga, gb, P, V, ⟨rfl, rfl, by omega, fun k hk => by omega, fun i j _ hj => by omega⟩, h2, h3, h4, h5, h6, h7, RS_wiM (RS_wi (RS_wi h8 (by decide)) (by decide)), Or.inl rfl⟩
theorem ok_wipe_ : ok_wipe Rel := by
  intro σ τ h
  obtain ⟨N, T, B, S, H, G, ga, gb, P, V, h1, h2, h3, h4, h5, h6, h7, h8, h9⟩ := h
  refine ⟨zi σ 0, wi (wi σ 0 0) 4 1, wi τ 1 0, rfl, ?_, ?_⟩
  · show some (zi τ 1, wi τ 1 0) = _
    rw [h4.1]
  · exact ⟨N, T, B, S, H, G, ga, gb, P, V, h1, h2, h3, ⟨rfl, ⟨0, by omega, rfl⟩, h4.2.2⟩, h5, h6, h7, RS_wiM (RS_wi (RS_wi h8 (by decide)) (by decide)), Or.inl rfl⟩
theorem ok_nominal_ : ok_nominal Rel := by
  intro σ τ a h
  obtain ⟨N, T, B, S, H, G, ga, gb, P, V, h1, h2, h3, h4, h5, h6, h7, h8, h9⟩ := id h
  unfold fX6_nominal fX7_nominal
  rw [X_within, M_in]
  rcases zw_C (v := a) 0 600 (by decide) (by decide) with e | ⟨k, _, hk, rfl, e⟩
  · have e : zw a 0 600 = 0 := e
    refine ⟨-2, σ, τ, ?_, ?_, h⟩
    · simp only [zy1, e, if_true]
    · simp only [zy1, e, if_true]
  · have e : zw (nI k) 0 600 = 1 := e
    refine ⟨zi σ 1, wi (wi σ 1 (nI k)) 4 1, wi τ 2 (nI k), ?_, ?_, ?_⟩
    · simp only [zy1, e, zv, if_neg one_ne]
    · simp only [zy1, e, zv, if_neg one_ne]
      rw [h6.1, h6.2.1]
    · exact ⟨N, T, B, S, H, G, ga, gb, k, V, h1, h2, h3, h4, h5, ⟨rfl, rfl, hk, h6.2.2.2⟩, h7, RS_wiM (RS_wi (RS_wi h8 (by decide)) (by decide)), Or.inl rfl⟩
theorem ok_mend_ : ok_mend Rel := by
  intro σ τ a h
  obtain ⟨N, T, B, S, H, G, ga, gb, P, V, h1, h2, h3, h4, h5, h6, h7, h8, h9⟩ := id h
  unfold fX6_mend fX7_mend
  rw [X_within, M_in]
  rcases zw_C (v := a) 0 1 (by decide) (by decide) with e | ⟨k, _, hk, rfl, e⟩
  · have e : zw a 0 1 = 0 := e
    refine ⟨-2, σ, τ, ?_, ?_, h⟩
    · simp only [zy1, e, if_true]
    · simp only [zy1, e, if_true]
  · have e : zw (nI k) 0 1 = 1 := e
    refine ⟨zi σ 2, wi (wi σ 2 (nI k)) 4 1, wi τ 3 (nI k), ?_, ?_, ?_⟩
    · simp only [zy1, e, zv, if_neg one_ne]
    · simp only [zy1, e, zv, if_neg one_ne]
      rw [h6.2.2.2.1, h6.2.2.2.2.1]
    · exact ⟨N, T, B, S, H, G, ga, gb, P, k, h1, h2, h3, h4, h5, ⟨h6.1, h6.2.1, h6.2.2.1, rfl, rfl, hk⟩, h7, RS_wiM (RS_wi (RS_wi h8 (by decide)) (by decide)), Or.inl rfl⟩
theorem ok_type_ : ok_type Rel := by
  intro σ τ a h
  obtain ⟨N, T, B, S, H, G, ga, gb, P, V, h1, h2, h3, h4, h5, h6, h7, h8, h9⟩ := id h
  obtain ⟨e0, ⟨k, hk, e1⟩, e2⟩ := id h4
  unfold fX6_type fX7_type
  rw [X_within, M_in]
  rcases zw01 a 0 255 with e | e
  · refine ⟨-2, σ, τ, ?_, ?_, h⟩
    · simp only [zy1, e, if_true]
    · simp only [zy1, e, if_true]
  · have e1' : zi τ 1 = nI k := by rw [← e0, e1]
    by_cases h5k : k = 5
    · subst h5k
      refine ⟨-4, σ, τ, ?_, ?_, h⟩
      · simp only [zy1, e, if_neg one_ne]
        rw [e1]
        rfl
      · simp only [zy1, e, if_neg one_ne]
        rw [e1']
        rfl
    · refine ⟨nI (k + 1), wi (wi (wa σ 0 k a) 0 (nI (k + 1))) 4 1, wi (wa τ 5 k a) 1 (nI (k + 1)), ?_, ?_, ?_⟩
      · simp only [zy1, e, if_neg one_ne]
        have hlt : zi σ 0 < 5 := by rw [e1]; exact nI_lt (b := 5) (by omega) (by decide)
        rw [if_pos hlt, e1, zgq (by omega), nI_clamp (by omega)]
        show some (zi σ 0 + 1, wi (wi (wa σ 0 k a) 0 (zi σ 0 + 1)) 4 1) = _
        rw [e1, nI_1]
      · simp only [zy1, e, if_neg one_ne]
        have hne : ¬ zi τ 1 = 5 := by rw [e1']; exact fun z => h5k ((nI_eq (b := 5) (by omega) (by decide)).mp z)
        rw [if_neg hne, e1', zgq (by omega), nI_clamp (by omega)]
        show some (zi τ 1 + 1, wi (wa τ 5 k a) 1 (zi τ 1 + 1)) = _
        rw [e1', nI_1]
      · refine ⟨N, T, B, S, H, G, ga, gb, P, V, h1, h2, h3, ⟨rfl, ⟨k + 1, by omega, rfl⟩, ?_⟩, h5, h6, h7, RS_wiM (RS_waM (RS_wi (RS_wi (RS_wa h8 (by decide)) (by decide)) (by decide)) (by decide) (by decide) (by decide)), Or.inl rfl⟩
        intro j hj
        show upd (za σ 0) k a j = upd (za τ 5) k a j
        unfold upd
        split
        · rfl
        · exact e2 j hj
theorem ok_back_ : ok_back Rel := by
  intro σ τ h
  obtain ⟨N, T, B, S, H, G, ga, gb, P, V, h1, h2, h3, h4, h5, h6, h7, h8, h9⟩ := id h
  unfold fX6_back fX7_back
  rw [h5.1, h5.2.1]
  by_cases hG : G = 0
  · subst hG
    exact ⟨-3, σ, τ, rfl, rfl, h⟩
  · have hne : ¬ nI G = 0 := nI_ne0 (by omega) (by have := h5.2.2.1; omega)
    rw [if_neg hne, if_neg hne]
    have e : nI G - 1 = nI (G - 1) := nI_sub (a := G) (b := 1) (by omega)
    refine ⟨nI (G - 1), wi (wi σ 8 (nI (G - 1))) 4 1, wi τ 4 (nI (G - 1)), ?_, ?_, ?_⟩
    · rw [e]; rfl
    · rw [e]; rfl
    · exact ⟨N, T, B, S, H, G - 1, ga, gb, P, V, h1, h2, h3, h4, ⟨rfl, rfl, by have := h5.2.2.1; omega, fun k hk => h5.2.2.2 k (by omega)⟩, h6, h7, RS_wiM (RS_wi (RS_wi h8 (by decide)) (by decide)), Or.inl rfl⟩
set_option maxRecDepth 100000 in
theorem ok_gate_ : ok_gate Rel := by
  intro σ τ a b h
  obtain ⟨N, T, B, S, H, G, ga, gb, P, V, h1, h2, h3, h4, h5, h6, h7, h8, h9⟩ := id h
  unfold fX6_gate fX7_gate
  rw [X_isTime, M_in, X_isTime, M_in]
  rcases zw_C (v := a) 0 5999 (Nat.le_of_ble_eq_true rfl) (Nat.le_of_ble_eq_true rfl) with e | ⟨x, _, hx, rfl, e⟩
  · have e : zw a 0 5999 = 0 := e
    refine ⟨-2, σ, τ, ?_, ?_, h⟩
    · simp only [zy1, e, if_true]
    · simp only [zy1, e, if_true]
  have e : zw (nI x) 0 5999 = 1 := e
  rcases zw_C (v := b) 0 5999 (Nat.le_of_ble_eq_true rfl) (Nat.le_of_ble_eq_true rfl) with e' | ⟨y, _, hy, rfl, e'⟩
  · have e' : zw b 0 5999 = 0 := e'
    refine ⟨-2, σ, τ, ?_, ?_, h⟩
    · simp only [zy1, e, e', if_true, if_neg one_ne]
    · simp only [zy1, e, e', if_true, if_neg one_ne]
  have e' : zw (nI y) 0 5999 = 1 := e'
  by_cases hxy : x < y
  · have c1 : nI x < nI y := nI_lt hxy (by omega)
    by_cases hG : G = 8
    · subst hG
      refine ⟨-4, σ, τ, ?_, ?_, h⟩
      · simp only [zy1, e, e', if_neg one_ne, if_pos c1]
        rw [h5.1]; rfl
      · simp only [zy1, e, e', if_neg one_ne, if_pos c1]
        rw [h5.2.1]; rfl
    · have hG8 : G < 8 := by have := h5.2.2.1; omega
      refine ⟨nI G, wi (wa (wa (wi σ 4 1) 4 G (nI x)) 5 G (nI y)) 8 (nI (G + 1)), wi (wa (wa τ 9 G (nI x)) 10 G (nI y)) 4 (nI (G + 1)), ?_, ?_, ?_⟩
      · simp only [zy1, e, e', if_neg one_ne, if_pos c1]
        have c2 : nI G < 8 := nI_lt (b := 8) hG8 (by decide)
        rw [h5.1, if_pos c2]
        have c3 : (nI G).toNatClampNeg = G := nI_clamp (by omega)
        simp only [zv, zy1, zy2, zy3, fX1_append, zi_wi, zi_wl, zi_wa, zi_wj, zi_wd, zl_wi, zl_wl, zl_wa, zl_wj, zl_wd, za_wi, za_wl, za_wa, za_wj, za_wd, zj_wi, zj_wl, zj_wa, zj_wj, zj_wd, zd_wi, zd_wl, zd_wa, zd_wj, zd_wd, Nat.reduceEqDiff, reduceIte, Nat.reduceAdd, h5.1, zgq hG8, c3, nI_1, nI_pred]
      · simp only [zy1, e, e', if_neg one_ne, if_pos c1]
        have hne : ¬ zi τ 4 = 8 := by rw [h5.2.1]; exact fun z => hG ((nI_eq (b := 8) (by omega) (by decide)).mp z)
        rw [if_neg hne]
        have c3 : (nI G).toNatClampNeg = G := nI_clamp (by omega)
        simp only [zv, zy1, zy2, zy3, zi_wi, zi_wl, zi_wa, zi_wj, zi_wd, zl_wi, zl_wl, zl_wa, zl_wj, zl_wd, za_wi, za_wl, za_wa, za_wj, za_wd, zj_wi, zj_wl, zj_wa, zj_wj, zj_wd, zd_wi, zd_wl, zd_wa, zd_wj, zd_wd, Nat.reduceEqDiff, reduceIte, Nat.reduceAdd, h5.2.1, zgq hG8, c3, nI_1, nI_pred]
      · refine ⟨N, T, B, S, H, G + 1, fun k => if k = G then x else ga k, fun k => if k = G then y else gb k, P, V, h1, h2, h3, h4, ⟨rfl, rfl, by omega, ?_⟩, h6, h7, RS_wiM (RS_waM (RS_waM (RS_wi (RS_wa (RS_wa (RS_wi h8 (by decide)) (by decide)) (by decide)) (by decide)) (by decide) (by decide) (by decide)) (by decide) (by decide) (by decide)), Or.inl rfl⟩
        intro k hk
        show upd (za σ 4) G (nI x) k = _ ∧ upd (za τ 9) G (nI x) k = _ ∧ upd (za σ 5) G (nI y) k = _ ∧ upd (za τ 10) G (nI y) k = _ ∧ _
        by_cases hkG : k = G
        · subst hkG
          simp only [upd_s, if_true]
          exact ⟨trivial, trivial, trivial, trivial, hxy, by omega⟩
        · simp only [upd_n hkG, if_neg hkG]
          exact h5.2.2.2 k (by omega)
  · have c1 : ¬ nI x < nI y := nI_nlt (by omega) (by omega)
    refine ⟨-2, σ, τ, ?_, ?_, h⟩
    · simp only [zy1, e, e', if_neg one_ne, if_neg c1]
    · simp only [zy1, e, e', if_neg one_ne, if_neg c1]

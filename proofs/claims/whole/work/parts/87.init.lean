theorem M_init : ∃ τ0, fX7_initB zM0 = some τ0 ∧ Rel zX0 τ0 := by
  have loop : ∀ n i τ, i ≤ 4 → 4 < i + n → ∃ τ', fX7_init_174 n (nI i) τ = some τ' ∧ Fr [] [] [11] [] τ τ' ∧ ∀ k, k < 4 → (i ≤ k → za τ' 11 k = -1) ∧ (k < i → za τ' 11 k = za τ 11 k) := by
    intro n
    induction n with
    | zero => intro i τ h1 h2; omega
    | succ n ih =>
      intro i τ h1 h2
      rw [fX7_init_174]
      by_cases q : i = 4
      · have c : (4 : Int32) ≤ nI i := by rw [q]; decide
        rw [if_pos c]
        exact ⟨τ, rfl, Fr_r τ, fun k hk => ⟨fun z => by omega, fun _ => rfl⟩⟩
      · have c : ¬ (4 : Int32) ≤ nI i := nI_ge (b := 4) (by omega) (by decide)
        have hcl : (nI i).toNatClampNeg = i := nI_clamp (by omega)
        simp only [if_neg c, zgq (show i < 4 by omega), zv, hcl, nI_1]
        obtain ⟨τ', g1, g2, g3⟩ := ih (i + 1) (wa τ 11 i (-1)) (by omega) (by omega)
        refine ⟨τ', g1, Fr_t (Fr_wa (Fr_r τ) (by decide)) g2, fun k hk => ⟨fun z => ?_, fun z => ?_⟩⟩
        · by_cases y : k = i
          · rw [(g3 k hk).2 (by omega), y]
            exact upd_s _ _ _
          · exact (g3 k hk).1 (by omega)
        · rw [(g3 k hk).2 (by omega)]
          exact upd_n (by omega)
  obtain ⟨τ', g1, g2, g3⟩ := loop 500 0 zM0 (by omega) (by omega)
  rw [nI_0] at g1
  have z1 : ∀ x, za τ' 1 x = 0 := fun x => by rw [g2.2.2.1 1 (by decide)]; rfl
  obtain ⟨co, fi, l1, l2, l3, l4⟩ := M_learns (τ := τ') (B := 1) (S := fun _ => 0) (by omega) (by omega) rfl (fun k _ => by decide) (fun i j h1 h2 => by omega) (fun x hx => ⟨Or.inl (z1 x), ⟨fun z => by rw [z1 x] at z; exact absurd z (by decide), fun ⟨b, b1, b2, _⟩ => by omega⟩⟩)
  have zs : zsum (fun _ => 0) 12 = 0 := by decide
  have a : ∀ j, j ≠ 3 → j ≠ 4 → j ≠ 11 → za (sa (sa τ' 3 co) 4 fi) j = fun _ => 0 := by
    intro j h3 h4 h11
    rw [za_saj, if_neg h4, za_saj, if_neg h3, g2.2.2.1 j (by intro z; exact h11 (List.mem_singleton.mp z))]
    rfl
  have i : ∀ j, zi (sa (sa τ' 3 co) 4 fi) j = 0 := fun j => by
    show zi τ' j = 0
    rw [g2.1 j (fun z => nomatch z)]
    rfl
  refine ⟨sa (sa τ' 3 co) 4 fi, ?_, 0, fun _ => 0, 1, fun _ => 0, fun _ => 0, 0, fun _ => 0, fun _ => 0, 0, 0, ?_, ?_, ?_, ?_, ?_, ?_, ?_, ?_, ?_⟩
  · unfold fX7_initB
    rw [g1]
    simp only [zy1, l1]
  · rw [i 0]
    exact ⟨rfl, rfl, by omega, fun k hk => by omega, fun i j _ hj => by omega⟩
  · rw [a 1 (by decide) (by decide) (by decide)]
    refine ⟨rfl, by omega, by omega, rfl, fun k hk => ⟨rfl, l3 k hk, show (0 : Nat) < 60 by decide⟩, l4, fun i j _ hj => by omega, fun x hx => ⟨l2 x hx, Or.inl rfl, ⟨fun z => absurd (show (0 : Int32) = 1 from z) (by decide), fun ⟨b, b1, b2, _⟩ => by omega⟩⟩⟩
  · rw [a 2 (by decide) (by decide) (by decide)]
    refine ⟨?_, by rw [zs]; omega, fun k hk => ⟨rfl, rfl⟩⟩
    rw [zs]; rfl
  · rw [i 1, a 5 (by decide) (by decide) (by decide)]
    exact ⟨rfl, ⟨0, by omega, rfl⟩, fun k hk => rfl⟩
  · rw [i 4]
    exact ⟨rfl, rfl, by omega, fun k hk => by omega⟩
  · rw [i 2, i 3]
    exact ⟨rfl, rfl, by omega, rfl, rfl, by omega⟩
  · rw [i 5]
    rfl
  · intro k hk
    have f : zi zX0 (20 + k) = -1 := by
      rcases (show k = 0 ∨ k = 1 ∨ k = 2 ∨ k = 3 by omega) with e | e | e | e <;> subst e <;> rfl
    have s : zi zX0 (30 + k) = 0 := by
      rcases (show k = 0 ∨ k = 1 ∨ k = 2 ∨ k = 3 by omega) with e | e | e | e <;> subst e <;> rfl
    have q : za (sa (sa τ' 3 co) 4 fi) 11 k = -1 := (g3 k hk).1 (by omega)
    rw [f, s, q, a 12 (by decide) (by decide) (by decide)]
    exact ⟨rfl, rfl, ⟨0, by omega, nI_0.symm⟩, Or.inl rfl⟩
  · exact Or.inl rfl

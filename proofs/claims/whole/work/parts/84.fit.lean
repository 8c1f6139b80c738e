-- sums of places and stamps
theorem chebA {x y : Nat → Nat} {u v : Nat} : ∀ n, (∀ k, k < n → x k ≤ u ∧ y k ≤ v) → zsum x n * v + u * zsum y n ≤ zsum (fun k => x k * y k) n + n * (u * v) := by
  intro n
  induction n with
  | zero => intro _; show 0 * v + u * 0 ≤ 0 + 0 * (u * v); omega
  | succ n ih =>
    intro h
    have i := ih (fun k hk => h k (by omega))
    obtain ⟨h1, h2⟩ := h n (by omega)
    show (zsum x n + x n) * v + u * (zsum y n + y n) ≤ zsum (fun k => x k * y k) n + x n * y n + (n + 1) * (u * v)
    obtain ⟨d, rfl⟩ := Nat.exists_eq_add_of_le h1
    obtain ⟨e, rfl⟩ := Nat.exists_eq_add_of_le h2
    have s : x n * (y n + e) + (x n + d) * y n ≤ x n * y n + (x n + d) * (y n + e) := by
      rw [Nat.mul_add, Nat.add_mul, Nat.add_mul, Nat.mul_add, Nat.mul_add]
      have := Nat.zero_le (d * e)
      omega
    rw [Nat.add_mul (zsum x n) (x n), Nat.mul_add (x n + d) (zsum y n) (y n), Nat.add_mul n 1, Nat.one_mul]
    omega
theorem cheb {x y : Nat → Nat} : ∀ n, (∀ i j, i < j → j < n → x i ≤ x j ∧ y i ≤ y j) → zsum x n * zsum y n ≤ n * zsum (fun k => x k * y k) n := by
  intro n
  induction n with
  | zero => intro _; show 0 * 0 ≤ 0 * 0; omega
  | succ n ih =>
    intro h
    have i := ih (fun i j h1 h2 => h i j h1 (by omega))
    have a := chebA (x := x) (y := y) (u := x n) (v := y n) n (fun k hk => h k n hk (by omega))
    show (zsum x n + x n) * (zsum y n + y n) ≤ (n + 1) * (zsum (fun k => x k * y k) n + x n * y n)
    rw [Nat.add_mul, Nat.mul_add, Nat.mul_add, Nat.add_mul n 1, Nat.mul_add, Nat.one_mul]
    omega
theorem chebS {x : Nat → Nat} {u : Nat} : ∀ n, (∀ k, k < n → x k < u) → zsum x n * u + u * zsum x n + n ≤ zsum (fun k => x k * x k) n + n * (u * u) := by
  intro n
  induction n with
  | zero => intro _; show 0 * u + u * 0 + 0 ≤ 0 + 0 * (u * u); omega
  | succ n ih =>
    intro h
    have i := ih (fun k hk => h k (by omega))
    have h1 := h n (by omega)
    show (zsum x n + x n) * u + u * (zsum x n + x n) + (n + 1) ≤ zsum (fun k => x k * x k) n + x n * x n + (n + 1) * (u * u)
    obtain ⟨d, rfl⟩ := Nat.exists_eq_add_of_lt h1
    have s : x n * (x n + d + 1) + (x n + d + 1) * x n + 1 ≤ x n * x n + (x n + d + 1) * (x n + d + 1) := by
      have e1 : (x n + d + 1) * (x n + d + 1) = x n * (x n + d + 1) + (d + 1) * (x n + d + 1) := by
        rw [Nat.add_assoc, Nat.add_mul]
      have e2 : (x n + d + 1) * x n = x n * x n + (d + 1) * x n := by
        rw [Nat.add_assoc, Nat.add_mul]
      have e3 : (d + 1) * (x n + d + 1) = (d + 1) * x n + (d + 1) * (d + 1) := by
        rw [Nat.add_assoc, Nat.mul_add]
      have e4 : 1 ≤ (d + 1) * (d + 1) := Nat.mul_le_mul (show 1 ≤ d + 1 by omega) (show 1 ≤ d + 1 by omega)
      omega
    rw [Nat.add_mul (zsum x n) (x n), Nat.mul_add (x n + d + 1) (zsum x n) (x n), Nat.add_mul n 1, Nat.one_mul]
    omega
theorem chebQ {x : Nat → Nat} : ∀ n, 2 ≤ n → (∀ i j, i < j → j < n → x i < x j) → zsum x n * zsum x n < n * zsum (fun k => x k * x k) n := by
  intro n
  induction n with
  | zero => intro h; omega
  | succ n ih =>
    intro h2 h
    have a := chebS (x := x) (u := x n) n (fun k hk => h k n hk (by omega))
    have i : zsum x n * zsum x n ≤ n * zsum (fun k => x k * x k) n := cheb (x := x) (y := x) n (fun i j h1 h2 => ⟨Nat.le_of_lt (h i j h1 (by omega)), Nat.le_of_lt (h i j h1 (by omega))⟩)
    show (zsum x n + x n) * (zsum x n + x n) < (n + 1) * (zsum (fun k => x k * x k) n + x n * x n)
    rw [Nat.add_mul, Nat.mul_add, Nat.mul_add, Nat.add_mul n 1, Nat.mul_add, Nat.one_mul]
    omega
/-- a loop from a to b that adds -/
theorem sum_loop {f : Nat → Nat} {a b : Nat} (F : Nat → Int64 → Int32 → Option Int64) (hF : ∀ n j s, a ≤ j → j ≤ b → F (n + 1) (lN s) (nI j) = F n (lN (s + f j)) (nI (j + 1))) (hE : ∀ n s, F (n + 1) (lN s) (nI (b + 1)) = some (lN s)) (hab : a ≤ b) (hb : b < 32) : F 500 0 (nI a) = some (lN (zsum (fun k => f (a + k)) (b + 1 - a))) := by
  have loop : ∀ n j, a ≤ j → j ≤ b + 1 → b + 1 < j + n → F n (lN (zsum (fun k => f (a + k)) (j - a))) (nI j) = some (lN (zsum (fun k => f (a + k)) (b + 1 - a))) := by
    intro n
    induction n with
    | zero => intro j h0 h1 h2; omega
    | succ n ih =>
      intro j h0 h1 h2
      by_cases c : j = b + 1
      · rw [c, hE]
      · rw [hF n j _ h0 (by omega)]
        have e : zsum (fun k => f (a + k)) (j - a) + f j = zsum (fun k => f (a + k)) (j + 1 - a) := by
          rw [show j + 1 - a = (j - a) + 1 by omega]
          show _ = zsum (fun k => f (a + k)) (j - a) + f (a + (j - a))
          rw [show a + (j - a) = j by omega]
        rw [e]
        exact ih (j + 1) (by omega) (by omega) (by omega)
  have e := loop 500 a (Nat.le_refl a) (by omega) (by omega)
  rw [Nat.sub_self] at e
  exact e
def sm (f : Nat → Nat) (a b : Nat) : Nat := zsum (fun k => f (a + k)) (b + 1 - a)
theorem sm_b {f : Nat → Nat} {a b M : Nat} (hb : b < 32) (h : ∀ i, a ≤ i → i ≤ b → f i ≤ M) : sm f a b ≤ M * 32 := by
  have e : sm f a b ≤ zsum (fun _ => M) (b + 1 - a) := zsum_le2 _ (fun q hq => h (a + q) (by omega) (by omega))
  have e2 := zsum_b (f := fun _ => M) (M := M) (fun _ => Nat.le_refl M) (b + 1 - a)
  have e3 : M * (b + 1 - a) ≤ M * 32 := Nat.mul_le_mul_left _ (by omega)
  omega
theorem X_fits {σ : zS} {N a b : Nat} {pl top : Nat → Nat} (hN : N ≤ 32) (ha : a < b) (hb : b < N) (hp : ∀ i, i < N → za σ 10 i = nI (pl i)) (hpb : ∀ i, i < N → pl i ≤ 400) (ht : ∀ i, i < N → zj σ 0 i = lN (top i)) : fX2_sumOfPlaces (nI a) (nI b) σ = some (lN (sm pl a b)) ∧ fX2_sumOfStamps (nI a) (nI b) σ = some (lN (sm top a b)) ∧ fX2_fitAbove_5 (nI a) (nI b) σ 500 0 (nI a) = some (lN (sm (fun i => pl i * top i) a b)) ∧ fX2_fitBelow_5 (nI a) (nI b) σ 500 0 (nI a) = some (lN (sm (fun i => pl i * pl i) a b)) := by
  have ng : ∀ {j}, j ≤ b → ¬ nI b < nI j := fun hj => nI_nlt hj (by omega)
  have cl : ∀ {j}, j ≤ b → (nI j).toNatClampNeg = j := fun hj => nI_clamp (by omega)
  have z32 : ∀ {j}, j ≤ b → j < 32 := fun hj => by omega
  have lp : ∀ {j}, j ≤ b → (nI (pl j)).toInt64 = lN (pl j) := fun hj => nI_l (by have := hpb _ (Nat.lt_of_le_of_lt hj hb); omega)
  have en : nI b < nI (b + 1) := nI_lt (by omega) (by omega)
  refine ⟨?_, ?_, ?_, ?_⟩
  · unfold fX2_sumOfPlaces
    have e := sum_loop (f := pl) (a := a) (b := b) (fX2_sumOfPlaces_5 (nI b) σ) (fun n j s h1 h2 => by
      rw [fX2_sumOfPlaces_5]
      simp only [zv, zy1, zy2, zy3, if_neg (ng h2), zgq (z32 h2), cl h2, hp j (by omega), lp h2, lN_add, nI_1]) (fun n s => by rw [fX2_sumOfPlaces_5, if_pos en]) (by omega) (by omega)
    rw [e]
    rfl
  · unfold fX2_sumOfStamps
    have e := sum_loop (f := top) (a := a) (b := b) (fX2_sumOfStamps_5 (nI b) σ) (fun n j s h1 h2 => by
      rw [fX2_sumOfStamps_5]
      simp only [zv, zy1, zy2, zy3, if_neg (ng h2), zgq (z32 h2), cl h2, ht j (by omega), lN_add, nI_1]) (fun n s => by rw [fX2_sumOfStamps_5, if_pos en]) (by omega) (by omega)
    rw [e]
    rfl
  · exact sum_loop (f := fun i => pl i * top i) (a := a) (b := b) (fX2_fitAbove_5 (nI a) (nI b) σ) (fun n j s h1 h2 => by
      rw [fX2_fitAbove_5]
      simp only [zv, zy1, zy2, zy3, if_neg (ng h2), zgq (z32 h2), cl h2, hp j (by omega), ht j (by omega), lp h2, lN_mul, lN_add, nI_1]) (fun n s => by rw [fX2_fitAbove_5, if_pos en]) (by omega) (by omega)
  · exact sum_loop (f := fun i => pl i * pl i) (a := a) (b := b) (fX2_fitBelow_5 (nI a) (nI b) σ) (fun n j s h1 h2 => by
      rw [fX2_fitBelow_5]
      simp only [zv, zy1, zy2, zy3, if_neg (ng h2), zgq (z32 h2), cl h2, hp j (by omega), lp h2, lN_mul, lN_add, nI_1]) (fun n s => by rw [fX2_fitBelow_5, if_pos en]) (by omega) (by omega)
theorem RelM_Fr2 {N : Nat} {T : Nat → Nat} {B : Nat} {S H : Nat → Nat} {G : Nat} {ga gb : Nat → Nat} {P V : Nat} {σ τ τ' : zS} (h : RelD N T B S H G ga gb P V σ τ) (f : Fr [] [2, 3, 4, 5] [] [] τ τ') : RelD N T B S H G ga gb P V σ τ' := by
  obtain ⟨h1, h2, h3, h4, h5, h6, h7, h8, h9⟩ := h
  refine ⟨?_, ?_, ?_, ?_, ?_, ?_, ?_, ?_, h9⟩
  · rw [f.1 0 (by decide), f.2.2.1 0 (by decide)]; exact h1
  · rw [f.2.2.1 1 (by decide), f.2.2.1 3 (by decide), f.2.2.1 4 (by decide)]; exact h2
  · rw [f.2.2.1 2 (by decide)]; exact h3
  · rw [f.1 1 (by decide), f.2.2.1 5 (by decide)]; exact h4
  · rw [f.1 4 (by decide), f.2.2.1 9 (by decide), f.2.2.1 10 (by decide)]; exact h5
  · rw [f.1 2 (by decide), f.1 3 (by decide)]; exact h6
  · rw [f.1 5 (by decide)]; exact h7
  · intro k hk
    have := h8 k hk
    rw [f.2.2.1 11 (by decide), f.2.2.1 12 (by decide), f.2.2.1 13 (by decide), f.2.2.2.1 2 (by decide), f.2.2.2.2]
    exact this
theorem M_fits {τ : zS} {N a b : Nat} {pl top : Nat → Nat} (hN : N ≤ 32) (ha : a < b) (hb : b < N) (hp : ∀ i, i < N → za τ 6 i = nI (pl i)) (hpb : ∀ i, i < N → pl i ≤ 400) (ht : ∀ i, i < N → zj τ 0 i = lN (top i)) : ∃ τ', fX7_sums_26 (nI b) 500 (nI a) (wl (wl (wl (wl τ 2 0) 3 0) 4 0) 5 0) = some τ' ∧ Fr [] [2, 3, 4, 5] [] [] τ τ' ∧ zl τ' 2 = lN (sm pl a b) ∧ zl τ' 3 = lN (sm top a b) ∧ zl τ' 4 = lN (sm (fun i => pl i * top i) a b) ∧ zl τ' 5 = lN (sm (fun i => pl i * pl i) a b) := by
  have loop : ∀ n j ρ, a ≤ j → j ≤ b + 1 → b + 1 < j + n → Fr [] [2, 3, 4, 5] [] [] τ ρ → zl ρ 2 = lN (zsum (fun k => pl (a + k)) (j - a)) → zl ρ 3 = lN (zsum (fun k => top (a + k)) (j - a)) → zl ρ 4 = lN (zsum (fun k => pl (a + k) * top (a + k)) (j - a)) → zl ρ 5 = lN (zsum (fun k => pl (a + k) * pl (a + k)) (j - a)) → ∃ τ', fX7_sums_26 (nI b) n (nI j) ρ = some τ' ∧ Fr [] [2, 3, 4, 5] [] [] τ τ' ∧ zl τ' 2 = lN (sm pl a b) ∧ zl τ' 3 = lN (sm top a b) ∧ zl τ' 4 = lN (sm (fun i => pl i * top i) a b) ∧ zl τ' 5 = lN (sm (fun i => pl i * pl i) a b) := by
    intro n
    induction n with
    | zero => intro j ρ h0 h1 h2; omega
    | succ n ih =>
      intro j ρ h0 h1 h2 fr g2 g3 g4 g5
      rw [fX7_sums_26]
      by_cases c : j = b + 1
      · subst c
        rw [if_pos (nI_lt (by omega) (by omega))]
        exact ⟨ρ, rfl, fr, g2, g3, g4, g5⟩
      · have hcl : (nI j).toNatClampNeg = j := nI_clamp (by omega)
        have k6 : za ρ 6 j = nI (pl j) := by rw [fr.2.2.1 6 (by decide)]; exact hp j (by omega)
        have k0 : zj ρ 0 j = lN (top j) := by rw [fr.2.2.2.1 0 (by decide)]; exact ht j (by omega)
        have lp : (nI (pl j)).toInt64 = lN (pl j) := nI_l (by have := hpb j (by omega); omega)
        have e : ∀ f : Nat → Nat, zsum (fun k => f (a + k)) (j - a) + f j = zsum (fun k => f (a + k)) (j + 1 - a) := by
          intro f
          rw [show j + 1 - a = (j - a) + 1 by omega]
          show _ = zsum (fun k => f (a + k)) (j - a) + f (a + (j - a))
          rw [show a + (j - a) = j by omega]
        simp only [zv, zy1, zy2, zy3, if_neg (nI_nlt (show j ≤ b by omega) (show b < 2 ^ 31 by omega)), zgq (show j < 32 by omega), hcl, zi_wi, zi_wl, zi_wa, zi_wj, zi_wd, zl_wi, zl_wl, zl_wa, zl_wj, zl_wd, za_wi, za_wl, za_wa, za_wj, za_wd, zj_wi, zj_wl, zj_wa, zj_wj, zj_wd, zd_wi, zd_wl, zd_wa, zd_wj, zd_wd, Nat.reduceEqDiff, reduceIte, Nat.reduceAdd, k6, k0, lp, g2, g3, g4, g5, lN_mul, lN_add, nI_1]
        exact ih (j + 1) _ (by omega) (by omega) (by omega) (Fr_wl (Fr_wl (Fr_wl (Fr_wl fr (by decide)) (by decide)) (by decide)) (by decide)) (congrArg lN (e pl)) (congrArg lN (e top)) (congrArg lN (e (fun i => pl i * top i))) (congrArg lN (e (fun i => pl i * pl i)))
  refine loop 500 a _ (Nat.le_refl a) (by omega) (by omega) (Fr_wl (Fr_wl (Fr_wl (Fr_wl (Fr_r τ) (by decide)) (by decide)) (by decide)) (by decide)) ?_ ?_ ?_ ?_ <;> rw [Nat.sub_self] <;> rfl
theorem pairX {σ τ : zS} {N : Nat} (hN : N ≤ 32) (h5 : zi σ 5 = nI N) (h0 : zi τ 0 = nI N) (v w : Int32) : (fX6_isEdgePair v w σ = some 0 ∧ fX7_isFit v w τ = some 0) ∨ ∃ a b, a < b ∧ b < N ∧ v = nI a ∧ w = nI b ∧ fX6_isEdgePair v w σ = some 1 ∧ fX7_isFit v w τ = some 1 := by
  unfold fX6_isEdgePair fX7_isFit
  rw [X_isEdge, X_isEdge, h5, h0]
  simp only [zv, zy1, zy2, zy3]
  by_cases c0 : v < 0
  · left
    have e : zw v 0 (nI N - 1) = 0 := by unfold zw; rw [if_pos c0]
    rw [e]
    simp only [if_true, if_pos c0]
    exact ⟨trivial, trivial⟩
  · obtain ⟨a, ha, rfl⟩ := nI_of c0
    rw [if_neg c0]
    by_cases c1 : w ≤ nI a
    · left
      simp only [if_pos c1]
      refine ⟨?_, trivial⟩
      split
      · rfl
      · split <;> rfl
    · have cw : ¬ w < 0 := by
        intro z
        apply c1
        rw [Int32.lt_iff_toInt_lt] at z
        rw [Int32.le_iff_toInt_le, nI_toInt ha]
        have e0 : (0 : Int32).toInt = 0 := by decide
        omega
      obtain ⟨b, hb, rfl⟩ := nI_of cw
      have ab : a < b := by
        apply Nat.lt_of_not_le
        intro z
        exact c1 (nI_le z ha)
      simp only [if_neg c1]
      by_cases c2 : N ≤ b
      · left
        have e : zw (nI b) 0 (nI N - 1) = 0 := by
          rcases zw_N (v := nI b) N (by omega) with e | ⟨k, hk, e1, _⟩
          · exact e
          · have := (nI_eq hb (by omega)).mp e1; omega
        simp only [if_pos (nI_le c2 hb), e, if_true]
        refine ⟨?_, trivial⟩
        split <;> rfl
      · right
        refine ⟨a, b, ab, by omega, rfl, rfl, ?_, ?_⟩
        · simp only [zw_e (show N < 2 ^ 31 by omega) (show a < N by omega), zw_e (show N < 2 ^ 31 by omega) (show b < N by omega), if_neg one_ne]
        · rw [if_neg (nI_ge (by omega) (by omega))]
/-- the line's numbers -/
theorem fitB {N a b : Nat} {pl top : Nat → Nat} (hN : N ≤ 32) (ha : a < b) (hb : b < N) (hpb : ∀ i, i < N → pl i ≤ 400) (hpm : ∀ i j, i < j → j < N → pl i < pl j) (htb : ∀ i, i < N → top i ≤ 2400000) (htm : ∀ i j, i ≤ j → j < N → top i ≤ top j) : sm pl a b ≤ 400 * 32 ∧ sm top a b ≤ 2400000 * 32 ∧ sm pl a b * sm top a b ≤ (b - a + 1) * sm (fun i => pl i * top i) a b ∧ (b - a + 1) * sm (fun i => pl i * top i) a b ≤ 32 * (960000000 * 32) ∧ sm pl a b * sm pl a b < (b - a + 1) * sm (fun i => pl i * pl i) a b ∧ (b - a + 1) * sm (fun i => pl i * pl i) a b ≤ 32 * (160000 * 32) := by
  refine ⟨sm_b (by omega) (fun i _ h => hpb i (by omega)), sm_b (by omega) (fun i _ h => htb i (by omega)), ?_, ?_, ?_, ?_⟩
  · have e := cheb (x := fun k => pl (a + k)) (y := fun k => top (a + k)) (b + 1 - a) (fun i j h1 h2 => ⟨Nat.le_of_lt (hpm (a + i) (a + j) (by omega) (by omega)), htm (a + i) (a + j) (by omega) (by omega)⟩)
    rw [show b - a + 1 = b + 1 - a by omega]
    exact e
  · refine Nat.mul_le_mul (by omega) (sm_b (by omega) (fun i _ h => ?_))
    exact Nat.mul_le_mul (hpb i (by omega)) (htb i (by omega))
  · have e := chebQ (x := fun k => pl (a + k)) (b + 1 - a) (by omega) (fun i j h1 h2 => hpm (a + i) (a + j) (by omega) (by omega))
    rw [show b - a + 1 = b + 1 - a by omega]
    exact e
  · refine Nat.mul_le_mul (by omega) (sm_b (by omega) (fun i _ h => ?_))
    exact Nat.mul_le_mul (hpb i (by omega)) (hpb i (by omega))
theorem fitBoth {N : Nat} {T : Nat → Nat} {B : Nat} {S H : Nat → Nat} {G : Nat} {ga gb : Nat → Nat} {P V md a b : Nat} {σ τ : zS} {w : Int32} (h : FD N T B S H G ga gb P V md σ τ) (hab : a < b) (hbN : b < N) (hpr : fX6_isEdgePair (nI a) (nI b) σ = some 1) (hw : zw w 0 1 = 1) : ∃ r σ' τ', fX6_fit (nI a) (nI b) w σ = some (r, σ') ∧ fX7_fitOf (nI a) (nI b) w τ = some (r, τ') ∧ FD N T B S H G ga gb P V md σ' τ' := by
  obtain ⟨hd, hc, hm⟩ := FD_B h
  have hN := hd.1
  obtain ⟨b1, b2, b3, b4, b5⟩ := qB md hd
  obtain ⟨σ', p1, h', x0, x1, x2, x3, x4, x5, x6, x7, x8, x9, x10, x11⟩ := X_due h
  obtain ⟨τ', p2, h'', y1, y2, y3, y4⟩ := M_due h'
  have pb : ∀ i, i < N → dPlace V (qRef N T B S H P md) (qTop T B S H md) i ≤ 400 := fun i hi => place_b hN hi
  have pm : ∀ i j, i < j → j < N → dPlace V (qRef N T B S H P md) (qTop T B S H md) i < dPlace V (qRef N T B S H P md) (qTop T B S H md) j := fun i j hij _ => place_m hij
  obtain ⟨f1, f2, f3, f4⟩ := X_fits (σ := σ') hN hab hbN x4 pb x2
  obtain ⟨τ2, q1, q2, q3, q4, q5, q6⟩ := M_fits (τ := τ') hN hab hbN (fun i hi => (y4 i hi).1) pb y2
  obtain ⟨t1, t2, t3, t4, t5, t6⟩ := fitB hN hab hbN pb pm b4 b5
  have l0 : zl τ2 0 = lN (qSc B H md) := (q2.2.1 0 (by decide)).trans y1
  generalize sm (fun i => dPlace V (qRef N T B S H P md) (qTop T B S H md) i * qTop T B S H md i) a b = X at *
  generalize sm (fun i => dPlace V (qRef N T B S H P md) (qTop T B S H md) i * dPlace V (qRef N T B S H P md) (qTop T B S H md) i) a b = Q at *
  generalize sm (dPlace V (qRef N T B S H P md) (qTop T B S H md)) a b = PL at *
  generalize sm (qTop T B S H md) a b = TP at *
  have en : (nI b - nI a + 1).toInt64 = lN (b - a + 1) := by
    rw [nI_sub (by omega), nI_1, nI_l (by omega)]
  have eS : (nI (qSc B H md)).toInt64 = lN (qSc B H md) := nI_l (by omega)
  have eA : lN ((b - a + 1) * X) - lN (PL * TP) = lN ((b - a + 1) * X - PL * TP) := lN_sub t3
  have eB : lN ((b - a + 1) * Q) - lN (PL * PL) = lN ((b - a + 1) * Q - PL * PL) := lN_sub (Nat.le_of_lt t5)
  have hden : ((b - a + 1) * Q - PL * PL) * qSc B H md ≤ 32 * (160000 * 32) * 400 := Nat.mul_le_mul (by omega) b2
  have hpos : 1 * 1 ≤ ((b - a + 1) * Q - PL * PL) * qSc B H md := Nat.mul_le_mul (by omega) b1
  refine ⟨lN (lowN ((b - a + 1) * X - PL * TP) (((b - a + 1) * Q - PL * PL) * qSc B H md) w), σ', τ2, ?_, ?_, ⟨RelM_Fr2 h''.1 q2, h''.2⟩⟩
  · unfold fX6_fit fX2_fitAbove fX2_fitBelow
    rw [hpr, X_isHalf, hw, p1]
    simp only [zv, zy1, zy2, zy3, if_neg one_ne, f1, f2, f3, f4, en, eA, eB, x1, eS, lN_mul, X_low (show (b - a + 1) * X - PL * TP < 2 ^ 63 by omega) (show ((b - a + 1) * Q - PL * PL) * qSc B H md < 2 ^ 63 by omega) (show 0 < ((b - a + 1) * Q - PL * PL) * qSc B H md by omega)]
  · unfold fX7_fitOf fX7_sums
    rw [p2]
    simp only [zv, zy1, zy2, zy3, q1, q3, q4, q5, q6, en, eA, eB, l0, lN_mul, M_low (show (b - a + 1) * X - PL * TP < 2 ^ 63 by omega) (show ((b - a + 1) * Q - PL * PL) * qSc B H md < 2 ^ 63 by omega) (show 0 < ((b - a + 1) * Q - PL * PL) * qSc B H md by omega)]
theorem ok_fit_ : ok_fit Rel := by
  intro σ τ v u w h
  obtain ⟨N, T, B, S, H, G, ga, gb, P, V, md, hf⟩ := Rel_FD h
  obtain ⟨hd, hc, hm⟩ := FD_B hf
  rcases pairX hd.1 hc.1 hm.1 v u with ⟨e1, e2⟩ | ⟨a, b, hab, hb, rfl, rfl, e1, e2⟩
  · refine ⟨(-9223372036854775808 : Int64) - (-2 : Int32).toInt64, σ, τ, ?_, ?_, h⟩
    · unfold fX6_fit
      rw [e1]
      rfl
    · unfold fX7_fit
      rw [e2]
      rfl
  · rcases zw01 w 0 1 with e3 | e3
    · refine ⟨(-9223372036854775808 : Int64) - (-2 : Int32).toInt64, σ, τ, ?_, ?_, h⟩
      · unfold fX6_fit
        rw [e1, X_isHalf, e3]
        rfl
      · unfold fX7_fit
        rw [e2, M_in, e3]
        rfl
    · obtain ⟨r, σ', τ', g1, g2, g3⟩ := fitBoth hf hab hb e1 e3
      refine ⟨r, σ', τ', g1, ?_, FD_Rel g3⟩
      unfold fX7_fit
      rw [e2, M_in, e3, g2]
      rfl

theorem absI {a b : Nat} (ha : a < 2 ^ 30) (hb : b < 2 ^ 30) : ∃ d, d < 2 ^ 30 ∧ (if (0 : Int32) ≤ nI a - nI b then nI a - nI b else 0 - (nI a - nI b)) = nI d ∧ (if (0 : Int32) ≤ nI a - nI b then some (nI a - nI b) else some (-(nI a - nI b))) = some (nI d) := by
  by_cases c : b ≤ a
  · have e := nI_sub c
    rw [e, if_pos (nI_pos' (by omega)), if_pos (nI_pos' (by omega))]
    exact ⟨a - b, by omega, rfl, rfl⟩
  · have e : nI b - nI a = nI (b - a) := nI_sub (by omega)
    have e2 : -(nI a - nI b) = nI (b - a) := by rw [Int32.neg_sub, e]
    have e3 : 0 - (nI a - nI b) = nI (b - a) := by rw [Int32.zero_sub, e2]
    have n : ¬ (0 : Int32) ≤ nI a - nI b := by
      intro h
      have h1 : nI a - nI b = -(nI (b - a)) := by rw [← e2, Int32.neg_neg]
      rw [h1, Int32.le_iff_toInt_le, Int32.toInt_neg, nI_toInt (by omega)] at h
      have e0 : (0 : Int32).toInt = 0 := by decide
      rw [Int.bmod_eq_of_le (by omega) (by omega)] at h
      omega
    rw [if_neg n, if_neg n, e2, e3]
    exact ⟨b - a, by omega, rfl, rfl⟩
theorem worstLoop {σ τ : zS} {B : Nat} {S H : Nat → Nat} (h2 : RB B S (zi σ 6) (za σ 2) (za τ 1) (za τ 3) (za τ 4)) (h3 : RH H (zi σ 7) (za σ 3) (za τ 2)) (hp : 0 < zsum H 12) : ∀ n i v d v', i ≤ B → B < i + n → (0 < i → v' = v) → (i = 0 → d = -1) → ∃ r, fX0_farthest_6 σ n v d (nI i) = some r ∧ (0 < B → fX7_worstNow_13 (nI (zsum H 12)) τ n v' d (nI i) = some r) := by
  have hB2 := h2.2.2.1
  have hS := RB_S h2
  intro n
  induction n with
  | zero => intro i v d v' q1 q2; omega
  | succ n ih =>
    intro i v d v' q1 q2 q3 q4
    rw [fX0_farthest_6, fX7_worstNow_13, h2.1, M_bins h2, h3.1]
    by_cases q : B ≤ i
    · rw [if_pos (nI_le q (by omega))]
      refine ⟨v, rfl, fun hb => ?_⟩
      simp only [zv, zy1, zy2, zy3, if_pos (nI_le q (show i < 2 ^ 31 by omega)), q3 (by omega)]
    · have hcl : (nI i).toNatClampNeg = i := nI_clamp (by omega)
      have ng : ¬ nI B ≤ nI i := nI_ge (by omega) (by omega)
      have t3 := h3.2.2 i (by omega)
      have hz := h3.2.1
      have hH : H i ≤ 400 := Nat.le_trans (zsum_le (H := H) 12 (by omega)) hz
      have hS1 : S i ≤ dFi S B (i + 1) ∧ dFi S B (i + 1) ≤ 60 := by
        unfold dFi
        by_cases c : i + 1 < B
        · rw [if_pos c]
          have := h2.2.2.2.2.2.2.1 i (i + 1) (by omega) c
          have := (hS (i + 1) c).2
          omega
        · rw [if_neg c]
          have := (hS i (by omega)).2
          omega
      have ew : nI (dFi S B (i + 1)) - nI (S i) = nI (dFi S B (i + 1) - S i) := nI_sub hS1.1
      have e60 : (60 : Int32) * nI (H i) = nI (60 * H i) := nI_mul 60 (H i)
      have hm : (dFi S B (i + 1) - S i) * zsum H 12 ≤ 60 * 400 := Nat.mul_le_mul (by omega) hz
      obtain ⟨x, hx, ex1, ex2⟩ := absI (a := 60 * H i) (b := (dFi S B (i + 1) - S i) * zsum H 12) (by omega) (by omega)
      have n1 : ¬ nI (zsum H 12) ≤ 0 := nI_nle hp (by omega)
      simp only [zv, zy1, zy2, zy3, if_neg ng, if_neg n1, zgq (show i < 12 by omega), hcl, X_width h2.1 hB2 hS (show i < B by omega), M_width h2 (show i < B by omega), t3.1, t3.2, ew, e60, nI_mul, ex1, ex2, nI_1]
      by_cases c : nI x ≤ d
      · have i0 : 0 < i := by
          apply Nat.pos_of_ne_zero
          intro z
          rw [q4 z, Int32.le_iff_toInt_le, nI_toInt (by omega)] at c
          have e0 : (-1 : Int32).toInt = -1 := by decide
          omega
        simp only [if_pos c]
        exact ih (i + 1) v d v' (by omega) (by omega) (fun _ => q3 i0) (fun z => by omega)
      · simp only [if_neg c]
        exact ih (i + 1) (nI i) (nI x) (nI i) (by omega) (by omega) (fun _ => rfl) (fun z => by omega)
theorem worstBoth {σ τ : zS} (h : Rel σ τ) : ∃ r, fX6_worst σ = some r ∧ fX7_worstNow τ = some r := by
  obtain ⟨B, S, H, h2, h3⟩ := binsAt h
  have hz := h3.2.1
  unfold fX6_worst fX7_worstNow
  rw [h3.1, M_all (RH_M h3)]
  by_cases c : zsum H 12 = 0
  · refine ⟨-3, ?_, ?_⟩
    · rw [c, if_pos nI_0]
    · have e : fX7_worstNow_13 (nI (zsum H 12)) τ 500 (-3) (-1) 0 = some (-3) := by
        rw [fX7_worstNow_13, M_bins h2]
        have e0 : nI (zsum H 12) ≤ 0 := by rw [c]; decide
        simp only [zv, zy1, zy2, zy3, if_pos e0]
        split <;> rfl
      simp only [zv, zy1, zy2, zy3, e]
  · obtain ⟨r, g1, g2⟩ := worstLoop h2 h3 (by omega) 500 0 0 (-1) (-3) (by omega) (by have := h2.2.2.1; omega) (fun z => by omega) (fun _ => rfl)
    rw [nI_0] at g1 g2
    refine ⟨r, ?_, ?_⟩
    · rw [if_neg (nI_ne0 (by omega) (by omega))]
      simp only [fX0_farthest, zv, zy1, zy2, zy3, g1]
    · simp only [zv, zy1, zy2, zy3, g2 h2.2.1]
theorem ok_worst_ : ok_worst Rel := by
  intro σ τ h
  obtain ⟨r, g1, g2⟩ := worstBoth h
  refine ⟨r, g1, ?_, h⟩
  unfold fX7_worst
  simp only [zv, zy1, zy2, zy3, g2]

theorem zg_t {β : Type} {b : Bool} {o : Option β} (h : b = true) : zg b o = o := by unfold zg; exact if_pos h
theorem zq_nI {k n : Nat} (h : k < n) (hn : n < 2 ^ 31) : zq (nI k) n = true := by
  unfold zq
  exact decide_eq_true (nI_in h hn)
theorem zgq {β : Type} {k n : Nat} {o : Option β} (h : k < n) (hn : n < 2 ^ 31 := by decide) : zg (zq (nI k) n) o = o := zg_t (zq_nI h hn)
theorem nI_sub {a b : Nat} (h : b ≤ a) : nI a - nI b = nI (a - b) := (Int32.ofNat_sub a b h).symm
theorem nI_mul (a b : Nat) : nI a * nI b = nI (a * b) := (Int32.ofNat_mul a b).symm
theorem nI_dec {a : Nat} (h : 1 ≤ a) : nI a + (-1) = nI (a - 1) := by
  have e : nI a + (-1) = nI a - nI 1 := by
    rw [Int32.sub_eq_add_neg]
    rfl
  rw [e, nI_sub h]
theorem nI_div {a b : Nat} (ha : a < 2 ^ 31) (hb : b < 2 ^ 31) (h0 : 0 < b) : nI a / nI b = nI (a / b) := by
  apply Int32.toInt_inj.mp
  have hq : a / b ≤ a := Nat.div_le_self a b
  have hne : nI b ≠ -1 := by
    intro e
    have := congrArg Int32.toInt e
    rw [nI_toInt hb] at this
    have e1 : (-1 : Int32).toInt = -1 := by decide
    omega
  rw [Int32.toInt_div_of_ne_right _ _ hne, nI_toInt ha, nI_toInt hb, nI_toInt (by omega)]
  exact (Int.ofNat_tdiv a b).symm
theorem nI_mod {a b : Nat} (ha : a < 2 ^ 31) (hb : b < 2 ^ 31) (h0 : 0 < b) : nI a - nI a / nI b * nI b = nI (a % b) := by
  rw [nI_div ha hb h0, nI_mul, nI_sub (Nat.div_mul_le_self a b)]
  congr 1
  have := Nat.div_add_mod a b
  rw [Nat.mul_comm] at this
  omega
theorem nI_neg1 {a : Nat} (ha : a < 2 ^ 31) : ¬ nI a = -1 := by
  intro e
  have := congrArg Int32.toInt e
  rw [nI_toInt ha] at this
  have e1 : (-1 : Int32).toInt = -1 := by decide
  omega
/-- within: 1 or 0 -/
def zw (v a b : Int32) : Int32 := if v < a then 0 else if b < v then 0 else 1
theorem zw_z (v a b : Int32) : zz (zw v a b) = true := by
  unfold zw zz
  split
  · decide
  · split <;> decide
theorem zw_C {v : Int32} (a b : Nat) (ha : a < 2 ^ 31) (hb : b < 2 ^ 31) : zw v (nI a) (nI b) = 0 ∨ ∃ k, a ≤ k ∧ k ≤ b ∧ v = nI k ∧ zw v (nI a) (nI b) = 1 := by
  unfold zw
  by_cases h1 : v < nI a
  · left; rw [if_pos h1]
  · rw [if_neg h1]
    by_cases h2 : nI b < v
    · left; rw [if_pos h2]
    · rw [if_neg h2]
      right
      rw [Int32.lt_iff_toInt_lt, nI_toInt ha] at h1
      rw [Int32.lt_iff_toInt_lt, nI_toInt hb] at h2
      refine ⟨v.toInt.toNat, by omega, by omega, ?_, rfl⟩
      apply Int32.toInt_inj.mp
      rw [nI_toInt (by omega)]
      omega
theorem zw_N {v : Int32} (N : Nat) (hN : N < 2 ^ 30) : zw v 0 (nI N - 1) = 0 ∨ ∃ k, k < N ∧ v = nI k ∧ zw v 0 (nI N - 1) = 1 := by
  by_cases h0 : N = 0
  · subst h0
    left
    unfold zw
    by_cases h1 : v < 0
    · rw [if_pos h1]
    · rw [if_neg h1]
      have h2 : nI 0 - 1 < v := by
        rw [Int32.lt_iff_toInt_lt] at h1 ⊢
        have e0 : (0 : Int32).toInt = 0 := by decide
        have e1 : (nI 0 - 1 : Int32).toInt = -1 := by decide
        omega
      rw [if_pos h2]
  · have e : nI N - 1 = nI (N - 1) := nI_sub (a := N) (b := 1) (by omega)
    rw [e]
    rcases zw_C (v := v) 0 (N - 1) (by omega) (by omega) with h | ⟨k, _, h2, h3, h4⟩
    · left; exact h
    · right; exact ⟨k, by omega, h3, h4⟩
theorem zw_1 (a b k : Nat) (h1 : a ≤ k) (h2 : k ≤ b) (hb : b < 2 ^ 31) : zw (nI k) (nI a) (nI b) = 1 := by
  unfold zw
  rw [if_neg (nI_nlt h1 (by omega)), if_neg (nI_nlt h2 hb)]
theorem X_within (v a b : Int32) (σ : zS) : fX6_isWithin v a b σ = some (zw v a b) := by
  unfold fX6_isWithin zw
  split
  · rfl
  · split <;> rfl
theorem M_in (v a b : Int32) (σ : zS) : fX7_in v a b σ = some (zw v a b) := by
  unfold fX7_in zw
  split
  · rfl
  · split <;> rfl
theorem zyz {γ : Type} (v a b : Int32) (k : Int32 → Option γ) : zg (zz (zw v a b)) (k (zw v a b)) = k (zw v a b) := zg_t (zw_z v a b)
theorem X_isTime (v : Int32) (σ : zS) : fX6_isTime v σ = some (zw v 0 5999) := by
  unfold fX6_isTime; rw [X_within]; exact zg_t (zw_z _ _ _)
theorem X_isFine (v : Int32) (σ : zS) : fX6_isFine v σ = some (zw v 0 59) := by
  unfold fX6_isFine; rw [X_within]; exact zg_t (zw_z _ _ _)
theorem X_isSheet (v : Int32) (σ : zS) : fX6_isSheet v σ = some (zw v 0 3) := by
  unfold fX6_isSheet; rw [X_within]; exact zg_t (zw_z _ _ _)
theorem X_isForm (v : Int32) (σ : zS) : fX6_isForm v σ = some (zw v 0 3) := by
  unfold fX6_isForm; rw [X_within]; exact zg_t (zw_z _ _ _)
theorem X_isEdge (v : Int32) (σ : zS) : fX6_isEdge v σ = some (zw v 0 (zi σ 5 - 1)) := by
  unfold fX6_isEdge; rw [X_within]; exact zg_t (zw_z _ _ _)
theorem X_isBin (v : Int32) (σ : zS) : fX6_isBin v σ = some (zw v 0 (zi σ 6 - 1)) := by
  unfold fX6_isBin; rw [X_within]; exact zg_t (zw_z _ _ _)
theorem X_isGate (v : Int32) (σ : zS) : fX6_isGate v σ = some (zw v 0 (zi σ 8 - 1)) := by
  unfold fX6_isGate; rw [X_within]; exact zg_t (zw_z _ _ _)
theorem M_isSheet (v : Int32) (σ : zS) : fX7_isSheet v σ = some (zw v 0 3) := by
  unfold fX7_isSheet; rw [M_in]; exact zg_t (zw_z _ _ _)
theorem M_isEdge (v : Int32) (σ : zS) : fX7_isEdge v σ = some (zw v 0 (zi σ 0 - 1)) := by
  unfold fX7_isEdge; rw [M_in]; exact zg_t (zw_z _ _ _)
theorem M_isGate (v : Int32) (σ : zS) : fX7_isGate v σ = some (zw v 0 (zi σ 4 - 1)) := by
  unfold fX7_isGate; rw [M_in]; exact zg_t (zw_z _ _ _)
theorem X_isHalf (v : Int32) (σ : zS) : fX6_isHalf v σ = some (zw v 0 1) := by
  unfold fX6_isHalf zw
  by_cases h0 : v = 0
  · subst h0; rfl
  · rw [if_neg h0]
    by_cases h1 : v = 1
    · subst h1; rfl
    · rw [if_neg h1]
      by_cases h2 : v < 0
      · rw [if_pos h2]
      · rw [if_neg h2]
        have h3 : 1 < v := by
          rw [Int32.lt_iff_toInt_lt] at h2 ⊢
          rw [← Int32.toInt_inj] at h0 h1
          have e0 : (0 : Int32).toInt = 0 := by decide
          have e1 : (1 : Int32).toInt = 1 := by decide
          omega
        rw [if_pos h3]
theorem zw01 (v a b : Int32) : zw v a b = 0 ∨ zw v a b = 1 := by
  unfold zw
  split
  · exact Or.inl rfl
  · split
    · exact Or.inl rfl
    · exact Or.inr rfl
theorem one_ne : ¬ (1 : Int32) = 0 := by decide
theorem upd_s (f : Nat → Int32) (i : Nat) (v : Int32) : upd f i v i = v := by simp [upd]
theorem upd_n {f : Nat → Int32} {i j : Nat} {v : Int32} (h : j ≠ i) : upd f i v j = f j := by simp [upd, h]
theorem updL_s (f : Nat → Int64) (i : Nat) (v : Int64) : vp_updL f i v i = v := by simp [vp_updL]
theorem updL_n {f : Nat → Int64} {i j : Nat} {v : Int64} (h : j ≠ i) : vp_updL f i v j = f j := by simp [vp_updL, h]
theorem updD_s (f : Nat → UInt64) (i : Nat) (v : UInt64) : vf_upd f i v i = v := by simp [vf_upd]
theorem updD_n {f : Nat → UInt64} {i j : Nat} {v : UInt64} (h : j ≠ i) : vf_upd f i v j = f j := by simp [vf_upd, h]

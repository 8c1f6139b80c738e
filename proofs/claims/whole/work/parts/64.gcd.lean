theorem lT {n : Nat} (h : n < 2 ^ 63) : (lN n).toInt = (n : Int) := Int64.toInt_ofNat_of_lt h
theorem lN_leI {a b : Nat} (ha : a < 2 ^ 63) (hb : b < 2 ^ 63) : lN a ≤ lN b ↔ a ≤ b := by
  rw [Int64.le_iff_toInt_le, lT ha, lT hb]; omega
theorem lN_ltI {a b : Nat} (ha : a < 2 ^ 63) (hb : b < 2 ^ 63) : lN a < lN b ↔ a < b := by
  rw [Int64.lt_iff_toInt_lt, lT ha, lT hb]; omega
theorem lN_eqI {a b : Nat} (ha : a < 2 ^ 63) (hb : b < 2 ^ 63) : lN a = lN b ↔ a = b := by
  rw [← Int64.toInt_inj, lT ha, lT hb]; omega
theorem lN_divI {a b : Nat} (ha : a < 2 ^ 63) (hb : b < 2 ^ 63) : lN a / lN b = lN (a / b) := by
  apply Int64.toInt_inj.mp
  have hq : a / b ≤ a := Nat.div_le_self a b
  have hne : lN b ≠ -1 := by
    intro e
    have := congrArg Int64.toInt e
    rw [lT hb] at this
    have e1 : (-1 : Int64).toInt = -1 := by decide
    omega
  rw [Int64.toInt_div_of_ne_right _ _ hne, lT ha, lT hb, lT (by omega)]
  exact (Int.ofNat_tdiv a b).symm
theorem lN_modI {a b : Nat} (ha : a < 2 ^ 63) (hb : b < 2 ^ 63) : lN a - lN a / lN b * lN b = lN (a % b) := by
  rw [lN_divI ha hb, lN_mul, lN_sub (Nat.div_mul_le_self a b)]
  congr 1
  have := Nat.div_add_mod a b
  rw [Nat.mul_comm] at this
  omega
def fbt : Nat → Nat → Nat → Nat
  | 0, a, _ => a
  | n + 1, a, b => fbt n b (a + b)
theorem fbt_rec : ∀ n a b, fbt (n + 2) a b = fbt (n + 1) a b + fbt n a b := by
  intro n
  induction n with
  | zero => intro a b; show a + b = b + a; omega
  | succ n ih => intro a b; exact ih b (a + b)
def fb (n : Nat) : Nat := fbt n 0 1
theorem fb_rec (n : Nat) : fb (n + 2) = fb (n + 1) + fb n := fbt_rec n 0 1
theorem fb_93 : 2 ^ 63 ≤ fb 93 := by decide +kernel
/-- how many steps of Euclid are enough -/
def euc : Nat → Nat → Nat → Prop
  | 0, _, b => b = 0
  | n + 1, a, b => b = 0 ∨ euc n b (a % b)
theorem euc_up : ∀ n a b, euc n a b → euc (n + 1) a b := by
  intro n
  induction n with
  | zero => intro a b h; exact Or.inl h
  | succ n ih =>
    intro a b h
    rcases h with h | h
    · exact Or.inl h
    · exact Or.inr (ih _ _ h)
theorem euc_le {n m a b : Nat} (h : n ≤ m) (he : euc n a b) : euc m a b := by
  induction h with
  | refl => exact he
  | step _ ih => exact euc_up _ _ _ ih
theorem euc_fb : ∀ k a b, b < a → a < fb (k + 2) → euc k a b := by
  intro k
  induction k using Nat.strongRecOn with
  | _ k ih =>
    intro a b hb ha
    match k with
    | 0 =>
      have e : fb 2 = 1 := rfl
      rw [e] at ha
      omega
    | 1 =>
      have e : fb 3 = 2 := rfl
      rw [e] at ha
      left
      omega
    | k + 2 =>
      by_cases h0 : b = 0
      · exact Or.inl h0
      · right
        have hr : a % b < b := Nat.mod_lt a (by omega)
        have hs : b + a % b ≤ a := by
          have h1 := Nat.div_add_mod a b
          have h2 : 1 ≤ a / b := Nat.div_pos (by omega) (by omega)
          have h3 : b * 1 ≤ b * (a / b) := Nat.mul_le_mul_left b h2
          omega
        have e1 : fb (k + 2 + 2) = fb (k + 1 + 2) + fb (k + 2) := fb_rec (k + 2)
        by_cases h1 : b < fb (k + 1 + 2)
        · exact ih (k + 1) (by omega) b (a % b) hr h1
        · have h2 : a % b < fb (k + 2) := by omega
          by_cases h3 : a % b = 0
          · exact Or.inl h3
          · right
            exact ih k (by omega) (a % b) (b % (a % b)) (Nat.mod_lt b (by omega)) h2
theorem euc_all {a b : Nat} (hb : b < 2 ^ 63) : euc 92 a b := by
  by_cases h0 : b = 0
  · exact Or.inl h0
  · right
    exact euc_fb 91 b (a % b) (Nat.mod_lt a (by omega)) (Nat.lt_of_lt_of_le hb fb_93)
theorem gcd_step {a b : Nat} : Nat.gcd b (a % b) = Nat.gcd a b := by
  rw [Nat.gcd_comm b, ← Nat.gcd_rec, Nat.gcd_comm]
theorem X_euc {σ : zS} : ∀ n a b s f, euc n a b → a < 2 ^ 63 → b < 2 ^ 63 → s + n ≤ 100 → n < f → fX6_commonDivisor_9 σ f (lN a) (lN b) (nI s) = some (lN (Nat.gcd a b)) := by
  intro n
  induction n with
  | zero =>
    intro a b s f he ha hb hs hf
    match f, hf with
    | f + 1, _ =>
      have he : b = 0 := he
      subst he
      rw [fX6_commonDivisor_9, Nat.gcd_zero_right]
      have e0 : lN 0 = (0 : Int64) := rfl
      split
      · rfl
      · rfl
  | succ n ih =>
    intro a b s f he ha hb hs hf
    match f, hf with
    | f + 1, _ =>
      rw [fX6_commonDivisor_9]
      have hs1 : ¬ (100 : Int32) ≤ nI s := nI_ge (b := 100) (by omega) (by decide)
      rw [if_neg hs1]
      by_cases h0 : b = 0
      · subst h0
        have e0 : lN 0 = (0 : Int64) := rfl
        rw [if_pos e0, Nat.gcd_zero_right]
      · have hne : ¬ lN b = (0 : Int64) := fun z => h0 ((lN_eqI (b := 0) hb (by decide)).mp z)
        have hr : a % b < b := Nat.mod_lt a (by omega)
        rw [if_neg hne, zg_t (decide_eq_true hne)]
        show fX6_commonDivisor_9 σ f (lN b) (lN a - lN a / lN b * lN b) (nI s + 1) = _
        rw [lN_modI ha hb, nI_1, ih b (a % b) (s + 1) f (he.resolve_left h0) hb (by omega) (by omega) (by omega), gcd_step]
theorem M_euc {σ : zS} {x y : Int64} {w : Int32} : ∀ n a b f, euc n a b → a < 2 ^ 63 → b < 2 ^ 63 → n < f → fX7_partOf_17 x y w σ f (lN a) (lN b) = some (lN (Nat.gcd a b)) := by
  intro n
  induction n with
  | zero =>
    intro a b f he ha hb hf
    match f, hf with
    | f + 1, _ =>
      have he : b = 0 := he
      subst he
      have e0 : lN 0 = (0 : Int64) := rfl
      rw [fX7_partOf_17, Nat.gcd_zero_right, if_pos e0]
  | succ n ih =>
    intro a b f he ha hb hf
    match f, hf with
    | f + 1, _ =>
      rw [fX7_partOf_17]
      by_cases h0 : b = 0
      · subst h0
        have e0 : lN 0 = (0 : Int64) := rfl
        rw [if_pos e0, Nat.gcd_zero_right]
      · have hne : ¬ lN b = (0 : Int64) := fun z => h0 ((lN_eqI (b := 0) hb (by decide)).mp z)
        have hr : a % b < b := Nat.mod_lt a (by omega)
        rw [if_neg hne, zg_t (decide_eq_true hne)]
        show fX7_partOf_17 x y w σ f (lN b) (lN a - lN a / lN b * lN b) = _
        rw [lN_modI ha hb, ih b (a % b) f (he.resolve_left h0) hb (by omega) (by omega), gcd_step]
/-- one half of a fraction in its lowest terms -/
def lowN (a b : Nat) (w : Int32) : Nat := (if w = 0 then a else b) / Nat.gcd a b
theorem X_low {σ : zS} {a b : Nat} {w : Int32} (ha : a < 2 ^ 63) (hb : b < 2 ^ 63) (h0 : 0 < b) : fX6_lowest (lN a) (lN b) w σ = some (lN (lowN a b w)) := by
  have hg : 0 < Nat.gcd a b := Nat.gcd_pos_of_pos_right a h0
  have hg2 : Nat.gcd a b ≤ b := Nat.gcd_le_right a h0
  unfold fX6_lowest fX6_commonDivisor
  have e := X_euc (σ := σ) 92 a b 0 500 (euc_all hb) ha hb (by omega) (by omega)
  rw [nI_0] at e
  simp only [zv, zy1, zy2, zy3, e]
  have hh : (if w = 0 then some (lN a) else some (lN b)) = some (lN (if w = 0 then a else b)) := by split <;> rfl
  rw [hh]
  show (if lN (Nat.gcd a b) ≤ (1 : Int64) then some (lN (if w = 0 then a else b)) else zg (decide (¬ lN (Nat.gcd a b) = 0)) (some (lN (if w = 0 then a else b) / lN (Nat.gcd a b)))) = _
  have hx : (if w = 0 then a else b) < 2 ^ 63 := by split <;> assumption
  unfold lowN
  by_cases h1 : Nat.gcd a b ≤ 1
  · have c : lN (Nat.gcd a b) ≤ (1 : Int64) := (lN_leI (b := 1) (by omega) (by decide)).mpr h1
    have e1 : Nat.gcd a b = 1 := by omega
    rw [if_pos c, e1, Nat.div_one]
  · have c : ¬ lN (Nat.gcd a b) ≤ (1 : Int64) := fun z => h1 ((lN_leI (b := 1) (by omega) (by decide)).mp z)
    have hne : ¬ lN (Nat.gcd a b) = (0 : Int64) := fun z => by have := (lN_eqI (b := 0) (by omega) (by decide)).mp z; omega
    rw [if_neg c, zg_t (decide_eq_true hne), lN_divI hx (by omega)]
theorem M_low {σ : zS} {a b : Nat} {w : Int32} (ha : a < 2 ^ 63) (hb : b < 2 ^ 63) (h0 : 0 < b) : fX7_partOf (lN a) (lN b) w σ = some (lN (lowN a b w)) := by
  have hg : 0 < Nat.gcd a b := Nat.gcd_pos_of_pos_right a h0
  have hg2 : Nat.gcd a b ≤ b := Nat.gcd_le_right a h0
  unfold fX7_partOf
  have c0 : (0 : Int64) ≤ lN a := (lN_leI (a := 0) (by decide) ha).mpr (Nat.zero_le a)
  have e := M_euc (σ := σ) (x := lN a) (y := lN b) (w := w) 92 a b 500 (euc_all hb) ha hb (by omega)
  have hne : ¬ lN (Nat.gcd a b) = (0 : Int64) := fun z => by have := (lN_eqI (b := 0) (by omega) (by decide)).mp z; omega
  simp only [zv, zy1, zy2, zy3, if_pos c0, e, zg_t (decide_eq_true hne), lN_divI ha (show Nat.gcd a b < 2 ^ 63 by omega), lN_divI hb (show Nat.gcd a b < 2 ^ 63 by omega)]
  unfold lowN
  split <;> rfl

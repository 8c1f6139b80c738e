theorem dSq_b2 {top : Nat → Nat} {N m : Nat} (hN : N ≤ 32) (hb : ∀ i, i < N → top i ≤ 2400000) (hm : ∀ i j, i ≤ j → j < N → top i ≤ top j) (h2 : 2 * m ≤ N) (h1 : 1 ≤ m) : 0 ≤ dSq top N m ∧ dSq top N m ≤ 172800000000000 := by
  have h := sumI (f := fun i => dBend top m i * dBend top m i) (M := 2400000 * 2400000) (N - 2 * m) (fun i hi => by
    have a1 := hb (i + 2 * m) (by omega)
    have a2 := hm i (i + m) (by omega) (by omega)
    have a3 := hm (i + m) (i + 2 * m) (by omega) (by omega)
    exact sqI (x := dBend top m i) (M := 2400000) (by unfold dBend; omega) (by unfold dBend; omega))
  refine ⟨h.1, Int.le_trans h.2 ?_⟩
  have : 2400000 * 2400000 * (N - 2 * m) ≤ 2400000 * 2400000 * 30 := Nat.mul_le_mul_left _ (by omega)
  omega
def sN (top : Nat → Nat) (N m : Nat) : Nat := (dSq top N m).toNat
def Lr (top : Nat → Nat) (N q m : Nat) : Bool := decide (sN top N q * dWt N m < sN top N m * dWt N q ∨ (sN top N q * dWt N m = sN top N m * dWt N q ∧ q < m))
theorem x_le {s1 s2 s3 w1 w2 w3 : Nat} (hw : 0 < w2) (h1 : s1 * w2 ≤ s2 * w1) (h2 : s2 * w3 ≤ s3 * w2) : s1 * w3 ≤ s3 * w1 := by
  apply Nat.le_of_mul_le_mul_right (c := w2) _ hw
  have a : s1 * w2 * w3 ≤ s2 * w1 * w3 := Nat.mul_le_mul_right _ h1
  have b : s2 * w3 * w1 ≤ s3 * w2 * w1 := Nat.mul_le_mul_right _ h2
  rw [Nat.mul_right_comm s1 w2 w3, Nat.mul_right_comm s2 w1 w3] at a
  rw [Nat.mul_right_comm s3 w2 w1] at b
  exact Nat.le_trans a b
theorem x_lt1 {s1 s2 s3 w1 w2 w3 : Nat} (h3 : 0 < w3) (h1 : s1 * w2 < s2 * w1) (h2 : s2 * w3 ≤ s3 * w2) : s1 * w3 < s3 * w1 := by
  apply Nat.lt_of_mul_lt_mul_right (a := w2)
  have a : s1 * w2 * w3 < s2 * w1 * w3 := Nat.mul_lt_mul_of_pos_right h1 h3
  have b : s2 * w3 * w1 ≤ s3 * w2 * w1 := Nat.mul_le_mul_right _ h2
  rw [Nat.mul_right_comm s1 w2 w3, Nat.mul_right_comm s2 w1 w3] at a
  rw [Nat.mul_right_comm s3 w2 w1] at b
  exact Nat.lt_of_lt_of_le a b
theorem x_lt2 {s1 s2 s3 w1 w2 w3 : Nat} (h3 : 0 < w1) (h1 : s1 * w2 ≤ s2 * w1) (h2 : s2 * w3 < s3 * w2) : s1 * w3 < s3 * w1 := by
  apply Nat.lt_of_mul_lt_mul_right (a := w2)
  have a : s1 * w2 * w3 ≤ s2 * w1 * w3 := Nat.mul_le_mul_right _ h1
  have b : s2 * w3 * w1 < s3 * w2 * w1 := Nat.mul_lt_mul_of_pos_right h2 h3
  rw [Nat.mul_right_comm s1 w2 w3, Nat.mul_right_comm s2 w1 w3] at a
  rw [Nat.mul_right_comm s3 w2 w1] at b
  exact Nat.lt_of_le_of_lt a b
theorem Lr_tr {top : Nat → Nat} {N a b c : Nat} (ha : 0 < dWt N a) (hb : 0 < dWt N b) (hc : 0 < dWt N c) (h1 : Lr top N a b = true) (h2 : Lr top N b c = true) : Lr top N a c = true := by
  have h1 := of_decide_eq_true h1
  have h2 := of_decide_eq_true h2
  apply decide_eq_true
  rcases h1 with h1 | ⟨h1, g1⟩
  · exact Or.inl (x_lt1 hc h1 (by rcases h2 with h2 | h2 <;> omega))
  · rcases h2 with h2 | ⟨h2, g2⟩
    · exact Or.inl (x_lt2 ha (by omega) h2)
    · have l := x_le (s1 := sN top N a) (s2 := sN top N b) (s3 := sN top N c) (w1 := dWt N a) (w2 := dWt N b) (w3 := dWt N c) hb (by omega) (by omega)
      have g := x_le (s1 := sN top N c) (s2 := sN top N b) (s3 := sN top N a) (w1 := dWt N c) (w2 := dWt N b) (w3 := dWt N a) hb (by omega) (by omega)
      exact Or.inr ⟨by omega, by omega⟩
theorem Lr_irr {top : Nat → Nat} {N a : Nat} : Lr top N a a = false := decide_eq_false (by omega)
theorem Lr_tot {top : Nat → Nat} {N a b : Nat} (h : a ≠ b) : Lr top N a b = true ∨ Lr top N b a = true := by
  rcases Nat.lt_trichotomy (sN top N a * dWt N b) (sN top N b * dWt N a) with c | c | c
  · exact Or.inl (decide_eq_true (Or.inl c))
  · rcases Nat.lt_or_gt_of_ne h with d | d
    · exact Or.inl (decide_eq_true (Or.inr ⟨c, d⟩))
    · exact Or.inr (decide_eq_true (Or.inr ⟨c.symm, d⟩))
  · exact Or.inr (decide_eq_true (Or.inl c))
theorem dStd_N {top : Nat → Nat} {N m q : Nat} (hm : 0 ≤ dSq top N m) (hq : 0 ≤ dSq top N q) : dStd top N m q ↔ sN top N m * dWt N q < sN top N q * dWt N m := by
  unfold dStd
  have e1 : dSq top N m = (sN top N m : Int) := by unfold sN; omega
  have e2 : dSq top N q = (sN top N q : Int) := by unfold sN; omega
  rw [e1, e2]
  constructor
  · intro h; exact_mod_cast h
  · intro h; exact_mod_cast h
theorem posR_s {top g : Nat → Nat} {N m : Nat} : ∀ n, (∀ k, posR top N g m n ≤ k → k < n → dStd top N m (g k)) ∧ (0 < posR top N g m n → ¬ dStd top N m (g (posR top N g m n - 1))) := by
  intro n
  induction n with
  | zero => exact ⟨fun k _ h => by omega, fun h => absurd h (by show ¬ 0 < 0; omega)⟩
  | succ n ih =>
    unfold posR
    by_cases z : dStd top N m (g n)
    · rw [if_pos z]
      refine ⟨fun k h1 h2 => ?_, ih.2⟩
      by_cases y : k = n
      · rw [y]; exact z
      · exact ih.1 k h1 (by omega)
    · rw [if_neg z]
      exact ⟨fun k h1 h2 => by omega, fun _ => z⟩
theorem rks_s {top : Nat → Nat} {N D : Nat} (hw : ∀ m, 1 ≤ m → m ≤ D → 0 < dWt N m ∧ 0 ≤ dSq top N m) : ∀ n, n ≤ D → ∀ i j, i < j → j < n → Lr top N (rks top N n i) (rks top N n j) = true := by
  intro n
  induction n with
  | zero => intro _ i j _ h; omega
  | succ n ih =>
    intro hn
    have ih := ih (by omega)
    have rb := rks_b (top := top) (N := N) n
    have hp := posR_le top N (rks top N n) (n + 1) n
    obtain ⟨s1, s2⟩ := posR_s (top := top) (g := rks top N n) (N := N) (m := n + 1) n
    have lo : ∀ k, k < posR top N (rks top N n) (n + 1) n → Lr top N (rks top N n k) (n + 1) = true := by
      intro k hk
      have q1 : Lr top N (rks top N n (posR top N (rks top N n) (n + 1) n - 1)) (n + 1) = true := by
        have z := s2 (by omega)
        have rb1 := rb (posR top N (rks top N n) (n + 1) n - 1) (by omega)
        rw [dStd_N (hw _ (by omega) hn).2 (hw _ rb1.1 (by omega)).2] at z
        apply decide_eq_true
        omega
      by_cases e : k = posR top N (rks top N n) (n + 1) n - 1
      · rw [e]; exact q1
      · have r1 := rb k (by omega)
        have r2 := rb (posR top N (rks top N n) (n + 1) n - 1) (by omega)
        exact Lr_tr (hw _ r1.1 (by omega)).1 (hw _ r2.1 (by omega)).1 (hw _ (by omega) hn).1 (ih k _ (by omega) (by omega)) q1
    have hi : ∀ k, posR top N (rks top N n) (n + 1) n ≤ k → k < n → Lr top N (n + 1) (rks top N n k) = true := by
      intro k h1 h2
      have z := s1 k h1 h2
      have r1 := rb k h2
      rw [dStd_N (hw _ (by omega) hn).2 (hw _ r1.1 (by omega)).2] at z
      exact decide_eq_true (Or.inl z)
    intro i j hij hj
    show Lr top N (insK (rks top N n) (n + 1) (posR top N (rks top N n) (n + 1) n) i) (insK (rks top N n) (n + 1) (posR top N (rks top N n) (n + 1) n) j) = true
    generalize posR top N (rks top N n) (n + 1) n = p at hp lo hi
    unfold insK
    by_cases a1 : i < p
    · rw [if_pos a1]
      by_cases b1 : j < p
      · rw [if_pos b1]; exact ih i j hij (by omega)
      · rw [if_neg b1]
        by_cases b2 : j = p
        · rw [if_pos b2]; exact lo i a1
        · rw [if_neg b2]; exact ih i (j - 1) (by omega) (by omega)
    · rw [if_neg a1]
      by_cases a2 : i = p
      · rw [if_pos a2, if_neg (by omega), if_neg (by omega)]
        exact hi (j - 1) (by omega) (by omega)
      · rw [if_neg a2, if_neg (by omega), if_neg (by omega)]
        exact ih (i - 1) (j - 1) (by omega) (by omega)
theorem zsum_c {f g : Nat → Nat} : ∀ n, (∀ q, q < n → f q = g q) → zsum f n = zsum g n := by
  intro n
  induction n with
  | zero => intro _; rfl
  | succ n ih =>
    intro h
    show zsum f n + f n = zsum g n + g n
    rw [ih (fun q hq => h q (by omega)), h n (by omega)]
theorem insK_sum {f g : Nat → Nat} {x : Nat} : ∀ n p, p ≤ n → zsum (fun j => f (insK g x p j)) (n + 1) = zsum (fun j => f (g j)) n + f x := by
  intro n
  induction n with
  | zero =>
    intro p hp
    have : p = 0 := by omega
    subst this
    rfl
  | succ n ih =>
    intro p hp
    show zsum (fun j => f (insK g x p j)) (n + 1) + f (insK g x p (n + 1)) = zsum (fun j => f (g j)) n + f (g n) + f x
    by_cases c : p = n + 1
    · have e : zsum (fun j => f (insK g x p j)) (n + 1) = zsum (fun j => f (g j)) (n + 1) := zsum_c (n + 1) (fun q hq => by
        show f (insK g x p q) = f (g q)
        unfold insK
        rw [if_pos (by omega)])
      rw [e]
      have e2 : insK g x p (n + 1) = x := by
        unfold insK
        rw [if_neg (by omega), if_pos (by omega)]
      rw [e2]
      rfl
    · rw [ih p (by omega)]
      have e2 : insK g x p (n + 1) = g n := by
        unfold insK
        rw [if_neg (by omega), if_neg (by omega), Nat.add_sub_cancel]
      rw [e2]
      omega
theorem rks_sum {top f : Nat → Nat} {N : Nat} : ∀ n, zsum (fun j => f (rks top N n j)) n = zsum (fun j => f (j + 1)) n := by
  intro n
  induction n with
  | zero => rfl
  | succ n ih =>
    have e := insK_sum (f := f) (g := rks top N n) (x := n + 1) n (posR top N (rks top N n) (n + 1) n) (posR_le _ _ _ _ _)
    show zsum (fun j => f (insK (rks top N n) (n + 1) (posR top N (rks top N n) (n + 1) n) j)) (n + 1) = zsum (fun j => f (j + 1)) n + f (n + 1)
    rw [e, ih]
theorem zsum_i {k : Nat} : ∀ n, k ≤ n → zsum (fun j => if j < k then 1 else 0) n = k := by
  have a : ∀ n, n ≤ k → zsum (fun j => if j < k then 1 else 0) n = n := by
    intro n
    induction n with
    | zero => intro _; rfl
    | succ n ih =>
      intro h
      show zsum (fun j => if j < k then 1 else 0) n + (if n < k then 1 else 0) = n + 1
      rw [ih (by omega), if_pos (by omega)]
  intro n
  induction n with
  | zero => intro h; rw [show k = 0 by omega]; rfl
  | succ n ih =>
    intro h
    by_cases c : k = n + 1
    · rw [← c]; exact a k (Nat.le_refl k)
    · show zsum (fun j => if j < k then 1 else 0) n + (if n < k then 1 else 0) = k
      rw [ih (by omega), if_neg (by omega)]
      exact Nat.add_zero k
def rR (top : Nat → Nat) (N D m : Nat) : Nat := rk (fun q a => Lr top N (q + 1) (a + 1)) D (m - 1)
theorem rR_rks {top : Nat → Nat} {N D k : Nat} (hw : ∀ m, 1 ≤ m → m ≤ D → 0 < dWt N m ∧ 0 ≤ dSq top N m) (hk : k < D) : rR top N D (rks top N D k) = k := by
  have r := rks_b (top := top) (N := N) D k hk
  have e := rks_sum (top := top) (N := N) (f := fun q => if Lr top N q (rks top N D k) then 1 else 0) D
  have e1 : rR top N D (rks top N D k) = zsum (fun j => if Lr top N (j + 1) (rks top N D k) then 1 else 0) D := by
    show zsum (fun q => if Lr top N (q + 1) (rks top N D k - 1 + 1) = true then 1 else 0) D = _
    rw [Nat.sub_add_cancel r.1]
  rw [e1]
  have e2 : zsum (fun j => if Lr top N (rks top N D j) (rks top N D k) = true then 1 else 0) D = zsum (fun j => if Lr top N (j + 1) (rks top N D k) = true then 1 else 0) D := e
  rw [← e2]
  have hk' : zsum (fun j => if j < k then 1 else 0) D = k := zsum_i D (by omega)
  refine zsum_c D (fun q hq => ?_) |>.trans hk'
  show (if Lr top N (rks top N D q) (rks top N D k) = true then 1 else 0) = if q < k then 1 else 0
  by_cases c : q < k
  · rw [if_pos c, if_pos (rks_s hw D (Nat.le_refl D) q k c hk)]
  · rw [if_neg c]
    by_cases d : q = k
    · rw [d, Lr_irr]; rfl
    · have s := rks_s hw D (Nat.le_refl D) k q (by omega) hq
      have n : ¬ Lr top N (rks top N D q) (rks top N D k) = true := by
        intro z
        have rq := rks_b (top := top) (N := N) D q hq
        have t := Lr_tr (hw _ r.1 r.2).1 (hw _ rq.1 rq.2).1 (hw _ r.1 r.2).1 s z
        rw [Lr_irr] at t
        exact absurd t (by decide)
      rw [if_neg n]
theorem rR_inj {top : Nat → Nat} {N D a b : Nat} (hw : ∀ m, 1 ≤ m → m ≤ D → 0 < dWt N m ∧ 0 ≤ dSq top N m) (ha : 1 ≤ a ∧ a ≤ D) (hb : 1 ≤ b ∧ b ≤ D) (h : rR top N D a = rR top N D b) : a = b := by
  apply Classical.byContradiction
  intro z
  have lt : ∀ a b, 1 ≤ a ∧ a ≤ D → 1 ≤ b ∧ b ≤ D → Lr top N a b = true → rR top N D a < rR top N D b := by
    intro a b ha hb l
    unfold rR
    refine rk_lt (a := a - 1) (b := b - 1) Lr_irr (fun q hq h1 h2 => ?_) (by omega) ?_
    · exact Lr_tr (hw _ (by omega) (by omega)).1 (hw _ (by omega) (by omega)).1 (hw _ (by omega) (by omega)).1 h1 h2
    · show Lr top N (a - 1 + 1) (b - 1 + 1) = true
      rw [Nat.sub_add_cancel ha.1, Nat.sub_add_cancel hb.1]
      exact l
  rcases Lr_tot (top := top) (N := N) z with l | l
  · have := lt a b ha hb l; omega
  · have := lt b a hb ha l; omega
theorem rR_lt {top : Nat → Nat} {N D m : Nat} (hm : 1 ≤ m ∧ m ≤ D) : rR top N D m < D := by
  unfold rR rk
  have e : zsum (fun j => if j < D then 1 else 0) D = D := zsum_i D (Nat.le_refl D)
  refine Nat.lt_of_lt_of_le (zsum_lt2 (a := m - 1) D (g := fun j => if j < D then 1 else 0) (fun q hq => ?_) (by omega) ?_) (Nat.le_of_eq e)
  · show _ ≤ if q < D then 1 else 0
    rw [if_pos hq]
    split <;> omega
  · show (if Lr top N (m - 1 + 1) (m - 1 + 1) = true then 1 else 0) < if m - 1 < D then 1 else 0
    have z : Lr top N (m - 1 + 1) (m - 1 + 1) = false := Lr_irr
    rw [z, if_pos (show m - 1 < D by omega)]
    decide
theorem lessM {τ : zS} {N q m : Nat} {top : Nat → Nat} (hN : N ≤ 32) (h0 : zi τ 0 = nI N) (ht : ∀ i, i < N → zj τ 0 i = lN (top i)) (hb : ∀ i, i < N → top i ≤ 2400000) (hmo : ∀ i j, i ≤ j → j < N → top i ≤ top j) (hq : 1 ≤ q ∧ q ≤ 15 ∧ 2 * q < N) (hm : 1 ≤ m ∧ m ≤ 15 ∧ 2 * m < N) : fX7_isLess (nI q) (nI m) τ = some (nI (if Lr top N q m then 1 else 0)) := by
  obtain ⟨a1, a2⟩ := dSq_b2 (m := q) hN hb hmo (by omega) hq.1
  obtain ⟨b1, b2⟩ := dSq_b2 (m := m) hN hb hmo (by omega) hm.1
  have wq := dWt_b hN hq.2.1 hq.1 hq.2.2
  have wm := dWt_b hN hm.2.1 hm.1 hm.2.2
  have e1 : Int64.ofInt (dSq top N q) = lN (sN top N q) := by
    rw [lN_I]; congr 1; unfold sN; omega
  have e2 : Int64.ofInt (dSq top N m) = lN (sN top N m) := by
    rw [lN_I]; congr 1; unfold sN; omega
  have s1 : sN top N q ≤ 172800000000000 := by unfold sN; omega
  have s2 : sN top N m ≤ 172800000000000 := by unfold sN; omega
  have p1 : sN top N q * dWt N m ≤ 172800000000000 * 6750 := Nat.mul_le_mul s1 wm.2
  have p2 : sN top N m * dWt N q ≤ 172800000000000 * 6750 := Nat.mul_le_mul s2 wq.2
  have f1 : sN top N q * (2 * dWt N m) = 2 * (sN top N q * dWt N m) := Nat.mul_left_comm _ _ _
  have f2 : sN top N m * (2 * dWt N q) = 2 * (sN top N m * dWt N q) := Nat.mul_left_comm _ _ _
  unfold fX7_isLess
  simp only [zv, zy1, zy2, zy3, M_squares hN h0 ht hq.2.2, M_squares hN h0 ht hm.2.2, M_weight hN h0 hq.2.2, M_weight hN h0 hm.2.2, e1, e2, lN_mul, f1, f2]
  by_cases c : sN top N q * dWt N m < sN top N m * dWt N q
  · rw [if_pos ((lN_ltI (by omega) (by omega)).mpr (by omega)), if_pos (show Lr top N q m = true from decide_eq_true (Or.inl c))]
    rfl
  · rw [if_neg (fun z => absurd ((lN_ltI (by omega) (by omega)).mp z) (by omega))]
    by_cases d : sN top N q * dWt N m = sN top N m * dWt N q
    · rw [if_pos (by rw [d])]
      by_cases g : q < m
      · rw [if_neg (nI_ge g (by omega)), if_pos (show Lr top N q m = true from decide_eq_true (Or.inr ⟨d, g⟩))]
        rfl
      · rw [if_pos (nI_le (by omega) (by omega)), if_neg (show ¬ Lr top N q m = true from fun z => by have := of_decide_eq_true z; omega)]
        rfl
    · rw [if_neg (fun z => absurd ((lN_eqI (by omega) (by omega)).mp z) (by omega)), if_neg (show ¬ Lr top N q m = true from fun z => by have := of_decide_eq_true z; omega)]
      rfl
theorem rankBoth {N : Nat} {T : Nat → Nat} {B : Nat} {S H : Nat → Nat} {G : Nat} {ga gb : Nat → Nat} {P V md : Nat} {σ τ : zS} (v : Int32) (h : FD N T B S H G ga gb P V md σ τ) : ∃ r σ' τ', fX6_rank v σ = some (r, σ') ∧ fX7_rankOf v τ = some (r, τ') ∧ FD N T B S H G ga gb P V md σ' τ' := by
  obtain ⟨hd, hc, hm⟩ := FD_B h
  have hN := hd.1
  obtain ⟨b1, b2, b3, b4, b5⟩ := qB md hd
  obtain ⟨σ', p1, h', x0, x1, x2, x3, x4, x5, x6, x7, x8, x9, x10, x11⟩ := X_due h
  obtain ⟨τ', p2, h'', y1, y2, y3, y4⟩ := M_due h'
  have m1 := (FD_B h'').2.2.1
  have hD : dSp N ≤ 15 ∧ ∀ m, 1 ≤ m → m ≤ dSp N → 2 * m < N := by
    unfold dSp
    split
    · exact ⟨by omega, fun m _ _ => by omega⟩
    · exact ⟨by omega, fun m _ _ => by omega⟩
  have hrk := M_ranked hN m1
  generalize dSp N = D at hD hrk x9 x10 x11
  generalize htop : qTop T B S H md = top at y2 b4 b5 x11
  have hw : ∀ m, 1 ≤ m → m ≤ D → 0 < dWt N m ∧ 0 ≤ dSq top N m := by
    intro m a1 a2
    have z := hD.2 m a1 a2
    exact ⟨(dWt_b hN (by omega) a1 z).1, (dSq_b2 hN b4 b5 (by omega) a1).1⟩
  have cM : ∀ w u m, 1 ≤ m → m ≤ D → fX7_rankOf_23 w u (nI m) τ' 500 0 1 = some (nI (rR top N D m)) := by
    intro w u m hm1 hm2
    have loop : ∀ n j, j ≤ D → D < j + n → fX7_rankOf_23 w u (nI m) τ' n (nI (rk (fun q a => Lr top N (q + 1) (a + 1)) j (m - 1))) (nI (j + 1)) = some (nI (rR top N D m)) := by
      intro n
      induction n with
      | zero => intro j h1 h2; omega
      | succ n ih =>
        intro j h1 h2
        rw [fX7_rankOf_23, hrk]
        simp only [zv, zy1, zy2, zy3]
        by_cases q : D ≤ j
        · rw [if_pos (nI_lt (by omega) (by omega)), show j = D by omega]
          rfl
        · rw [if_neg (nI_nlt (by omega) (by omega)), lessM hN m1 y2 b4 b5 ⟨by omega, by omega, hD.2 (j + 1) (by omega) (by omega)⟩ ⟨hm1, by omega, hD.2 m hm1 hm2⟩]
          have e : (if nI (j + 1) = nI m then (some 0 : Option Int32) else (if nI (if Lr top N (j + 1) m then 1 else 0) = 0 then some 0 else some 1)) = some (nI (if Lr top N (j + 1) m then 1 else 0)) := by
            by_cases z : j + 1 = m
            · rw [z, if_pos rfl, Lr_irr]; rfl
            · rw [if_neg (fun w => z ((nI_eq (by omega) (by omega)).mp w))]
              cases Lr top N (j + 1) m with
              | true => decide
              | false => decide
          simp only [e, nI_add, nI_1]
          have s : rk (fun q a => Lr top N (q + 1) (a + 1)) j (m - 1) + (if Lr top N (j + 1) m = true then 1 else 0) = rk (fun q a => Lr top N (q + 1) (a + 1)) (j + 1) (m - 1) := by
            have key : ∀ i, rk (fun q a => Lr top N (q + 1) (a + 1)) i (m - 1) = zsum (fun q => if Lr top N (q + 1) m = true then 1 else 0) i := by
              intro i
              show zsum (fun q => if Lr top N (q + 1) (m - 1 + 1) = true then 1 else 0) i = _
              rw [Nat.sub_add_cancel hm1]
            rw [key, key]
            rfl
          rw [s]
          exact ih (j + 1) (by omega) (by omega)
    have e := loop 500 0 (by omega) (by omega)
    exact e
  have hin : ∀ a b, 1 ≤ a ∧ a ≤ D → 1 ≤ b ∧ b ≤ D → nI (rR top N D a) = nI (rR top N D b) → a = b := by
    intro a b ha hb hz
    have l1 := rR_lt (top := top) (N := N) ha
    have l2 := rR_lt (top := top) (N := N) hb
    exact rR_inj hw ha hb ((nI_eq (by omega) (by omega)).mp hz)
  unfold fX6_rank fX7_rankOf
  rw [p1, p2]
  simp only [zv, zy1, zy2, zy3, X_within, x9]
  rcases zw_N (v := v) D (by omega) with e | ⟨k, hk, rfl, e⟩
  · have no : ∀ m, 1 ≤ m → m ≤ D → ¬ nI (rR top N D m) = v := by
      intro m a1 a2 z
      have l1 := rR_lt (top := top) (N := N) (D := D) ⟨a1, a2⟩
      rw [← z, zw_e (by omega) l1] at e
      exact absurd e (by decide)
    have lM : ∀ n j, 1 ≤ j → j ≤ D + 1 → D + 1 < j + n → fX7_rankOf_9 v τ' n (-2) (nI j) = some (-2) := by
      intro n
      induction n with
      | zero => intro j h0 h1 h2; omega
      | succ n ih =>
        intro j h0 h1 h2
        rw [fX7_rankOf_9, hrk]
        simp only [zv, zy1, zy2, zy3]
        by_cases q : D < j
        · rw [if_pos (nI_lt q (by omega))]
        · rw [if_neg (nI_nlt (by omega) (by omega)), cM _ _ j h0 (by omega)]
          simp only [if_neg (no j h0 (by omega)), nI_1]
          exact ih (j + 1) (by omega) (by omega) (by omega)
    have e2 := lM 500 1 (by omega) (by omega) (by omega)
    have n1 : nI 1 = 1 := by decide
    rw [n1] at e2
    refine ⟨-2, σ', τ', ?_, ?_, h''⟩
    · simp only [e, if_true]
    · simp only [e2]
  · have r := rks_b (top := top) (N := N) D k hk
    have hv0 := rR_rks hw hk
    have xk := x11 k hk
    generalize rks top N D k = m0 at r hv0 xk
    have lM : ∀ n j a, 1 ≤ j → j ≤ D + 1 → D + 1 < j + n → (m0 < j → a = nI m0) → fX7_rankOf_9 (nI k) τ' n a (nI j) = some (nI m0) := by
      intro n
      induction n with
      | zero => intro j a h0 h1 h2; omega
      | succ n ih =>
        intro j a h0 h1 h2 ha
        rw [fX7_rankOf_9, hrk]
        simp only [zv, zy1, zy2, zy3]
        by_cases q : D < j
        · rw [if_pos (nI_lt q (by omega)), ha (by omega)]
        · rw [if_neg (nI_nlt (by omega) (by omega)), cM _ _ j h0 (by omega)]
          by_cases z : j = m0
          · rw [z, hv0]
            simp only [if_true, nI_1]
            exact ih (m0 + 1) _ (by omega) (by omega) (by omega) (fun _ => rfl)
          · have ne : ¬ nI (rR top N D j) = nI k := by
              intro w
              rw [← hv0] at w
              exact z (hin j m0 ⟨h0, by omega⟩ r w)
            simp only [if_neg ne, nI_1]
            exact ih (j + 1) a (by omega) (by omega) (by omega) (fun y => ha (by omega))
    have e2 := lM 500 1 (-2) (by omega) (by omega) (by omega) (fun y => by omega)
    have n1 : nI 1 = 1 := by decide
    rw [n1] at e2
    refine ⟨nI m0, σ', τ', ?_, ?_, h''⟩
    · simp only [e, if_neg one_ne, zgq (show k < 15 by omega), nI_clamp (show k < 2 ^ 31 by omega), xk]
    · simp only [e2]
theorem ok_rank_ : ok_rank Rel := by
  intro σ τ v h
  obtain ⟨N, T, B, S, H, G, ga, gb, P, V, md, hf⟩ := Rel_FD h
  obtain ⟨r, σ', τ', g1, g2, g3⟩ := rankBoth v hf
  refine ⟨r, σ', τ', g1, ?_, FD_Rel g3⟩
  unfold fX7_rank
  rw [g2]
  rfl

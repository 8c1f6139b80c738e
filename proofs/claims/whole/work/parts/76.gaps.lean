theorem pos_le (g : Nat → Nat) (x : Nat) : ∀ n, pos g x n ≤ n := by
  intro n
  induction n with
  | zero => exact Nat.le_refl _
  | succ n ih => unfold pos; split <;> omega
theorem srt_b {gap : Nat → Nat} {M : Nat} : ∀ n, (∀ i, i < n → gap i < M) → ∀ k, k < n → srt gap n k < M := by
  intro n
  induction n with
  | zero => intro h k hk; omega
  | succ n ih =>
    intro h k hk
    have i1 := ih (fun i hi => h i (by omega))
    show insK (srt gap n) (gap n) (pos (srt gap n) (gap n) n) k < M
    have hp := pos_le (srt gap n) (gap n) n
    unfold insK
    split
    · exact i1 k (by omega)
    · split
      · exact h n (by omega)
      · exact i1 (k - 1) (by omega)
theorem lN_s1 {q : Nat} (h : 1 ≤ q) : lN q - 1 = lN (q - 1) := lN_sub (a := q) (b := 1) h
theorem insL {g : Nat → Nat} {x : Nat} {a b : Int32} (hx : x < 2 ^ 31) : ∀ n m ρ, n ≤ 31 → n < m → (∀ k, k < n → zj ρ 1 k = lN (g k) ∧ g k < 2 ^ 31) → ∃ ρ', fX2_medianGap_30 a b (lN x) m (nI n) ρ = some (nI (pos g x n), ρ') ∧ Fr [] [] [] [1] ρ ρ' ∧ (∀ k, k < pos g x n ∨ n < k → zj ρ' 1 k = zj ρ 1 k) ∧ (∀ k, pos g x n < k → k ≤ n → zj ρ' 1 k = lN (g (k - 1))) := by
  intro n
  induction n with
  | zero =>
    intro m ρ h1 h2 h3
    obtain ⟨m, rfl⟩ : ∃ m', m = m' + 1 := ⟨m - 1, by omega⟩
    refine ⟨ρ, ?_, Fr_r ρ, fun _ _ => rfl, fun k q1 q2 => by omega⟩
    rw [fX2_medianGap_30, nI_0, if_pos (by decide)]
    rfl
  | succ n ih =>
    intro m ρ h1 h2 h3
    obtain ⟨m, rfl⟩ : ∃ m', m = m' + 1 := ⟨m - 1, by omega⟩
    rw [fX2_medianGap_30]
    have n0 : ¬ nI (n + 1) ≤ 0 := nI_nle (by omega) (by omega)
    have e1 : nI (n + 1) - 1 = nI n := nI_pred n
    have e2 : nI (n + 1) + (-1) = nI n := nI_dec (a := n + 1) (by omega)
    have c1 : (nI n).toNatClampNeg = n := nI_clamp (by omega)
    have c2 : (nI (n + 1)).toNatClampNeg = n + 1 := nI_clamp (by omega)
    obtain ⟨g1, g2⟩ := h3 n (by omega)
    rw [if_neg n0, e1, zgq (show n < 32 by omega), c1, g1]
    unfold pos
    by_cases q : g n ≤ x
    · rw [if_pos ((lN_le g2 hx).mpr q), if_pos q]
      exact ⟨ρ, rfl, Fr_r ρ, fun _ _ => rfl, fun k q1 q2 => by omega⟩
    · have nq : ¬ lN (g n) ≤ lN x := fun z => q ((lN_le g2 hx).mp z)
      simp only [if_neg nq, if_neg q, zgq (show n < 32 by omega), zgq (show n + 1 < 32 by omega), zv, c1, c2, g1, e2]
      have w : ∀ k, k ≠ n + 1 → zj (wj ρ 1 (n + 1) (lN (g n))) 1 k = zj ρ 1 k := fun k hk => updL_n hk
      obtain ⟨ρ', r1, r2, r3, r4⟩ := ih m (wj ρ 1 (n + 1) (lN (g n))) (by omega) (by omega) (fun k hk => by rw [w k (by omega)]; exact h3 k (by omega))
      have hp := pos_le g x n
      refine ⟨ρ', r1, Fr_t (Fr_wj (Fr_r ρ) (by decide)) r2, fun k hk => ?_, fun k q1 q2 => ?_⟩
      · rw [r3 k (by omega), w k (by omega)]
      · by_cases z : k = n + 1
        · subst z
          rw [r3 (n + 1) (by omega)]
          exact updL_s _ _ _
        · exact r4 k q1 (by omega)
/-- one gap goes to its place -/
theorem insK1 {g : Nat → Nat} {x : Nat} {a b : Int32} (hx : x < 2 ^ 31) {n : Nat} {ρ : zS} (h1 : n ≤ 31) (h3 : ∀ k, k < n → zj ρ 1 k = lN (g k) ∧ g k < 2 ^ 31) : ∃ ρ', fX2_medianGap_30 a b (lN x) 500 (nI n) ρ = some (nI (pos g x n), ρ') ∧ Fr [] [] [] [1] ρ ρ' ∧ ∀ k, k < n + 1 → zj (wj ρ' 1 (pos g x n) (lN x)) 1 k = lN (insK g x (pos g x n) k) := by
  obtain ⟨ρ', r1, r2, r3, r4⟩ := insL (a := a) (b := b) hx n 500 ρ h1 (by omega) h3
  refine ⟨ρ', r1, r2, fun k hk => ?_⟩
  have hp := pos_le g x n
  show vp_updL (zj ρ' 1) (pos g x n) (lN x) k = _
  unfold insK
  by_cases q : k = pos g x n
  · rw [if_neg (by omega), if_pos q, q, updL_s]
  · rw [updL_n q]
    by_cases q2 : k < pos g x n
    · rw [if_pos q2, r3 k (Or.inl q2), (h3 k (by omega)).1]
    · rw [if_neg q2, if_neg q, r4 k (by omega) (by omega)]
theorem X_gap {ρ : zS} {N i : Nat} {top : Nat → Nat} (hN : N ≤ 32) (ht : ∀ i, i < N → zj ρ 0 i = lN (top i)) (hm : ∀ i, i + 1 < N → top i ≤ top (i + 1)) (hi : i + 1 < N) : fX2_gapBehind (nI i) ρ = some (lN (dGap top i)) := by
  unfold fX2_gapBehind
  rw [nI_1, zgq (show i + 1 < 32 by omega), zgq (show i < 32 by omega), nI_clamp (by omega), nI_clamp (by omega), ht i (by omega), ht (i + 1) hi, lN_sub (hm i hi)]
  rfl
theorem X_median {σ : zS} {N : Nat} {top : Nat → Nat} (hN : N ≤ 32) (h9 : zi σ 9 = nI N) (ht : ∀ i, i < N → zj σ 0 i = lN (top i)) (hb : ∀ i, i < N → top i ≤ 2400000) (hm : ∀ i, i + 1 < N → top i ≤ top (i + 1)) : ∃ σ', fX2_medianGap σ = some (lN (if N < 2 then 0 else srt (dGap top) (N - 1) ((N - 2) / 2)), σ') ∧ Fr [] [] [] [1] σ σ' := by
  unfold fX2_medianGap
  rw [h9]
  by_cases c : N < 2
  · rw [if_pos c]
    have n1 : ¬ 1 ≤ nI N - 1 := by
      rcases (show N = 0 ∨ N = 1 by omega) with e | e <;> rw [e] <;> decide
    refine ⟨σ, ?_, Fr_r σ⟩
    simp only [zv, if_neg n1]
    rfl
  · rw [if_neg c]
    have e1 : nI N - 1 = nI (N - 1) := nI_sub (a := N) (b := 1) (by omega)
    have c1 : 1 ≤ nI (N - 1) := nI_le (a := 1) (by omega) (by omega)
    have hg : ∀ i, i < N - 1 → dGap top i < 2 ^ 31 := by
      intro i hi
      unfold dGap
      have := hb (i + 1) (by omega)
      omega
    have loop : ∀ n j ρ, j ≤ N - 1 → N - 1 < j + n → Fr [] [] [] [1] σ ρ → (∀ k, k < j → zj ρ 1 k = lN (srt (dGap top) j k)) → ∃ σ', fX2_medianGap_16 (nI (N - 1)) n (nI j) ρ = some σ' ∧ Fr [] [] [] [1] σ σ' ∧ ∀ k, k < N - 1 → zj σ' 1 k = lN (srt (dGap top) (N - 1) k) := by
      intro n
      induction n with
      | zero => intro j ρ h1 h2; omega
      | succ n ih =>
        intro j ρ h1 h2 fr hs
        rw [fX2_medianGap_16]
        by_cases q : N - 1 ≤ j
        · rw [if_pos (nI_le q (by omega))]
          exact ⟨ρ, rfl, fr, by rw [← show j = N - 1 by omega]; exact hs⟩
        · have hj := hg j (by omega)
          obtain ⟨ρ', r1, r2, r3⟩ := insK1 (g := srt (dGap top) j) (x := dGap top j) (a := nI (N - 1)) (b := nI j) hj (n := j) (ρ := ρ) (by omega) (fun k hk => ⟨hs k hk, srt_b j (fun i hi => hg i (by omega)) k hk⟩)
          have hp := pos_le (srt (dGap top) j) (dGap top j) j
          simp only [zv, zy1, zy2, zy3, if_neg (nI_ge (show j < N - 1 by omega) (show N - 1 < 2 ^ 31 by omega)), X_gap (ρ := ρ) hN (fun i hi => by rw [fr.2.2.2.1 0 (by decide)]; exact ht i hi) hm (show j + 1 < N by omega), r1, zgq (show pos (srt (dGap top) j) (dGap top j) j < 32 by omega), nI_clamp (show pos (srt (dGap top) j) (dGap top j) j < 2 ^ 31 by omega), nI_1]
          exact ih (j + 1) _ (by omega) (by omega) (Fr_wj (Fr_t fr r2) (by decide)) r3
    obtain ⟨σ', g1, g2, g3⟩ := loop 500 0 σ (by omega) (by omega) (Fr_r σ) (fun k hk => by omega)
    rw [nI_0] at g1
    refine ⟨σ', ?_, g2⟩
    have e2 : (nI (N - 1) - 1) / 2 = nI ((N - 2) / 2) := by
      have e3 : nI (N - 1) - 1 = nI (N - 1 - 1) := nI_sub (a := N - 1) (b := 1) (by omega)
      rw [e3, show N - 1 - 1 = N - 2 by omega]
      exact nI_div (b := 2) (by omega) (by decide) (by decide)
    simp only [zv, zy1, zy2, zy3, e1, if_pos c1, g1, e2, zgq (show (N - 2) / 2 < 32 by omega), nI_clamp (show (N - 2) / 2 < 2 ^ 31 by omega), g3 ((N - 2) / 2) (by omega)]
/-- the number of periods that were missed -/
theorem missX {q : Nat} (hq : q < 2 ^ 31) : (if lN q - 1 ≤ 9 then (some 0 : Option Int32) else some 1) = some (nI (if 9 < q - 1 then 1 else 0)) ∧ (if (if lN q - 1 < 9 then lN q - 1 else 9) < 0 then 0 else (if lN q - 1 < 9 then lN q - 1 else 9) : Int64).toInt32 = nI (if q - 1 < 9 then q - 1 else 9) ∧ (if (0 : Int64) ≤ lN q - 1 then (if lN q - 1 ≤ 9 then some ((lN q - 1).toInt32) else some 9) else some 0) = some (nI (if q - 1 < 9 then q - 1 else 9)) := by
  by_cases z : q = 0
  · subst z
    decide
  · rw [lN_s1 (by omega)]
    have p0 : ¬ lN (q - 1) < 0 := fun w => absurd ((lN_ltI (b := 0) (by omega) (by decide)).mp w) (by omega)
    have p1 : (0 : Int64) ≤ lN (q - 1) := (lN_leI (a := 0) (by decide) (by omega)).mpr (by omega)
    by_cases c : q - 1 < 9
    · have l1 : lN (q - 1) < 9 := (lN_ltI (b := 9) (by omega) (by decide)).mpr c
      have l2 : lN (q - 1) ≤ 9 := (lN_leI (b := 9) (by omega) (by decide)).mpr (by omega)
      rw [if_pos l1, if_pos l2, if_pos l2, if_pos c, if_neg p0, if_pos p1, if_neg (by omega), lN_i]
      exact ⟨rfl, rfl, rfl⟩
    · have l1 : ¬ lN (q - 1) < 9 := fun w => c ((lN_ltI (b := 9) (by omega) (by decide)).mp w)
      have n9 : ¬ (9 : Int64) < 0 := by decide
      rw [if_neg l1, if_neg c, if_neg n9, if_pos p1]
      by_cases c2 : q - 1 = 9
      · have l2 : lN (q - 1) ≤ 9 := by rw [c2]; decide
        rw [if_pos l2, if_neg (by omega), if_pos l2, c2]
        decide
      · have l2 : ¬ lN (q - 1) ≤ 9 := fun w => absurd ((lN_leI (b := 9) (by omega) (by decide)).mp w) (by omega)
        rw [if_neg l2, if_pos (by omega), if_neg l2]
        decide
theorem ref_lt {P sc N : Nat} {top : Nat → Nat} (hP : P ≤ 600) (hs : sc ≤ 400) (hb : ∀ i, i < N → top i ≤ 2400000) : dRef P sc N top < 2400001 := by
  unfold dRef
  split
  · have := Nat.mul_le_mul hP hs
    omega
  · split
    · omega
    · refine srt_b (N - 1) (fun i hi => ?_) _ (by omega)
      unfold dGap
      have := hb (i + 1) (by omega)
      omega
def jdg (ρ : zS) (i l b : Nat) : zS := wi (wi (wa (wa ρ 9 i (nI b)) 8 i (nI l)) 11 (zi ρ 11 + nI l)) 12 (zi ρ 12 + nI b)
theorem narB {b : Nat} (h : b ≤ 1) : vp_nar .boolean (nI b) = nI b := by
  rcases (show b = 0 ∨ b = 1 by omega) with e | e <;> rw [e] <;> decide
theorem brk_le (ref gap : Nat) : dBrk ref gap ≤ 1 := by
  unfold dBrk
  split <;> omega
theorem lost_le (ref gap : Nat) : dLost ref gap ≤ 9 := by
  unfold dLost
  split <;> omega
theorem X_judge {ρ : zS} {N i ref : Nat} {top : Nat → Nat} (hN : N ≤ 32) (ht : ∀ i, i < N → zj ρ 0 i = lN (top i)) (hb : ∀ i, i < N → top i ≤ 2400000) (hm : ∀ i, i + 1 < N → top i ≤ top (i + 1)) (hi : i + 1 < N) (h0 : zl ρ 0 = lN ref) (hr : ref < 2400001) : fX2_judgeGap (nI i) ρ = some (jdg ρ i (dLost ref (dGap top i)) (dBrk ref (dGap top i))) := by
  have hg : dGap top i ≤ 2400000 := by
    unfold dGap
    have := hb (i + 1) hi
    omega
  have hcl : (nI i).toNatClampNeg = i := nI_clamp (by omega)
  have fin : ∀ x4 : Int64, (if x4 ≤ 9 then (some 0 : Option Int32) else some 1) = some (nI (dBrk ref (dGap top i))) → (if (if x4 < 9 then x4 else 9) < 0 then 0 else (if x4 < 9 then x4 else 9) : Int64).toInt32 = nI (dLost ref (dGap top i)) → (zy1 (if x4 ≤ (9 : Int64) then (some 0) else (some 1)) (fun (x4' : Int32) => zg (zq (nI i) 32) (zv (wa ρ 9 (nI i).toNatClampNeg (vp_nar .boolean x4')) (fun (s5 : zS) => zg (zq (nI i) 32) (zv (wa s5 8 (nI i).toNatClampNeg ((if (if x4 < (9 : Int64) then x4 else (9 : Int64)) < (0 : Int64) then (0 : Int64) else (if x4 < (9 : Int64) then x4 else (9 : Int64))).toInt32)) (fun (s6 : zS) => zg (zq (nI i) 32) (zv (wi s6 11 ((zi s6 11) + (za s6 8 (nI i).toNatClampNeg))) (fun (s7 : zS) => zg (zq (nI i) 32) (if (za s7 9 (nI i).toNatClampNeg) = 0 then (zv (wi s7 12 ((zi s7 12) + 0)) (fun (s8 : zS) => some s8)) else (zv (wi s7 12 ((zi s7 12) + 1)) (fun (s9 : zS) => some s9)))))))))) = some (jdg ρ i (dLost ref (dGap top i)) (dBrk ref (dGap top i)))) := by
    intro x4 f1 f2
    have hbk := brk_le ref (dGap top i)
    rw [f1, f2]
    simp only [zv, zy1, zy2, zy3, zgq (show i < 32 by omega), hcl, narB hbk, zi_wi, zi_wl, zi_wa, zi_wj, zi_wd, zl_wi, zl_wl, zl_wa, zl_wj, zl_wd, za_wi, za_wl, za_wa, za_wj, za_wd, zj_wi, zj_wl, zj_wa, zj_wj, zj_wd, zd_wi, zd_wl, zd_wa, zd_wj, zd_wd, Nat.reduceEqDiff, reduceIte, Nat.reduceAdd, upd_s]
    rcases (show dBrk ref (dGap top i) = 0 ∨ dBrk ref (dGap top i) = 1 by omega) with e | e
    · rw [e, if_pos nI_0]
      rfl
    · have n1 : ¬ nI 1 = 0 := by decide
      rw [e, if_neg n1]
      rfl
  unfold fX2_judgeGap
  rw [h0]
  by_cases c : 0 < ref
  · have n0 : ¬ lN ref ≤ 0 := fun w => absurd ((lN_leI (b := 0) (by omega) (by decide)).mp w) (by omega)
    have e2 : (2 : Int64) * lN ref = lN (2 * ref) := lN_mul 2 ref
    have e3 : (2 : Int64) * lN (dGap top i) = lN (2 * dGap top i) := lN_mul 2 _
    have n2 : decide (¬ lN (2 * ref) = 0) = true := decide_eq_true (fun w => absurd ((lN_eqI (b := 0) (by omega) (by decide)).mp w) (by omega))
    have hq : (2 * dGap top i + ref) / (2 * ref) < 2 ^ 31 := Nat.lt_of_le_of_lt (Nat.div_le_self _ _) (by omega)
    obtain ⟨m1, m2, m3⟩ := missX hq
    have u1 : dBrk ref (dGap top i) = if 9 < (2 * dGap top i + ref) / (2 * ref) - 1 then 1 else 0 := by
      unfold dBrk dMis; rw [if_pos c]
    have u2 : dLost ref (dGap top i) = if (2 * dGap top i + ref) / (2 * ref) - 1 < 9 then (2 * dGap top i + ref) / (2 * ref) - 1 else 9 := by
      unfold dLost dMis; rw [if_pos c]
    have f := fin (lN ((2 * dGap top i + ref) / (2 * ref)) - 1) (by rw [u1]; exact m1) (by rw [u2]; exact m2)
    simp only [if_neg n0, X_gap hN ht hm hi, zy1, e2, e3, lN_add, zg_t n2, zv, lN_divI (show 2 * dGap top i + ref < 2 ^ 63 by omega) (show 2 * ref < 2 ^ 63 by omega)] at f ⊢
    exact f
  · have z : ref = 0 := by omega
    have n0 : lN ref ≤ 0 := by rw [z]; decide
    have u1 : dBrk ref (dGap top i) = 0 := by
      unfold dBrk dMis; rw [if_neg c]; rfl
    have u2 : dLost ref (dGap top i) = 0 := by
      unfold dLost dMis; rw [if_neg c]; rfl
    have f := fin 0 (by rw [u1]; decide) (by rw [u2]; decide)
    simp only [if_pos n0, zy1] at f ⊢
    exact f
theorem zsum_b {f : Nat → Nat} {M : Nat} (h : ∀ k, f k ≤ M) : ∀ n, zsum f n ≤ M * n := by
  intro n
  induction n with
  | zero => exact Nat.zero_le _
  | succ n ih =>
    have := h n
    show zsum f n + f n ≤ _
    rw [Nat.mul_succ]
    omega
theorem X_places {σ : zS} {N P V sc : Nat} {top : Nat → Nat} (hN : N ≤ 32) (hP : P ≤ 600) (hV : V ≤ 1) (hs : sc ≤ 400) (h9 : zi σ 9 = nI N) (h10 : zi σ 10 = nI sc) (ht : ∀ i, i < N → zj σ 0 i = lN (top i)) (hb : ∀ i, i < N → top i ≤ 2400000) (hm : ∀ i, i + 1 < N → top i ≤ top (i + 1)) : ∃ σ', fX2_renewPlaces (nI P) (nI V) σ = some σ' ∧ Fr [11, 12] [0] [8, 9, 10] [1] σ σ' ∧ zl σ' 0 = lN (dRef P sc N top) ∧ (∀ i, i < N → za σ' 10 i = nI (dPlace V (dRef P sc N top) top i)) ∧ (∀ i, i + 1 < N → za σ' 8 i = nI (dLost (dRef P sc N top) (dGap top i)) ∧ za σ' 9 i = nI (dBrk (dRef P sc N top) (dGap top i))) ∧ zi σ' 11 = nI (zsum (fun k => dLost (dRef P sc N top) (dGap top k)) (N - 1)) ∧ zi σ' 12 = nI (zsum (fun k => dBrk (dRef P sc N top) (dGap top k)) (N - 1)) := by
  have hr := ref_lt (P := P) (sc := sc) (N := N) (top := top) hP hs hb
  have e1 : ∃ ρ, (if nI P ≤ 0 then (zy2 (fX2_medianGap σ) (fun x1 s2 => some (x1, s2))) else (some (((nI P).toInt64 * (zi σ 10).toInt64), σ))) = some (lN (dRef P sc N top), ρ) ∧ Fr [] [] [] [1] σ ρ := by
    by_cases c : 0 < P
    · refine ⟨σ, ?_, Fr_r σ⟩
      rw [if_neg (nI_nle c (by omega)), h10, nI_l (by omega), nI_l (by omega), lN_mul]
      unfold dRef
      rw [if_pos c]
    · have z : P = 0 := by omega
      subst z
      obtain ⟨σ', g1, g2⟩ := X_median hN h9 ht hb hm
      refine ⟨σ', ?_, g2⟩
      have z0 : nI 0 ≤ 0 := by decide
      rw [if_pos z0, g1]
      unfold dRef
      rw [if_neg c]
      rfl
  obtain ⟨ρ, e1, fr1⟩ := e1
  generalize dRef P sc N top = ref at hr e1
  have loop : ∀ n j ρ, j ≤ N → N < j + n → Fr [11, 12] [0] [8, 9, 10] [1] σ ρ → zl ρ 0 = lN ref → (∀ i, i < j → za ρ 10 i = nI (dPlace V ref top i)) → (∀ i, i < j → i + 1 < N → za ρ 8 i = nI (dLost ref (dGap top i)) ∧ za ρ 9 i = nI (dBrk ref (dGap top i))) → (zi ρ 11 = nI (zsum (fun k => dLost ref (dGap top k)) (if j < N then j else N - 1)) ∧ zi ρ 12 = nI (zsum (fun k => dBrk ref (dGap top k)) (if j < N then j else N - 1))) → ∃ σ', fX2_renewPlaces_35 (nI V) n (nI j) ρ = some σ' ∧ Fr [11, 12] [0] [8, 9, 10] [1] σ σ' ∧ zl σ' 0 = lN ref ∧ (∀ i, i < N → za σ' 10 i = nI (dPlace V ref top i)) ∧ (∀ i, i + 1 < N → za σ' 8 i = nI (dLost ref (dGap top i)) ∧ za σ' 9 i = nI (dBrk ref (dGap top i))) ∧ zi σ' 11 = nI (zsum (fun k => dLost ref (dGap top k)) (N - 1)) ∧ zi σ' 12 = nI (zsum (fun k => dBrk ref (dGap top k)) (N - 1)) := by
    intro n
    induction n with
    | zero => intro j ρ h1 h2; omega
    | succ n ih =>
      intro j ρ h1 h2 fr hl hp hd hz
      rw [fX2_renewPlaces_35, fr.1 9 (by decide), h9]
      by_cases q : N ≤ j
      · rw [if_pos (nI_le q (by omega))]
        rw [if_neg (by omega)] at hz
        exact ⟨ρ, rfl, fr, hl, fun i hi => hp i (by omega), fun i hi => hd i (by omega) hi, hz⟩
      · rw [if_pos (show j < N by omega)] at hz
        have hcl : (nI j).toNatClampNeg = j := nI_clamp (by omega)
        have ex : (if nI V = 1 then (some (nI j + zi ρ 11)) else some (nI j)) = some (nI (dPlace V ref top j)) := by
          unfold dPlace
          rw [hz.1, nI_add]
          rcases (show V = 0 ∨ V = 1 by omega) with e | e <;> subst e
          · have n1 : ¬ nI 0 = 1 := by decide
            rw [if_neg n1, if_neg (by omega)]
          · have n1 : nI 1 = 1 := by decide
            rw [if_pos n1, if_pos rfl]
        have k9 : ∀ v, zi (wa ρ 10 j v) 9 = nI N := fun v => (fr.1 9 (by decide)).trans h9
        rw [if_neg (nI_ge (show j < N by omega) (show N < 2 ^ 31 by omega)), ex]
        simp only [zv, zy1, zy2, zy3, zgq (show j < 32 by omega), hcl, k9, nI_1]
        by_cases q2 : N ≤ j + 1
        · simp only [if_pos (nI_le q2 (show j + 1 < 2 ^ 31 by omega))]
          refine ih (j + 1) _ (by omega) (by omega) (Fr_wa fr (by decide)) hl (fun i hi => ?_) (fun i hi hi2 => hd i (by omega) hi2) ?_
          · show upd (za ρ 10) j _ i = _
            by_cases z : i = j
            · rw [z, upd_s]
            · rw [upd_n z]; exact hp i (by omega)
          · rw [if_neg (by omega), show N - 1 = j by omega]
            exact hz
        · simp only [if_neg (nI_ge (show j + 1 < N by omega) (show N < 2 ^ 31 by omega)), X_judge (ρ := wa ρ 10 j (nI (dPlace V ref top j))) hN (fun i hi => by rw [show zj (wa ρ 10 j (nI (dPlace V ref top j))) 0 = zj ρ 0 from rfl, fr.2.2.2.1 0 (by decide)]; exact ht i hi) hb hm (show j + 1 < N by omega) hl hr]
          refine ih (j + 1) _ (by omega) (by omega) ?_ hl (fun i hi => ?_) (fun i hi hi2 => ?_) ?_
          · exact Fr_wi (Fr_wi (Fr_wa (Fr_wa (Fr_wa fr (by decide)) (by decide)) (by decide)) (by decide)) (by decide)
          · show upd (za ρ 10) j _ i = _
            by_cases z : i = j
            · rw [z, upd_s]
            · rw [upd_n z]; exact hp i (by omega)
          · show upd (za ρ 8) j _ i = _ ∧ upd (za ρ 9) j _ i = _
            by_cases z : i = j
            · rw [z, upd_s, upd_s]; exact ⟨rfl, rfl⟩
            · rw [upd_n z, upd_n z]; exact hd i (by omega) hi2
          · rw [if_pos (by omega)]
            show zi ρ 11 + _ = _ ∧ zi ρ 12 + _ = _
            rw [hz.1, hz.2, nI_add, nI_add]
            exact ⟨rfl, rfl⟩
  obtain ⟨σ', g1, g2⟩ := loop 500 0 (wi (wi (wl ρ 0 (lN ref)) 11 0) 12 0) (by omega) (by omega) (Fr_wi (Fr_wi (Fr_wl (Fr_m fr1 (by decide) (by decide) (by decide) (by decide)) (by decide)) (by decide)) (by decide)) rfl (fun i hi => by omega) (fun i hi => by omega) (by
    have z : (if 0 < N then 0 else N - 1) = 0 := by split <;> omega
    rw [z]
    exact ⟨nI_0.symm, nI_0.symm⟩)
  rw [nI_0] at g1
  refine ⟨σ', ?_, g2⟩
  unfold fX2_renewPlaces
  rw [e1]
  simp only [zv, zy1, zy2, zy3, g1]

-- the model's own
def MB (N : Nat) (T : Nat → Nat) (B : Nat) (S H : Nat → Nat) (P V md : Nat) (τ : zS) : Prop :=
  zi τ 0 = nI N ∧ (∀ k, k < N → za τ 0 k = nI (T k)) ∧ (∃ n f, RB B S n f (za τ 1) (za τ 3) (za τ 4)) ∧ (∀ k, k < 12 → za τ 2 k = nI (H k)) ∧ zi τ 2 = nI P ∧ zi τ 3 = nI V ∧ fX7_modeNow τ = some (nI md)
theorem MB_Fr {N : Nat} {T : Nat → Nat} {B : Nat} {S H : Nat → Nat} {P V md : Nat} {I L A J : List Nat} {τ ρ : zS} (h : MB N T B S H P V md τ) (f : Fr I L A J τ ρ) (hI : ∀ j, j ∈ [0, 1, 2, 3] → j ∉ I) (hA : ∀ j, j ∈ [0, 1, 2, 3, 4, 5] → j ∉ A) : MB N T B S H P V md ρ := by
  have em : fX7_modeNow ρ = fX7_modeNow τ := by
    rw [M_mode, M_mode, f.1 1 (hI 1 (by decide)), f.2.2.1 5 (hA 5 (by decide))]
  unfold MB
  rw [f.1 0 (hI 0 (by decide)), f.1 2 (hI 2 (by decide)), f.1 3 (hI 3 (by decide)), f.2.2.1 0 (hA 0 (by decide)), f.2.2.1 1 (hA 1 (by decide)), f.2.2.1 2 (hA 2 (by decide)), f.2.2.1 3 (hA 3 (by decide)), f.2.2.1 4 (hA 4 (by decide)), em]
  exact h
theorem M_part {τ : zS} {B c tk : Nat} {S H : Nat → Nat} {n : Int32} {f : Nat → Int32} (h : RB B S n f (za τ 1) (za τ 3) (za τ 4)) (hH : ∀ k, k < 12 → za τ 2 k = nI (H k)) (hz : zsum H 12 ≤ 400) (hc : c < B) (ht : tk ≤ 2) : fX7_partBy (nI tk) (nI c) τ = some (lN (dMid tk B S H c)) := by
  have hB2 := h.2.2.1
  have loop : ∀ n i, i ≤ c → c < i + n → fX7_partBy_5 (nI tk) (nI c) τ n (nI (zsum H i)) (nI i) = some (nI (zsum H c)) := by
    intro n
    induction n with
    | zero => intro i h1 h2; omega
    | succ n ih =>
      intro i h1 h2
      rw [fX7_partBy_5]
      by_cases q : c ≤ i
      · rw [if_pos (nI_le q (by omega)), show i = c by omega]
      · rw [if_neg (nI_ge (by omega) (by omega)), zgq (show i < 12 by omega), nI_clamp (by omega), hH i (by omega), nI_add]
        simp only [zv, nI_1]
        exact ih (i + 1) (by omega) (by omega)
  have e := loop 500 0 (by omega) (by omega)
  have z0 : nI (zsum H 0) = 0 := nI_0
  rw [z0, nI_0] at e
  have hcl : (nI c).toNatClampNeg = c := nI_clamp (by omega)
  have h1 : zsum H (c + 1) ≤ zsum H 12 := zsum_mono 12 (by omega)
  have h2 : zsum H (c + 1) = zsum H c + H c := rfl
  unfold fX7_partBy dMid
  rw [e]
  rcases (show tk = 0 ∨ tk = 1 ∨ tk = 2 by omega) with e | e | e
  · subst e
    have n2 : ¬ nI 0 = 2 := by decide
    have n1 : ¬ nI 0 = 1 := by decide
    simp only [zv, zy1, zy2, zy3, if_neg n2, if_neg n1]
    rw [if_neg (by omega), if_neg (by omega), nI_l (by omega)]
    show some (lN 60 * lN c + lN 30) = _
    rw [lN_mul, lN_add]
  · subst e
    have n2 : ¬ nI 1 = 2 := by decide
    have n1 : nI 1 = 1 := by decide
    simp only [zv, zy1, zy2, zy3, if_neg n2, if_pos n1, zgq (show c < 12 by omega), hcl, hH c (by omega)]
    rw [if_neg (by omega), nI_l (by omega), nI_l (by omega)]
    show some (lN 60 * lN _ + lN 30 * lN _) = _
    rw [lN_mul, lN_mul, lN_add]
    simp only [if_true]
  · subst e
    have n2 : nI 2 = 2 := by decide
    have e1 : dFi S B c = S c := if_pos hc
    have s1 := (h.2.2.2.2.1 c hc).2.2
    have s2 : dFi S B (c + 1) ≤ 60 := by
      unfold dFi
      split
      · next z => have := (h.2.2.2.2.1 (c + 1) z).2.2; omega
      · omega
    simp only [zv, zy1, zy2, zy3, if_pos n2, nI_1, M_first h (show c + 1 ≤ B by omega), M_first h (show c ≤ B by omega), e1, if_true]
    rw [nI_add, nI_l (by omega)]
    rfl
theorem M_tops {N : Nat} {T : Nat → Nat} {B : Nat} {S H : Nat → Nat} {G : Nat} {ga gb : Nat → Nat} {P V md sc tk : Nat} {σ : zS} (hd : DB N T B S H G ga gb P V) (hc : MB N T B S H P V md σ) (ht : tk ≤ 2) (hsc : sc ≤ 400) (h10 : zl σ 0 = lN sc) : ∃ σ', fX7_finds_59 (nI tk) 500 0 σ = some σ' ∧ Fr [] [] [] [0] σ σ' ∧ ∀ i, i < N → zj σ' 0 i = lN (dTop tk sc B S H T i) := by
  obtain ⟨hN, hT, hTm, hB, hB2, hS0, hS, hSm, hH, hG, hg, hP, hV⟩ := hd
  have loop : ∀ n j ρ, j ≤ N → N < j + n → Fr [] [] [] [0] σ ρ → (∀ i, i < j → zj ρ 0 i = lN (dTop tk sc B S H T i)) → ∃ σ', fX7_finds_59 (nI tk) n (nI j) ρ = some σ' ∧ Fr [] [] [] [0] σ σ' ∧ ∀ i, i < N → zj σ' 0 i = lN (dTop tk sc B S H T i) := by
    intro n
    induction n with
    | zero => intro j ρ h1 h2; omega
    | succ n ih =>
      intro j ρ h1 h2 fr hi
      obtain ⟨c1, c2, ⟨n', f', c3⟩, c4, c5, c6, c7⟩ := MB_Fr hc fr (by decide) (by decide)
      rw [fX7_finds_59, c1]
      by_cases q : N ≤ j
      · rw [if_pos (nI_le q (by omega))]
        exact ⟨ρ, rfl, fr, fun i hi' => hi i (by omega)⟩
      · have hcl : (nI j).toNatClampNeg = j := nI_clamp (by omega)
        have hTj := hT j (by omega)
        have ef : nI (T j) - nI (T j) / 60 * 60 = nI (T j % 60) := nI_mod (b := 60) (by omega) (by decide) (by decide)
        have ec : nI (T j) / 60 = nI (T j / 60) := nI_div (b := 60) (by omega) (by decide) (by decide)
        rw [ec] at ef
        have hcod := (cod_spec (S := S) (x := T j % 60) B hB hS0 hSm).1
        have hml := Nat.mod_lt (T j) (show 0 < 60 by decide)
        have hz := (c3.2.2.2.2.2.2.2 (T j % 60) hml).1
        have ex : (nI (T j / 60)).toInt64 * (60 : Int64) * lN sc + lN (dMid tk B S H (cod S B (T j % 60))) = lN (dTop tk sc B S H T j) := by
          rw [nI_l (by omega)]
          show _ * lN 60 * _ + _ = _
          rw [lN_mul, lN_mul, lN_add]
          rfl
        simp only [zv, zy1, zy2, zy3, if_neg (nI_ge (show j < N by omega) (show N < 2 ^ 31 by omega)), zgq (show j < 32 by omega), hcl, c2 j (by omega), ef, ec, M_code hz hml, M_part c3 c4 hH hcod ht, fr.2.1 0 (by decide), h10, ex, nI_1]
        refine ih (j + 1) _ (by omega) (by omega) (Fr_wj fr (by decide)) (fun i hi' => ?_)
        show vp_updL (zj ρ 0) j _ i = _
        by_cases z : i = j
        · rw [z, updL_s]
        · rw [updL_n z]
          exact hi i (by omega)
  have e := loop 500 0 σ (by omega) (by omega) (Fr_r σ) (fun i hi => by omega)
  rw [nI_0] at e
  exact e
theorem gaps_eq {a b c : Int32} {v : Int64} : ∀ n x σ, fX7_findsGaps_31 c v n x σ = fX2_medianGap_30 a b v n x σ := by
  intro n
  induction n with
  | zero => intro x σ; rfl
  | succ n ih =>
    intro x σ
    unfold fX7_findsGaps_31 fX2_medianGap_30
    simp only [ih]
theorem M_gaps {σ : zS} {N P sc : Nat} {top : Nat → Nat} (hN : N ≤ 32) (hP : P ≤ 600) (hs : sc ≤ 400) (h9 : zi σ 0 = nI N) (h2 : zi σ 2 = nI P) (h10 : zl σ 0 = lN sc) (ht : ∀ i, i < N → zj σ 0 i = lN (top i)) (hb : ∀ i, i < N → top i ≤ 2400000) (hm : ∀ i, i + 1 < N → top i ≤ top (i + 1)) : ∃ σ', fX7_findsGaps σ = some σ' ∧ Fr [] [1] [] [1] σ σ' ∧ zl σ' 1 = lN (dRef P sc N top) := by
  have hg : ∀ i, i < N - 1 → dGap top i < 2 ^ 31 := by
    intro i hi
    unfold dGap
    have := hb (i + 1) (by omega)
    omega
  have loop : ∀ n j ρ, (j ≤ N - 1) → N < j + n → Fr [] [1] [] [1] σ ρ → (∀ k, k < j → zj ρ 1 k = lN (srt (dGap top) j k)) → ∃ σ', fX7_findsGaps_2 n (nI j) ρ = some σ' ∧ Fr [] [1] [] [1] σ σ' ∧ ∀ k, k < N - 1 → zj σ' 1 k = lN (srt (dGap top) (N - 1) k) := by
    intro n
    induction n with
    | zero => intro j ρ h1 h2; omega
    | succ n ih =>
      intro j ρ h1 h2 fr hz
      have ht' : ∀ i, i < N → zj ρ 0 i = lN (top i) := fun i hi => by rw [fr.2.2.2.1 0 (by decide)]; exact ht i hi
      rw [fX7_findsGaps_2, fr.1 0 (by decide), h9, nI_1]
      by_cases q : N ≤ j + 1
      · rw [if_pos (nI_le q (by omega))]
        exact ⟨ρ, rfl, fr, by rw [← show j = N - 1 by omega]; exact hz⟩
      · have hj := hg j (by omega)
        obtain ⟨ρ', r1, r2, r3⟩ := insK1 (g := srt (dGap top) j) (x := dGap top j) (a := 0) (b := 0) hj (n := j) (ρ := ρ) (by omega) (fun k hk => ⟨hz k hk, srt_b j (fun i hi => hg i (by omega)) k hk⟩)
        have hp := pos_le (srt (dGap top) j) (dGap top j) j
        have eg : lN (top (j + 1)) - lN (top j) = lN (dGap top j) := lN_sub (hm j (by omega))
        simp only [zv, zy1, zy2, zy3, if_neg (nI_ge (show j + 1 < N by omega) (show N < 2 ^ 31 by omega)), zgq (show j + 1 < 32 by omega), zgq (show j < 32 by omega), nI_clamp (show j + 1 < 2 ^ 31 by omega), nI_clamp (show j < 2 ^ 31 by omega), ht' j (by omega), ht' (j + 1) (by omega), eg, gaps_eq (a := 0) (b := 0), r1, zgq (show pos (srt (dGap top) j) (dGap top j) j < 32 by omega), nI_clamp (show pos (srt (dGap top) j) (dGap top j) j < 2 ^ 31 by omega)]
        exact ih (j + 1) _ (by omega) (by omega) (Fr_wj (Fr_t fr (Fr_m r2 (by decide) (by decide) (by decide) (by decide))) (by decide)) r3
  obtain ⟨ρ, g1, g2, g3⟩ := loop 500 0 σ (by omega) (by omega) (Fr_r σ) (fun k hk => by omega)
  rw [nI_0] at g1
  have k0 : zi ρ 0 = nI N := (g2.1 0 (by decide)).trans h9
  have k2 : zi ρ 2 = nI P := (g2.1 2 (by decide)).trans h2
  have k3 : zl ρ 0 = lN sc := (g2.2.1 0 (by decide)).trans h10
  unfold fX7_findsGaps
  rw [g1]
  refine ⟨wl ρ 1 (lN (dRef P sc N top)), ?_, Fr_wl g2 (by decide), rfl⟩
  simp only [zv, zy1, zy2, zy3, k0, k2, k3]
  unfold dRef
  by_cases c : 0 < P
  · rw [if_neg (nI_nle c (by omega)), if_pos c, nI_l (by omega), lN_mul]
  · have z : nI P ≤ 0 := by rw [show P = 0 by omega]; decide
    rw [if_pos z, if_neg c]
    by_cases y : N < 2
    · have y1 : nI N ≤ 1 := nI_le (b := 1) (by omega) (by decide)
      rw [if_pos y1, if_pos y]
      rfl
    · have y1 : ¬ nI N ≤ 1 := nI_ge (a := 1) (by omega) (by omega)
      have e2 : (nI N - 2) / 2 = nI ((N - 2) / 2) := by
        have e3 : nI N - 2 = nI (N - 2) := nI_sub (a := N) (b := 2) (by omega)
        rw [e3]
        exact nI_div (b := 2) (by omega) (by decide) (by decide)
      rw [if_neg y1, if_neg y, e2, zgq (show (N - 2) / 2 < 32 by omega), nI_clamp (by omega), g3 ((N - 2) / 2) (by omega)]
theorem M_last {σ : zS} {N V ref : Nat} {top : Nat → Nat} (hN : N ≤ 32) (hV : V ≤ 1) (hr : ref < 2400001) (h0 : zi σ 0 = nI N) (h3 : zi σ 3 = nI V) (hl : zl σ 1 = lN ref) (ht : ∀ i, i < N → zj σ 0 i = lN (top i)) (hb : ∀ i, i < N → top i ≤ 2400000) (hm : ∀ i, i + 1 < N → top i ≤ top (i + 1)) : ∃ σ', fX7_finds_125 500 0 0 σ = some σ' ∧ Fr [] [] [6, 7, 8] [] σ σ' ∧ ∀ i, i < N → za σ' 6 i = nI (dPlace V ref top i) ∧ za σ' 7 i = nI (if i + 1 < N then dLost ref (dGap top i) else 0) ∧ za σ' 8 i = nI (if i + 1 < N then dBrk ref (dGap top i) else 0) := by
  have loop : ∀ n j v ρ, j ≤ N → N < j + n → Fr [] [] [6, 7, 8] [] σ ρ → (j < N → v = nI (zsum (fun k => dLost ref (dGap top k)) j)) → (∀ i, i < j → za ρ 6 i = nI (dPlace V ref top i) ∧ za ρ 7 i = nI (if i + 1 < N then dLost ref (dGap top i) else 0) ∧ za ρ 8 i = nI (if i + 1 < N then dBrk ref (dGap top i) else 0)) → ∃ σ', fX7_finds_125 n v (nI j) ρ = some σ' ∧ Fr [] [] [6, 7, 8] [] σ σ' ∧ ∀ i, i < N → za σ' 6 i = nI (dPlace V ref top i) ∧ za σ' 7 i = nI (if i + 1 < N then dLost ref (dGap top i) else 0) ∧ za σ' 8 i = nI (if i + 1 < N then dBrk ref (dGap top i) else 0) := by
    intro n
    induction n with
    | zero => intro j v ρ h1 h2; omega
    | succ n ih =>
      intro j v ρ h1 h2 fr hv hi
      rw [fX7_finds_125, fr.1 0 (by decide), h0, fr.1 3 (by decide), h3]
      by_cases q : N ≤ j
      · rw [if_pos (nI_le q (by omega))]
        exact ⟨ρ, rfl, fr, fun i hi' => hi i (by omega)⟩
      · have hv := hv (by omega)
        have hcl : (nI j).toNatClampNeg = j := nI_clamp (by omega)
        have hcl1 : (nI (j + 1)).toNatClampNeg = j + 1 := nI_clamp (by omega)
        have ex : (zy1 (if nI V = 1 then (some v) else (some 0)) (fun (x : Int32) => some (nI j + x))) = some (nI (dPlace V ref top j)) := by
          unfold dPlace
          rcases (show V = 0 ∨ V = 1 by omega) with e | e <;> subst e
          · have n1 : ¬ nI 0 = 1 := by decide
            rw [if_neg n1, if_neg (by omega)]
            show some (nI j + nI 0) = _
            rw [nI_add]
            rfl
          · have n1 : nI 1 = 1 := by decide
            rw [if_pos n1, if_pos rfl, hv]
            show some (nI j + nI _) = _
            rw [nI_add]
        have ex2 : ∃ x : Int32, (if nI V = 1 then (some v) else (some 0)) = some x ∧ nI j + x = nI (dPlace V ref top j) := by
          by_cases z : nI V = 1
          · rw [if_pos z] at ex ⊢
            exact ⟨v, rfl, Option.some.inj ex⟩
          · rw [if_neg z] at ex ⊢
            exact ⟨0, rfl, Option.some.inj ex⟩
        obtain ⟨x, x1, x2⟩ := ex2
        have k0 : ∀ u, zi (wa ρ 6 j u) 0 = nI N := fun u => (fr.1 0 (by decide)).trans h0
        have k1 : ∀ u, zl (wa ρ 6 j u) 1 = lN ref := fun u => (fr.2.1 1 (by decide)).trans hl
        have kj : ∀ u i, i < N → zj (wa ρ 6 j u) 0 i = lN (top i) := fun u i hi' => by
          rw [show zj (wa ρ 6 j u) 0 = zj ρ 0 from rfl, fr.2.2.2.1 0 (by decide)]
          exact ht i hi'
        -- what is missed behind this edge
        have hx : ∃ x3 x4 : Int64, (if nI N ≤ nI (j + 1) then (some (0 : Int64)) else (zg (zq (nI (j + 1)) 32) (zg (zq (nI j) 32) (some ((zj (wa ρ 6 j (nI (dPlace V ref top j))) 0 (j + 1)) - (zj (wa ρ 6 j (nI (dPlace V ref top j))) 0 j)))))) = some x3 ∧ (if lN ref ≤ (0 : Int64) then (some (0 : Int64)) else (if nI N ≤ nI (j + 1) then (some (0 : Int64)) else (zg (decide (¬ ((2 : Int64) * lN ref) = 0)) (some (((((2 : Int64) * x3) + lN ref) / ((2 : Int64) * lN ref)) - (1 : Int64)))))) = some x4 ∧ (if x4 ≤ 9 then (some 0 : Option Int32) else some 1) = some (nI (if j + 1 < N then dBrk ref (dGap top j) else 0)) ∧ (if (0 : Int64) ≤ x4 then (if x4 ≤ 9 then some (x4.toInt32) else some 9) else some 0) = some (nI (if j + 1 < N then dLost ref (dGap top j) else 0)) := by
          by_cases q2 : N ≤ j + 1
          · have q3 : nI N ≤ nI (j + 1) := nI_le q2 (by omega)
            simp only [if_pos q3, if_neg (show ¬ j + 1 < N by omega)]
            refine ⟨0, 0, rfl, ?_, by decide, by decide⟩
            split <;> rfl
          · have q3 : ¬ nI N ≤ nI (j + 1) := nI_ge (show j + 1 < N by omega) (by omega)
            simp only [if_neg q3, if_pos (show j + 1 < N by omega)]
            rw [zgq (show j + 1 < 32 by omega), zgq (show j < 32 by omega), kj _ j (by omega), kj _ (j + 1) (by omega), lN_sub (hm j (by omega))]
            have hg : dGap top j ≤ 2400000 := by
              unfold dGap
              have := hb (j + 1) (by omega)
              omega
            refine ⟨lN (dGap top j), ?_⟩
            by_cases c : 0 < ref
            · have n0 : ¬ lN ref ≤ 0 := fun w => absurd ((lN_leI (b := 0) (by omega) (by decide)).mp w) (by omega)
              have e2 : (2 : Int64) * lN ref = lN (2 * ref) := lN_mul 2 ref
              have e3 : (2 : Int64) * lN (dGap top j) = lN (2 * dGap top j) := lN_mul 2 _
              have n2 : decide (¬ lN (2 * ref) = 0) = true := decide_eq_true (fun w => absurd ((lN_eqI (b := 0) (by omega) (by decide)).mp w) (by omega))
              have hq : (2 * dGap top j + ref) / (2 * ref) < 2 ^ 31 := Nat.lt_of_le_of_lt (Nat.div_le_self _ _) (by omega)
              obtain ⟨m1, m2, m3⟩ := missX hq
              have u1 : dBrk ref (dGap top j) = if 9 < (2 * dGap top j + ref) / (2 * ref) - 1 then 1 else 0 := by
                unfold dBrk dMis; rw [if_pos c]
              have u2 : dLost ref (dGap top j) = if (2 * dGap top j + ref) / (2 * ref) - 1 < 9 then (2 * dGap top j + ref) / (2 * ref) - 1 else 9 := by
                unfold dLost dMis; rw [if_pos c]
              refine ⟨lN ((2 * dGap top j + ref) / (2 * ref)) - 1, rfl, ?_, by rw [u1]; exact m1, by rw [u2]; exact m3⟩
              rw [if_neg n0, e2, e3, lN_add, zg_t n2, lN_divI (by omega) (by omega)]
            · have z : ref = 0 := by omega
              have n0 : lN ref ≤ 0 := by rw [z]; decide
              have u1 : dBrk ref (dGap top j) = 0 := by
                unfold dBrk dMis; rw [if_neg c]; rfl
              have u2 : dLost ref (dGap top j) = 0 := by
                unfold dLost dMis; rw [if_neg c]; rfl
              refine ⟨0, rfl, ?_, by rw [u1]; decide, by rw [u2]; decide⟩
              rw [if_pos n0]
        obtain ⟨x3, x4, y1, y2, y3, y4⟩ := hx
        have hbk : (if j + 1 < N then dBrk ref (dGap top j) else 0) ≤ 1 := by
          split
          · exact brk_le _ _
          · omega
        rw [if_neg (nI_ge (show j < N by omega) (show N < 2 ^ 31 by omega)), x1]
        simp only [zv, zy1, zy2, zy3, zgq (show j < 32 by omega), hcl, hcl1, x2, k0, k1, nI_1, zj_wa] at y1 y2 ⊢
        simp only [y1, y2, y3, y4, narB hbk, zi_wi, zi_wl, zi_wa, zi_wj, zi_wd, zl_wi, zl_wl, zl_wa, zl_wj, zl_wd, za_wi, za_wl, za_wa, za_wj, za_wd, zj_wi, zj_wl, zj_wa, zj_wj, zj_wd, zd_wi, zd_wl, zd_wa, zd_wj, zd_wd, Nat.reduceEqDiff, reduceIte, Nat.reduceAdd, upd_s]
        refine ih (j + 1) _ _ (by omega) (by omega) (Fr_wa (Fr_wa (Fr_wa fr (by decide)) (by decide)) (by decide)) (fun z => ?_) (fun i hi' => ?_)
        · rw [if_pos z, hv, nI_add]
          rfl
        · show upd (za ρ 6) j _ i = _ ∧ upd (za ρ 7) j _ i = _ ∧ upd (za ρ 8) j _ i = _
          by_cases z : i = j
          · rw [z, upd_s, upd_s, upd_s]; exact ⟨rfl, rfl, rfl⟩
          · rw [upd_n z, upd_n z, upd_n z]; exact hi i (by omega)
  have e := loop 500 0 0 σ (by omega) (by omega) (Fr_r σ) (fun _ => nI_0.symm) (fun i hi => by omega)
  rw [nI_0] at e
  exact e
/-- what the model finds -/
def FM (N : Nat) (T : Nat → Nat) (B : Nat) (S H : Nat → Nat) (P V md : Nat) (τ : zS) : Prop :=
  let tk := dTk md (zsum H 12)
  let sc := dSc tk (zsum H 12) B
  let top := dTop tk sc B S H T
  let ref := dRef P sc N top
  zl τ 0 = lN sc ∧ (∀ i, i < N → zj τ 0 i = lN (top i)) ∧ zl τ 1 = lN ref ∧ ∀ i, i < N → za τ 6 i = nI (dPlace V ref top i) ∧ za τ 7 i = nI (if i + 1 < N then dLost ref (dGap top i) else 0) ∧ za τ 8 i = nI (if i + 1 < N then dBrk ref (dGap top i) else 0)
theorem M_finds {N : Nat} {T : Nat → Nat} {B : Nat} {S H : Nat → Nat} {G : Nat} {ga gb : Nat → Nat} {P V md : Nat} {τ : zS} (hd : DB N T B S H G ga gb P V) (hc : MB N T B S H P V md τ) (hmd : md ≤ 2) : ∃ τ', fX7_finds τ = some τ' ∧ Fr [] [0, 1] [6, 7, 8] [0, 1] τ τ' ∧ FM N T B S H P V md τ' := by
  have hs := sc_le (md := md) hd.2.2.2.1 hd.2.2.2.2.1 hd.2.2.2.2.2.2.2.2.1
  obtain ⟨tb, tm⟩ := DBtop (tk := dTk md (zsum H 12)) hd hs
  have htk := dTk_le (tot := zsum H 12) hmd
  have hc' := hc
  obtain ⟨c1, c2, ⟨n', f', c3⟩, c4, c5, c6, c7⟩ := hc
  have hH := hd.2.2.2.2.2.2.2.2.1
  have hBB := hd.2.2.2.2.1
  have e1 : (if nI md = 1 then (zy1 (fX7_allHits τ) (fun x2 => if x2 = 0 then (some 0) else (zy1 (fX7_modeNow τ) (fun x3 => some x3)))) else (zy1 (fX7_modeNow τ) (fun x4 => some x4))) = some (nI (dTk md (zsum H 12))) := by
    rw [M_all c4, c7]
    simp only [zy1]
    unfold dTk
    by_cases q : md = 1
    · subst q
      have e : nI 1 = 1 := by decide
      rw [if_pos e]
      by_cases q2 : zsum H 12 = 0
      · rw [q2, if_pos nI_0, if_pos ⟨rfl, rfl⟩]; rfl
      · rw [if_neg (nI_ne0 (by omega) (by omega)), if_neg (by omega)]
    · have e : ¬ nI md = 1 := fun z => q ((nI_eq (b := 1) (by omega) (by decide)).mp z)
      rw [if_neg e, if_neg (by omega)]
  have e2 : (if nI (dTk md (zsum H 12)) = 2 then (some (2 : Int64)) else (if nI (dTk md (zsum H 12)) = 1 then (zy1 (fX7_allHits τ) (fun x6 => some (x6.toInt64))) else (zy1 (fX7_bins τ) (fun x7 => some (x7.toInt64))))) = some (lN (dSc (dTk md (zsum H 12)) (zsum H 12) B)) := by
    rw [M_all c4, M_bins c3]
    simp only [zy1]
    rw [nI_l (by omega), nI_l (by omega)]
    generalize dTk md (zsum H 12) = tk at htk
    unfold dSc
    by_cases q : tk = 2
    · rw [q]; rfl
    · have e : ¬ nI tk = 2 := fun z => q ((nI_eq (b := 2) (by omega) (by decide)).mp z)
      rw [if_neg e, if_neg q]
      by_cases q : tk = 1
      · rw [q]; rfl
      · have e : ¬ nI tk = 1 := fun z => q ((nI_eq (b := 1) (by omega) (by decide)).mp z)
        rw [if_neg e, if_neg q]
  generalize hsc : dSc (dTk md (zsum H 12)) (zsum H 12) B = sc at hs tb tm e2
  have f0 : Fr [] [0, 1] [6, 7, 8] [0, 1] τ (wl τ 0 (lN sc)) := Fr_wl (Fr_r τ) (by decide)
  obtain ⟨s1, p1, f1, q1⟩ := M_tops hd (MB_Fr hc' f0 (by decide) (by decide)) htk hs rfl
  have f1' := Fr_t f0 (Fr_m f1 (by decide) (by decide) (by decide) (by decide))
  have m1 := MB_Fr hc' f1' (by decide) (by decide)
  have l1 : zl s1 0 = lN sc := (f1.2.1 0 (by decide)).trans rfl
  obtain ⟨s2, p2, f2, q2⟩ := M_gaps hd.1 hd.2.2.2.2.2.2.2.2.2.2.2.1 hs m1.1 m1.2.2.2.2.1 l1 q1 tb (fun i hi => tm i (i + 1) (by omega) hi)
  have f2' := Fr_t f1' (Fr_m f2 (by decide) (by decide) (by decide) (by decide))
  have m2 := MB_Fr hc' f2' (by decide) (by decide)
  have q1' : ∀ i, i < N → zj s2 0 i = lN (dTop (dTk md (zsum H 12)) sc B S H T i) := fun i hi => by rw [f2.2.2.2.1 0 (by decide)]; exact q1 i hi
  obtain ⟨s3, p3, f3, q3⟩ := M_last hd.1 hd.2.2.2.2.2.2.2.2.2.2.2.2 (ref_lt hd.2.2.2.2.2.2.2.2.2.2.2.1 hs tb) m2.1 m2.2.2.2.2.2.1 q2 q1' tb (fun i hi => tm i (i + 1) (by omega) hi)
  have f3' := Fr_t f2' (Fr_m f3 (by decide) (by decide) (by decide) (by decide))
  refine ⟨s3, ?_, f3', ?_⟩
  · unfold fX7_finds
    rw [c7]
    simp only [zv, zy1, zy2, zy3] at e1 e2 ⊢
    rw [c7] at e1
    simp only [e1, e2, p1, p2, p3]
  · unfold FM
    simp only [hsc]
    refine ⟨?_, ?_, ?_, q3⟩
    · rw [f3.2.1 0 (by decide), f2.2.1 0 (by decide)]; exact l1
    · rw [f3.2.2.2.1 0 (by decide)]; exact q1'
    · rw [f3.2.1 1 (by decide)]; exact q2
theorem RelMB {N : Nat} {T : Nat → Nat} {B : Nat} {S H : Nat → Nat} {G : Nat} {ga gb : Nat → Nat} {P V : Nat} {σ τ : zS} (h : RelD N T B S H G ga gb P V σ τ) : MB N T B S H P V (modeV (zi σ 0) (za σ 0)) τ := by
  obtain ⟨h1, h2, h3, h4, h5, h6, h7, h8, h9⟩ := h
  refine ⟨h1.2.1, fun k hk => (h1.2.2.2.1 k hk).2.1, ⟨_, _, h2⟩, fun k hk => (h3.2.2 k hk).2, h6.2.1, h6.2.2.2.2.1, ?_⟩
  rw [M_mode, mode_eq h4]
theorem RelM_Fr {N : Nat} {T : Nat → Nat} {B : Nat} {S H : Nat → Nat} {G : Nat} {ga gb : Nat → Nat} {P V : Nat} {σ τ τ' : zS} (h : RelD N T B S H G ga gb P V σ τ) (f : Fr [] [0, 1] [6, 7, 8] [0, 1] τ τ') : RelD N T B S H G ga gb P V σ τ' := by
  obtain ⟨h1, h2, h3, h4, h5, h6, h7, h8, h9⟩ := h
  refine ⟨?_, ?_, ?_, ?_, ?_, ?_, ?_, ?_, h9⟩
  · rw [f.1 0 (by decide), f.2.2.1 0 (by decide)]; exact h1
  · rw [f.2.2.1 1 (by decide), f.2.2.1 3 (by decide), f.2.2.1 4 (by decide)]; exact h2
  · rw [f.2.2.1 2 (by decide)]; exact h3
  · rw [f.1 1 (by decide), f.2.2.1 5 (by decide)]; exact h4
  · rw [f.1 4 (by decide), f.2.2.1 9 (by decide), f.2.2.1 10 (by decide)]; exact h5
  · rw [f.1 2 (by decide), f.1 3 (by decide)]; exact h6
  · rw [f.1 5 (by decide)]; exact h7
  · intro k hk
    have := h8 k hk
    rw [f.2.2.1 11 (by decide), f.2.2.1 12 (by decide), f.2.2.1 13 (by decide), f.2.2.2.1 2 (by decide), f.2.2.2.2]
    exact this

theorem plc_mono {T : Nat → Nat} {a b N : Nat} (h : a ≤ b) : plc T a N ≤ plc T b N := by
  apply Nat.le_of_not_lt
  intro z
  have l := plc_le T a N
  have h1 := plc_lt T a N (plc T b N) z
  have h2 := plc_ge T b N (by omega)
  omega
theorem M_gates {N : Nat} {T : Nat → Nat} {B : Nat} {S H : Nat → Nat} {G : Nat} {ga gb : Nat → Nat} {P V md g : Nat} {σ τ : zS} (h : FD N T B S H G ga gb P V md σ τ) (hg : g < G) : fX7_opens (nI g) τ = some (dOp N T (ga g)) ∧ fX7_closes (nI g) τ = some (dCl N T (ga g) (gb g)) := by
  obtain ⟨hd, hc, hm⟩ := FD_B h
  obtain ⟨hN, hT, hTm, hB, hB2, hS0, hS, hSm, hH, hG, hg', hP, hV⟩ := hd
  have r := h.1.2.2.2.2.1.2.2.2 g hg
  have hT' : ∀ k, k < N → za τ 0 k = nI (T k) ∧ T k < 6000 := fun k hk => ⟨hm.2.1 k hk, hT k hk⟩
  have hcl : (nI g).toNatClampNeg = g := nI_clamp (by omega)
  have l1 := plc_le T (ga g) N
  have l2 := plc_le T (gb g) N
  have l3 : plc T (ga g) N ≤ plc T (gb g) N := plc_mono (by omega)
  have o : fX7_opens (nI g) τ = some (dOp N T (ga g)) := by
    unfold fX7_opens dOp
    rw [zgq (show g < 8 by omega), hcl, r.2.1, M_place hm.1 hN hT' (by omega), hm.1]
    simp only [zv, zy1, zy2, zy3]
    by_cases z : plc T (ga g) N < N
    · rw [if_pos z, if_neg (nI_ge z (by omega))]
    · rw [if_neg z, if_pos (nI_le (by omega) (by omega))]
  refine ⟨o, ?_⟩
  unfold fX7_closes
  rw [zgq (show g < 8 by omega), hcl, r.2.2.2.1, M_place hm.1 hN hT' r.2.2.2.2.2, hm.1, o]
  simp only [zv, zy1, zy2, zy3]
  unfold dCl
  by_cases z : plc T (gb g) N < N
  · rw [if_neg (nI_ge z (by omega))]
    have e : dOp N T (ga g) = nI (plc T (ga g) N) := if_pos (by omega)
    rw [e]
    by_cases y : plc T (ga g) N < plc T (gb g) N
    · have ne : ¬ nI (plc T (gb g) N) = nI (plc T (ga g) N) := fun w => by have := (nI_eq (by omega) (by omega)).mp w; omega
      rw [if_neg ne, if_pos ⟨z, y⟩]
    · have ne : nI (plc T (gb g) N) = nI (plc T (ga g) N) := by rw [show plc T (gb g) N = plc T (ga g) N by omega]
      rw [if_pos ne, if_neg (by omega)]
  · rw [if_pos (nI_le (by omega) (by omega)), if_neg (by omega)]
/-- a gate that closes: its edges -/
theorem gate_at {N : Nat} {T : Nat → Nat} {a b : Nat} (hN : N ≤ 32) : dCl N T a b = -1 ∨ ∃ x y, x < y ∧ y < N ∧ dOp N T a = nI x ∧ dCl N T a b = nI y ∧ ¬ dCl N T a b = -1 := by
  unfold dCl
  by_cases c : plc T b N < N ∧ plc T a N < plc T b N
  · rw [if_pos c]
    exact Or.inr ⟨plc T a N, plc T b N, c.2, c.1, if_pos (by omega), rfl, nI_neg1 (by omega)⟩
  · rw [if_neg c]
    exact Or.inl rfl
theorem place_b {V ref i N : Nat} {top : Nat → Nat} (hN : N ≤ 32) (hi : i < N) : dPlace V ref top i ≤ 400 := by
  unfold dPlace
  have := zsum_b (f := fun k => dLost ref (dGap top k)) (M := 9) (fun k => lost_le _ _) i
  split <;> omega
theorem place_m {V ref i j : Nat} {top : Nat → Nat} (h : i < j) : dPlace V ref top i < dPlace V ref top j := by
  unfold dPlace
  have := zsum_mono (H := fun k => dLost ref (dGap top k)) (a := i) j (by omega)
  split <;> omega
theorem X_periods {σ : zS} {N a b : Nat} {pl : Nat → Nat} (hN : N ≤ 32) (hp : ∀ i, i < N → za σ 10 i = nI (pl i)) (hl : pl a ≤ pl b) (ha : a < N) (hb : b < N) : fX2_periods (nI a) (nI b) σ = some (nI (pl b - pl a)) := by
  unfold fX2_periods
  rw [zgq (show b < 32 by omega), zgq (show a < 32 by omega), nI_clamp (by omega), nI_clamp (by omega), hp a ha, hp b hb, nI_sub hl]
theorem w_of {w : Int32} {n : Nat} (hn : n < 2 ^ 31) (h : zw w 0 (nI n) = 1) : ∃ k, k ≤ n ∧ w = nI k := by
  rcases zw_C (v := w) 0 n (by decide) hn with e | ⟨k, _, h2, h3, _⟩
  · have e' : zw w 0 (nI n) = 0 := e
    rw [e'] at h; exact absurd h (by decide)
  · exact ⟨k, h2, h3⟩
theorem whereBoth {N : Nat} {T : Nat → Nat} {B : Nat} {S H : Nat → Nat} {G : Nat} {ga gb : Nat → Nat} {P V md g : Nat} {σ τ : zS} {w : Int32} (h : FD N T B S H G ga gb P V md σ τ) (hg : g < G) (hw : zw w 0 2 = 1) : ∃ r σ' τ', fX6_where (nI g) w σ = some (r, σ') ∧ fX7_whereOf (nI g) w τ = some (r, τ') ∧ FD N T B S H G ga gb P V md σ' τ' := by
  obtain ⟨hd, hc, hm⟩ := FD_B h
  have hN := hd.1
  have hG := hd.2.2.2.2.2.2.2.2.2.1
  obtain ⟨σ', p1, h', x0, x1, x2, x3, x4, x5, x6, x7, x8, x9, x10, x11⟩ := X_due h
  obtain ⟨τ', p2, h'', y1, y2, y3, y4⟩ := M_due h'
  obtain ⟨o1, o2⟩ := M_gates h' hg
  obtain ⟨o3, o4⟩ := M_gates h'' hg
  have hcl : (nI g).toNatClampNeg = g := nI_clamp (by omega)
  have ce : zw (nI g) 0 (zi σ 8 - 1) = 1 := by rw [hc.2.2.2.2.2.2.1]; exact zw_e (by omega) hg
  unfold fX6_where fX7_whereOf
  rw [X_isGate, ce, X_within, hw, p1]
  simp only [zv, zy1, zy2, zy3, if_neg one_ne, zgq (show g < 8 by omega), hcl, (x8 g hg).1, (x8 g hg).2, o1, o2, fX7_periodsOf, p2, o3, o4]
  obtain ⟨k, hk, rfl⟩ := w_of (n := 2) (by decide) hw
  rcases (show k = 0 ∨ k = 1 ∨ k = 2 by omega) with e | e | e <;> subst e
  · refine ⟨dOp N T (ga g), σ', τ, ?_, ?_, h'⟩
    · rw [if_neg (by decide), if_pos (by decide)]
    · rw [if_pos (by decide)]
  · refine ⟨dCl N T (ga g) (gb g), σ', τ, ?_, ?_, h'⟩
    · rw [if_neg (by decide), if_neg (by decide)]
    · rw [if_neg (by decide), if_pos (by decide)]
  · have n0 : ¬ nI 2 = 0 := by decide
    have n1 : ¬ nI 2 = 1 := by decide
    have n2 : nI 2 = 2 := by decide
    rcases gate_at (T := T) (a := ga g) (b := gb g) hN with e | ⟨a, b, ab, bN, e1, e2, e3⟩
    · refine ⟨-1, σ', τ', ?_, ?_, h''⟩
      · simp only [if_pos n2, if_pos e]
      · simp only [if_neg n0, if_neg n1, if_pos e]
    · refine ⟨nI (dPlace V (qRef N T B S H P md) (qTop T B S H md) b - dPlace V (qRef N T B S H P md) (qTop T B S H md) a), σ', τ', ?_, ?_, h''⟩
      · have pm := Nat.le_of_lt (place_m (V := V) (ref := qRef N T B S H P md) (top := qTop T B S H md) ab)
        simp only [if_pos n2, if_neg e3]
        simp only [e1, e2, X_periods hN x4 pm (show a < N by omega) bN]
      · simp only [if_neg n0, if_neg n1, if_neg e3]
        simp only [e1, e2, zgq (show b < 32 by omega), zgq (show a < 32 by omega), nI_clamp (show b < 2 ^ 31 by omega), nI_clamp (show a < 2 ^ 31 by omega), (y4 a (by omega)).1, (y4 b bN).1, nI_sub (Nat.le_of_lt (place_m (V := V) (ref := qRef N T B S H P md) (top := qTop T B S H md) ab))]
theorem ok_where_ : ok_where Rel := by
  intro σ τ v w h
  obtain ⟨N, T, B, S, H, G, ga, gb, P, V, md, hf⟩ := Rel_FD h
  obtain ⟨hd, hc, hm⟩ := FD_B hf
  have hG := hd.2.2.2.2.2.2.2.2.2.1
  have k1 := hc.2.2.2.2.2.2.1
  have k2 := hf.1.2.2.2.2.1.2.1
  rcases zw_N (v := v) G (by omega) with e | ⟨i, hi, rfl, e⟩
  · refine ⟨-2, σ, τ, ?_, ?_, h⟩
    · unfold fX6_where
      rw [X_isGate, k1, e]
      rfl
    · unfold fX7_where
      rw [M_isGate, k2, e]
      rfl
  · rcases zw01 w 0 2 with e2 | e2
    · refine ⟨-2, σ, τ, ?_, ?_, h⟩
      · unfold fX6_where
        rw [X_isGate, k1, e, X_within, e2]
        rfl
      · unfold fX7_where
        rw [M_isGate, k2, e, M_in, e2]
        rfl
    · obtain ⟨r, σ', τ', g1, g2, g3⟩ := whereBoth hf hi e2
      refine ⟨r, σ', τ', g1, ?_, FD_Rel g3⟩
      unfold fX7_where
      rw [M_isGate, k2, e, M_in, e2, g2]
      rfl
/-- the sum over all edges has nothing at the last -/
theorem zsum_last {f : Nat → Nat} {N : Nat} : zsum (fun i => if i + 1 < N then f i else 0) N = zsum f (N - 1) := by
  have e : ∀ n, n + 1 ≤ N → zsum (fun i => if i + 1 < N then f i else 0) n = zsum f n := by
    intro n
    induction n with
    | zero => intro _; rfl
    | succ n ih =>
      intro h
      show zsum _ n + (if n + 1 < N then f n else 0) = zsum f n + f n
      rw [ih (by omega), if_pos (by omega)]
  cases N with
  | zero => rfl
  | succ n =>
    show zsum _ n + (if n + 1 < n + 1 then f n else 0) = _
    rw [if_neg (by omega), e n (Nat.le_refl _)]
    rfl
theorem M_lost {τ : zS} {N : Nat} {f : Nat → Nat} (hN : N ≤ 32) (h0 : zi τ 0 = nI N) (h : ∀ i, i < N → za τ 7 i = nI (f i)) : fX7_lostNow_8 τ 500 0 0 = some (nI (zsum f N)) := by
  have loop : ∀ n j, j ≤ N → N < j + n → fX7_lostNow_8 τ n (nI (zsum f j)) (nI j) = some (nI (zsum f N)) := by
    intro n
    induction n with
    | zero => intro j h1 h2; omega
    | succ n ih =>
      intro j h1 h2
      rw [fX7_lostNow_8, h0]
      by_cases q : N ≤ j
      · rw [if_pos (nI_le q (by omega)), show j = N by omega]
      · rw [if_neg (nI_ge (by omega) (by omega)), zgq (show j < 32 by omega), nI_clamp (by omega), h j (by omega), nI_add]
        simp only [zv, nI_1]
        exact ih (j + 1) (by omega) (by omega)
  have e := loop 500 0 (by omega) (by omega)
  have z0 : nI (zsum f 0) = 0 := nI_0
  rw [z0, nI_0] at e
  exact e
theorem M_breaks {τ : zS} {N : Nat} {f : Nat → Nat} (hN : N ≤ 32) (h0 : zi τ 0 = nI N) (h : ∀ i, i < N → za τ 8 i = nI (f i) ∧ f i ≤ 1) : fX7_breaksNow_8 τ 500 0 0 = some (nI (zsum f N)) := by
  have loop : ∀ n j, j ≤ N → N < j + n → fX7_breaksNow_8 τ n (nI (zsum f j)) (nI j) = some (nI (zsum f N)) := by
    intro n
    induction n with
    | zero => intro j h1 h2; omega
    | succ n ih =>
      intro j h1 h2
      rw [fX7_breaksNow_8, h0]
      by_cases q : N ≤ j
      · rw [if_pos (nI_le q (by omega)), show j = N by omega]
      · obtain ⟨a1, a2⟩ := h j (by omega)
        have e : (if nI (f j) = 0 then (some (0 : Int32)) else some 1) = some (nI (f j)) := by
          rcases (show f j = 0 ∨ f j = 1 by omega) with e | e <;> rw [e] <;> decide
        rw [if_neg (nI_ge (by omega) (by omega)), zgq (show j < 32 by omega), nI_clamp (by omega), a1, e]
        simp only [zv, zy1, zy2, zy3, nI_1, nI_add]
        exact ih (j + 1) (by omega) (by omega)
  have e := loop 500 0 (by omega) (by omega)
  have z0 : nI (zsum f 0) = 0 := nI_0
  rw [z0, nI_0] at e
  exact e
theorem M_ranked {τ : zS} {N : Nat} (hN : N ≤ 32) (h0 : zi τ 0 = nI N) : fX7_ranked τ = some (nI (dSp N)) := by
  unfold fX7_ranked dSp
  rw [h0]
  by_cases c : 3 ≤ N
  · have c1 : 3 ≤ nI N := nI_le (a := 3) c (by omega)
    have e1 : nI N - 1 = nI (N - 1) := nI_sub (a := N) (b := 1) (by omega)
    have e2 : nI (N - 1) / 2 = nI ((N - 1) / 2) := nI_div (b := 2) (by omega) (by decide) (by decide)
    rw [if_pos c1, e1, e2]
    by_cases d : (N - 1) / 2 ≤ 15
    · have d1 : nI ((N - 1) / 2) ≤ 15 := nI_le (b := 15) d (by decide)
      rw [if_pos d1]
      by_cases f : (N - 1) / 2 < 15
      · rw [if_pos f]
      · rw [if_neg f, show (N - 1) / 2 = 15 by omega]
    · omega
  · have c1 : ¬ 3 ≤ nI N := nI_ge (b := 3) (by omega) (by decide)
    rw [if_neg c1, if_pos (by omega), show (N - 1) / 2 = 0 by omega]
    rfl
theorem countBoth {N : Nat} {T : Nat → Nat} {B : Nat} {S H : Nat → Nat} {G : Nat} {ga gb : Nat → Nat} {P V md : Nat} {σ τ : zS} {w : Int32} (h : FD N T B S H G ga gb P V md σ τ) (hw : zw w 0 8 = 1) : ∃ r σ' τ', fX6_count w σ = some (r, σ') ∧ fX7_count w τ = some (r, τ') ∧ FD N T B S H G ga gb P V md σ' τ' := by
  obtain ⟨σ', p1, h', x0, x1, x2, x3, x4, x5, x6, x7, x8, x9, x10, x11⟩ := X_due h
  obtain ⟨τ', p2, h'', y1, y2, y3, y4⟩ := M_due h'
  obtain ⟨hd, c', m'⟩ := FD_B h'
  obtain ⟨_, _, m''⟩ := FD_B h''
  obtain ⟨c1, c2, c3, c4, c5, c6, c7, c8, c9, c10, c11⟩ := c'
  obtain ⟨m1, m2, ⟨n', f', m3⟩, m4, m5, m6, m7⟩ := m'
  have hN := hd.1
  have l := M_lost hN m''.1 (fun i hi => (y4 i hi).2.1)
  have b := M_breaks hN m''.1 (fun i hi => ⟨(y4 i hi).2.2, by split; exact brk_le _ _; omega⟩)
  rw [zsum_last] at l b
  unfold fX6_count fX7_count
  rw [X_within, hw, p1]
  simp only [zv, zy1, zy2, zy3, if_neg one_ne, fX7_lostNow, fX7_breaksNow, p2, l, b, M_bins m3, M_all m4, M_ranked hN m1]
  obtain ⟨k, hk, rfl⟩ := w_of (n := 8) (by decide) hw
  rcases (show k = 0 ∨ k = 1 ∨ k = 2 ∨ k = 3 ∨ k = 4 ∨ k = 5 ∨ k = 6 ∨ k = 7 ∨ k = 8 by omega) with e | e | e | e | e | e | e | e | e <;> subst e
  · refine ⟨nI N, σ', τ, ?_, ?_, h'⟩
    · rw [if_pos (by decide), c1]
    · rw [if_pos (by decide), m1]
  · refine ⟨nI B, σ', τ, ?_, ?_, h'⟩
    · rw [if_neg (by decide), if_pos (by decide), c3]
    · rw [if_neg (by decide), if_pos (by decide)]
  · refine ⟨nI (zsum H 12), σ', τ, ?_, ?_, h'⟩
    · rw [if_neg (by decide), if_neg (by decide), if_pos (by decide), c5]
    · rw [if_neg (by decide), if_neg (by decide), if_pos (by decide)]
  · refine ⟨nI G, σ', τ, ?_, ?_, h'⟩
    · rw [if_neg (by decide), if_neg (by decide), if_neg (by decide), if_pos (by decide), c7]
    · rw [if_neg (by decide), if_neg (by decide), if_neg (by decide), if_pos (by decide), h'.1.2.2.2.2.1.2.1]
  · refine ⟨nI (zsum (fun k => dLost (qRef N T B S H P md) (dGap (qTop T B S H md) k)) (N - 1)), σ', τ', ?_, ?_, h''⟩
    · rw [if_neg (by decide), if_neg (by decide), if_neg (by decide), if_neg (by decide), if_pos (by decide), x6]
    · rw [if_neg (by decide), if_neg (by decide), if_neg (by decide), if_neg (by decide), if_pos (by decide)]
  · refine ⟨nI (zsum (fun k => dBrk (qRef N T B S H P md) (dGap (qTop T B S H md) k)) (N - 1)), σ', τ', ?_, ?_, h''⟩
    · rw [if_neg (by decide), if_neg (by decide), if_neg (by decide), if_neg (by decide), if_neg (by decide), if_pos (by decide), x7]
    · rw [if_neg (by decide), if_neg (by decide), if_neg (by decide), if_neg (by decide), if_neg (by decide), if_pos (by decide)]
  · refine ⟨nI (dSp N), σ', τ, ?_, ?_, h'⟩
    · rw [if_neg (by decide), if_neg (by decide), if_neg (by decide), if_neg (by decide), if_neg (by decide), if_neg (by decide), if_pos (by decide), x9]
    · rw [if_neg (by decide), if_neg (by decide), if_neg (by decide), if_neg (by decide), if_neg (by decide), if_neg (by decide), if_pos (by decide)]
  · refine ⟨zi σ' 0, σ', τ, ?_, ?_, h'⟩
    · rw [if_neg (by decide), if_neg (by decide), if_neg (by decide), if_neg (by decide), if_neg (by decide), if_neg (by decide), if_neg (by decide), if_pos (by decide)]
    · rw [if_neg (by decide), if_neg (by decide), if_neg (by decide), if_neg (by decide), if_neg (by decide), if_neg (by decide), if_neg (by decide), if_pos (by decide), h'.1.2.2.2.1.1]
  · refine ⟨zi σ' 3, σ', τ, ?_, ?_, h'⟩
    · rw [if_neg (by decide), if_neg (by decide), if_neg (by decide), if_neg (by decide), if_neg (by decide), if_neg (by decide), if_neg (by decide), if_neg (by decide)]
    · rw [if_neg (by decide), if_neg (by decide), if_neg (by decide), if_neg (by decide), if_neg (by decide), if_neg (by decide), if_neg (by decide), if_neg (by decide), if_pos (by decide), h'.1.2.2.2.2.2.2.1]
theorem ok_count_ : ok_count Rel := by
  intro σ τ w h
  obtain ⟨N, T, B, S, H, G, ga, gb, P, V, md, hf⟩ := Rel_FD h
  rcases zw01 w 0 8 with e2 | e2
  · refine ⟨-2, σ, τ, ?_, ?_, h⟩
    · unfold fX6_count
      rw [X_within, e2]
      rfl
    · have ne : ∀ k : Nat, k ≤ 8 → ¬ w = nI k := by
        intro k hk z
        have := zw_1 0 8 k (Nat.zero_le _) hk (by decide)
        have e3 : zw (nI k) 0 8 = 1 := this
        rw [← z, e2] at e3
        exact absurd e3 (by decide)
      have n0 : ¬ w = 0 := ne 0 (by decide)
      have n1 : ¬ w = 1 := ne 1 (by decide)
      have n2 : ¬ w = 2 := ne 2 (by decide)
      have n3 : ¬ w = 3 := ne 3 (by decide)
      have n4 : ¬ w = 4 := ne 4 (by decide)
      have n5 : ¬ w = 5 := ne 5 (by decide)
      have n6 : ¬ w = 6 := ne 6 (by decide)
      have n7 : ¬ w = 7 := ne 7 (by decide)
      have n8 : ¬ w = 8 := ne 8 (by decide)
      unfold fX7_count
      rw [if_neg n0, if_neg n1, if_neg n2, if_neg n3, if_neg n4, if_neg n5, if_neg n6, if_neg n7, if_neg n8]
  · obtain ⟨r, σ', τ', g1, g2, g3⟩ := countBoth hf e2
    exact ⟨r, σ', τ', g1, g2, FD_Rel g3⟩

def qSc (B : Nat) (H : Nat → Nat) (md : Nat) : Nat := dSc (dTk md (zsum H 12)) (zsum H 12) B
def qTop (T : Nat → Nat) (B : Nat) (S H : Nat → Nat) (md : Nat) : Nat → Nat := dTop (dTk md (zsum H 12)) (dSc (dTk md (zsum H 12)) (zsum H 12) B) B S H T
def qRef (N : Nat) (T : Nat → Nat) (B : Nat) (S H : Nat → Nat) (P md : Nat) : Nat := dRef P (qSc B H md) N (qTop T B S H md)
def FD (N : Nat) (T : Nat → Nat) (B : Nat) (S H : Nat → Nat) (G : Nat) (ga gb : Nat → Nat) (P V md : Nat) (σ τ : zS) : Prop := RelD N T B S H G ga gb P V σ τ ∧ modeV (zi σ 0) (za σ 0) = md
theorem FD_Rel {N : Nat} {T : Nat → Nat} {B : Nat} {S H : Nat → Nat} {G : Nat} {ga gb : Nat → Nat} {P V md : Nat} {σ τ : zS} (h : FD N T B S H G ga gb P V md σ τ) : Rel σ τ := ⟨N, T, B, S, H, G, ga, gb, P, V, h.1⟩
theorem Rel_FD {σ τ : zS} (h : Rel σ τ) : ∃ N T B S H G ga gb P V md, FD N T B S H G ga gb P V md σ τ := by
  obtain ⟨N, T, B, S, H, G, ga, gb, P, V, h⟩ := h
  exact ⟨N, T, B, S, H, G, ga, gb, P, V, _, h, rfl⟩
/-- the class's facts when nothing is due -/
def XD (N : Nat) (T : Nat → Nat) (B : Nat) (S H : Nat → Nat) (G : Nat) (ga gb : Nat → Nat) (P V md : Nat) (σ : zS) : Prop :=
  zi σ 4 = 0 ∧ zi σ 10 = nI (qSc B H md) ∧ (∀ i, i < N → zj σ 0 i = lN (qTop T B S H md i)) ∧ zl σ 0 = lN (qRef N T B S H P md) ∧ (∀ i, i < N → za σ 10 i = nI (dPlace V (qRef N T B S H P md) (qTop T B S H md) i)) ∧ (∀ i, i + 1 < N → za σ 8 i = nI (dLost (qRef N T B S H P md) (dGap (qTop T B S H md) i)) ∧ za σ 9 i = nI (dBrk (qRef N T B S H P md) (dGap (qTop T B S H md) i))) ∧ zi σ 11 = nI (zsum (fun k => dLost (qRef N T B S H P md) (dGap (qTop T B S H md) k)) (N - 1)) ∧ zi σ 12 = nI (zsum (fun k => dBrk (qRef N T B S H P md) (dGap (qTop T B S H md) k)) (N - 1)) ∧ (∀ g, g < G → za σ 6 g = dOp N T (ga g) ∧ za σ 7 g = dCl N T (ga g) (gb g)) ∧ zi σ 13 = nI (dSp N) ∧ (∀ m, 1 ≤ m → m ≤ dSp N → zj σ 2 m = Int64.ofInt (dSq (qTop T B S H md) N m) ∧ zj σ 3 m = lN (dWt N m)) ∧ ∀ k, k < dSp N → za σ 11 k = nI (rks (qTop T B S H md) N (dSp N) k)
theorem X_due {N : Nat} {T : Nat → Nat} {B : Nat} {S H : Nat → Nat} {G : Nat} {ga gb : Nat → Nat} {P V md : Nat} {σ τ : zS} (h : FD N T B S H G ga gb P V md σ τ) : ∃ σ', fX6_renew σ = some σ' ∧ FD N T B S H G ga gb P V md σ' τ ∧ XD N T B S H G ga gb P V md σ' := by
  obtain ⟨h, hm⟩ := h
  obtain ⟨σ', p, r, z, ok⟩ := X_renew h
  have e : modeV (zi σ' 0) (za σ' 0) = md := by
    have a := (RelMB h).2.2.2.2.2.2
    have b := (RelMB r).2.2.2.2.2.2
    rw [a] at b
    have c := Option.some.inj b
    have l1 := modeV_le (zi σ 0) (za σ 0)
    have l2 := modeV_le (zi σ' 0) (za σ' 0)
    have d := (nI_eq (by omega) (by omega)).mp c
    omega
  rw [hm] at ok
  obtain ⟨_, q2, q3, q4, q5, q6, q7, q8, q9, q10, q11, q12⟩ := ok
  exact ⟨σ', p, ⟨r, e⟩, z, q2, q3, q4, q5, q6, q7, q8, q9, q10, q11, q12⟩
def YD (N : Nat) (T : Nat → Nat) (B : Nat) (S H : Nat → Nat) (P V md : Nat) (τ : zS) : Prop :=
  zl τ 0 = lN (qSc B H md) ∧ (∀ i, i < N → zj τ 0 i = lN (qTop T B S H md i)) ∧ zl τ 1 = lN (qRef N T B S H P md) ∧ ∀ i, i < N → za τ 6 i = nI (dPlace V (qRef N T B S H P md) (qTop T B S H md) i) ∧ za τ 7 i = nI (if i + 1 < N then dLost (qRef N T B S H P md) (dGap (qTop T B S H md) i) else 0) ∧ za τ 8 i = nI (if i + 1 < N then dBrk (qRef N T B S H P md) (dGap (qTop T B S H md) i) else 0)
theorem M_due {N : Nat} {T : Nat → Nat} {B : Nat} {S H : Nat → Nat} {G : Nat} {ga gb : Nat → Nat} {P V md : Nat} {σ τ : zS} (h : FD N T B S H G ga gb P V md σ τ) : ∃ τ', fX7_finds τ = some τ' ∧ FD N T B S H G ga gb P V md σ τ' ∧ YD N T B S H P V md τ' := by
  obtain ⟨h, hm⟩ := h
  have mb := RelMB h
  have hmd := modeV_le (zi σ 0) (za σ 0)
  rw [hm] at mb hmd
  obtain ⟨τ', p, f, q⟩ := M_finds (RelDB h).1 mb hmd
  exact ⟨τ', p, ⟨RelM_Fr h f, hm⟩, q⟩
theorem FD_B {N : Nat} {T : Nat → Nat} {B : Nat} {S H : Nat → Nat} {G : Nat} {ga gb : Nat → Nat} {P V md : Nat} {σ τ : zS} (h : FD N T B S H G ga gb P V md σ τ) : DB N T B S H G ga gb P V ∧ CB N T B S H G ga gb P V md σ ∧ MB N T B S H P V md τ := by
  obtain ⟨h, hm⟩ := h
  have a := RelDB h
  have b := RelMB h
  rw [hm] at a b
  exact ⟨a.1, a.2, b⟩
theorem qB {N : Nat} {T : Nat → Nat} {B : Nat} {S H : Nat → Nat} {G : Nat} {ga gb : Nat → Nat} {P V : Nat} (md : Nat) (hd : DB N T B S H G ga gb P V) : 1 ≤ qSc B H md ∧ qSc B H md ≤ 400 ∧ qRef N T B S H P md < 2400001 ∧ (∀ i, i < N → qTop T B S H md i ≤ 2400000) ∧ ∀ i j, i ≤ j → j < N → qTop T B S H md i ≤ qTop T B S H md j := by
  have hs := sc_le (md := md) hd.2.2.2.1 hd.2.2.2.2.1 hd.2.2.2.2.2.2.2.2.1
  obtain ⟨tb, tm⟩ := DBtop (tk := dTk md (zsum H 12)) hd hs
  exact ⟨(sc_pos hd.2.2.2.1).1, hs, ref_lt hd.2.2.2.2.2.2.2.2.2.2.2.1 hs tb, tb, tm⟩
theorem zw_e {N i : Nat} (hN : N < 2 ^ 31) (h : i < N) : zw (nI i) 0 (nI N - 1) = 1 := by
  have e1 : nI N - 1 = nI (N - 1) := nI_sub (a := N) (b := 1) (by omega)
  rw [e1]
  exact zw_1 0 (N - 1) i (Nat.zero_le _) (by omega) (by omega)
theorem seenBoth {N : Nat} {T : Nat → Nat} {B : Nat} {S H : Nat → Nat} {G : Nat} {ga gb : Nat → Nat} {P V md i : Nat} {σ τ : zS} {w : Int32} (h : FD N T B S H G ga gb P V md σ τ) (hi : i < N) (hw : zw w 0 7 = 1) : ∃ r σ' τ', fX6_seen (nI i) w σ = some (r, σ') ∧ fX7_seenOf (nI i) w τ = some (r, τ') ∧ FD N T B S H G ga gb P V md σ' τ' := by
  obtain ⟨hd, hc, hm⟩ := FD_B h
  obtain ⟨hN, hT, hTm, hB, hB2, hS0, hS, hSm, hH, hG, hg, hP, hV⟩ := hd
  obtain ⟨σ', p1, h', x0, x1, x2, x3, x4, x5, x6, x7, x8, x9, x10, x11⟩ := X_due h
  obtain ⟨τ', p2, h'', y1, y2, y3, y4⟩ := M_due h'
  obtain ⟨_, c', _⟩ := FD_B h'
  obtain ⟨c1, c2, c3, c4, c5, c6, c7, c8, c9, c10, c11⟩ := c'
  obtain ⟨_, _, m'⟩ := FD_B h''
  obtain ⟨m1, m2, ⟨n', f', m3⟩, m4, m5, m6, m7⟩ := m'
  have hcl : (nI i).toNatClampNeg = i := nI_clamp (by omega)
  have hTi := hT i hi
  have hml := Nat.mod_lt (T i) (show 0 < 60 by decide)
  have hcod := (cod_spec (S := S) (x := T i % 60) B hB hS0 hSm).1
  have hcl2 : (nI (cod S B (T i % 60))).toNatClampNeg = cod S B (T i % 60) := nI_clamp (by omega)
  have hS' : ∀ k, k < B → za σ' 2 k = nI (S k) ∧ S k < 60 := fun k hk => ⟨c4 k hk, hS k hk⟩
  have ec : nI (T i) / 60 = nI (T i / 60) := nI_div (b := 60) (by omega) (by decide) (by decide)
  have ef : nI (T i) - nI (T i) / 60 * 60 = nI (T i % 60) := nI_mod (b := 60) (by omega) (by decide) (by decide)
  have Xc : fX5_coarseOf (nI i) σ' = some (nI (T i / 60)) := by
    unfold fX5_coarseOf
    rw [zgq (show i < 32 by omega), hcl, c2 i hi, ec]
  have Xf : fX5_fineOf (nI i) σ' = some (nI (T i % 60)) := by
    unfold fX5_fineOf
    rw [zgq (show i < 32 by omega), hcl, c2 i hi, ef]
  have Xk := X_code (σ := σ') c3 hB hB2 hS0 hS' hml
  have Xe := X_end (σ := σ') c3 hB2 hS' hcod
  have Mk := M_code (σ := τ') (m3.2.2.2.2.2.2.2 (T i % 60) hml).1 hml
  have M1 := M_first m3 (show cod S B (T i % 60) ≤ B by omega)
  have M2 := M_first m3 (show cod S B (T i % 60) + 1 ≤ B by omega)
  have eS : dFi S B (cod S B (T i % 60)) = S (cod S B (T i % 60)) := if_pos hcod
  rw [eS] at M1
  have s2 : 1 ≤ dFi S B (cod S B (T i % 60) + 1) := by
    unfold dFi
    split
    · next z => have := hSm (cod S B (T i % 60)) (cod S B (T i % 60) + 1) (by omega) z; omega
    · omega
  have k1 := hc.1
  have ce : zw (nI i) 0 (zi σ 5 - 1) = 1 := by rw [k1]; exact zw_e (by omega) hi
  have e60 : (60 : Int32) * nI (T i / 60) = nI (60 * (T i / 60)) := nI_mul 60 _
  have e61 : nI (T i / 60) * (60 : Int32) = nI (60 * (T i / 60)) := by
    have : nI (T i / 60) * (60 : Int32) = nI (T i / 60 * 60) := nI_mul _ 60
    rw [this, Nat.mul_comm]
  have lastX : fX6_isLastEdge (nI i) σ' = some (if i + 1 < N then 0 else 1) := by
    unfold fX6_isLastEdge
    have e1 : nI N - 1 = nI (N - 1) := nI_sub (a := N) (b := 1) (by omega)
    rw [c1, e1]
    by_cases z : i + 1 < N
    · rw [if_pos z, if_neg (fun w => by have := (nI_eq (by omega) (by omega)).mp w; omega)]
    · rw [if_neg z, if_pos (by rw [show i = N - 1 by omega])]
  unfold fX6_seen fX7_seenOf
  rw [X_isEdge, X_within, ce, hw, p1, p2]
  simp only [zv, zy1, zy2, zy3, if_neg one_ne]
  obtain ⟨k, _, hk, rfl, _⟩ := (zw_C (v := w) 0 7 (by decide) (by decide)).resolve_left (fun z => by
    have z' : zw w 0 7 = 0 := z
    rw [z'] at hw; exact absurd hw (by decide))
  rcases (show k = 0 ∨ k = 1 ∨ k = 2 ∨ k = 3 ∨ k = 4 ∨ k = 5 ∨ k = 6 ∨ k = 7 by omega) with e | e | e | e | e | e | e | e <;> subst e
  · refine ⟨nI (T i), σ', τ', ?_, ?_, h''⟩
    · rw [if_pos (by decide), zgq (show i < 32 by omega), hcl, c2 i hi]
    · rw [if_pos (by decide), zgq (show i < 32 by omega), hcl, m2 i hi]
  · refine ⟨nI (T i / 60), σ', τ', ?_, ?_, h''⟩
    · rw [if_neg (by decide), if_pos (by decide)]
      simp only [Xc]
    · rw [if_neg (by decide), if_pos (by decide), zgq (show i < 32 by omega), hcl, m2 i hi, ec]
  · refine ⟨nI (cod S B (T i % 60)), σ', τ', ?_, ?_, h''⟩
    · rw [if_neg (by decide), if_neg (by decide), if_pos (by decide)]
      simp only [Xf, Xk]
    · rw [if_neg (by decide), if_neg (by decide), if_pos (by decide), zgq (show i < 32 by omega), hcl, m2 i hi, ef]
      simp only [Mk]
  · refine ⟨nI (60 * (T i / 60) + S (cod S B (T i % 60))), σ', τ', ?_, ?_, h''⟩
    · rw [if_neg (by decide), if_neg (by decide), if_neg (by decide), if_pos (by decide)]
      simp only [fX6_leastBound, zv, zy1, zy2, zy3, Xc, Xf, Xk, zgq (show cod S B (T i % 60) < 12 by omega), hcl2, c4 _ hcod, e60, nI_add]
    · rw [if_neg (by decide), if_neg (by decide), if_neg (by decide), if_pos (by decide)]
      simp only [fX7_boundOf, zv, zy1, zy2, zy3, zgq (show i < 32 by omega), hcl, m2 i hi, ef, Mk, if_true, M1]
      rw [ec, e61, nI_add]
  · refine ⟨nI (60 * (T i / 60) + dFi S B (cod S B (T i % 60) + 1) - 1), σ', τ', ?_, ?_, h''⟩
    · rw [if_neg (by decide), if_neg (by decide), if_neg (by decide), if_neg (by decide), if_pos (by decide)]
      simp only [fX6_greatestBound, zv, zy1, zy2, zy3, Xc, Xf, Xk, Xe, e60, nI_add]
      rw [← nI_sub (b := 1) (by omega)]
      rfl
    · rw [if_neg (by decide), if_neg (by decide), if_neg (by decide), if_neg (by decide), if_pos (by decide)]
      simp only [fX7_boundOf, zv, zy1, zy2, zy3, zgq (show i < 32 by omega), hcl, m2 i hi, ef, Mk, if_neg one_ne, nI_1, M2]
      have e1 : nI (dFi S B (cod S B (T i % 60) + 1)) - 1 = nI (dFi S B (cod S B (T i % 60) + 1) - 1) := nI_sub (b := 1) s2
      rw [ec, e61, e1, nI_add]
      congr 3
      omega
  · refine ⟨nI (dPlace V (qRef N T B S H P md) (qTop T B S H md) i), σ', τ', ?_, ?_, h''⟩
    · rw [if_neg (by decide), if_neg (by decide), if_neg (by decide), if_neg (by decide), if_neg (by decide), if_pos (by decide), zgq (show i < 32 by omega), hcl, x4 i hi]
    · rw [if_neg (by decide), if_neg (by decide), if_neg (by decide), if_neg (by decide), if_neg (by decide), if_pos (by decide), zgq (show i < 32 by omega), hcl, (y4 i hi).1]
  · by_cases z : i + 1 < N
    · refine ⟨nI (dLost (qRef N T B S H P md) (dGap (qTop T B S H md) i)), σ', τ', ?_, ?_, h''⟩
      · rw [if_neg (by decide), if_neg (by decide), if_neg (by decide), if_neg (by decide), if_neg (by decide), if_neg (by decide), if_pos (by decide)]
        simp only [lastX, if_pos z, if_true, zgq (show i < 32 by omega), hcl, (x5 i z).1]
      · rw [if_neg (by decide), if_neg (by decide), if_neg (by decide), if_neg (by decide), if_neg (by decide), if_neg (by decide), if_pos (by decide), m1, nI_1, if_neg (nI_ge z (by omega)), zgq (show i < 32 by omega), hcl, (y4 i hi).2.1, if_pos z]
    · refine ⟨-1, σ', τ', ?_, ?_, h''⟩
      · rw [if_neg (by decide), if_neg (by decide), if_neg (by decide), if_neg (by decide), if_neg (by decide), if_neg (by decide), if_pos (by decide)]
        simp only [lastX, if_neg z, if_neg one_ne]
      · rw [if_neg (by decide), if_neg (by decide), if_neg (by decide), if_neg (by decide), if_neg (by decide), if_neg (by decide), if_pos (by decide), m1, nI_1, if_pos (nI_le (by omega) (by omega))]
  · have hbk := brk_le (qRef N T B S H P md) (dGap (qTop T B S H md) i)
    by_cases z : i + 1 < N
    · by_cases b0 : dBrk (qRef N T B S H P md) (dGap (qTop T B S H md) i) = 0
      · have b1 : za σ' 9 i = 0 := by rw [(x5 i z).2, b0]; decide
        have b2 : za τ' 8 i = 0 := by rw [(y4 i hi).2.2, if_pos z, b0]; decide
        refine ⟨0, σ', τ', ?_, ?_, h''⟩
        · rw [if_neg (by decide), if_neg (by decide), if_neg (by decide), if_neg (by decide), if_neg (by decide), if_neg (by decide), if_neg (by decide)]
          simp only [lastX, if_pos z, if_true, zgq (show i < 32 by omega), hcl, if_pos b1]
        · rw [if_neg (by decide), if_neg (by decide), if_neg (by decide), if_neg (by decide), if_neg (by decide), if_neg (by decide), if_neg (by decide)]
          simp only [zgq (show i < 32 by omega), hcl, if_pos b2]
      · have e1 : dBrk (qRef N T B S H P md) (dGap (qTop T B S H md) i) = 1 := by omega
        have b1 : ¬ za σ' 9 i = 0 := by rw [(x5 i z).2, e1]; decide
        have b2 : ¬ za τ' 8 i = 0 := by rw [(y4 i hi).2.2, if_pos z, e1]; decide
        refine ⟨1, σ', τ', ?_, ?_, h''⟩
        · rw [if_neg (by decide), if_neg (by decide), if_neg (by decide), if_neg (by decide), if_neg (by decide), if_neg (by decide), if_neg (by decide)]
          simp only [lastX, if_pos z, if_true, zgq (show i < 32 by omega), hcl, if_neg b1]
        · rw [if_neg (by decide), if_neg (by decide), if_neg (by decide), if_neg (by decide), if_neg (by decide), if_neg (by decide), if_neg (by decide)]
          simp only [zgq (show i < 32 by omega), hcl, if_neg b2]
    · have b2 : za τ' 8 i = 0 := by rw [(y4 i hi).2.2, if_neg z]; decide
      refine ⟨0, σ', τ', ?_, ?_, h''⟩
      · rw [if_neg (by decide), if_neg (by decide), if_neg (by decide), if_neg (by decide), if_neg (by decide), if_neg (by decide), if_neg (by decide)]
        simp only [lastX, if_neg z, if_neg one_ne]
      · rw [if_neg (by decide), if_neg (by decide), if_neg (by decide), if_neg (by decide), if_neg (by decide), if_neg (by decide), if_neg (by decide)]
        simp only [zgq (show i < 32 by omega), hcl, if_pos b2]
theorem ok_seen_ : ok_seen Rel := by
  intro σ τ v w h
  obtain ⟨N, T, B, S, H, G, ga, gb, P, V, md, hf⟩ := Rel_FD h
  obtain ⟨hd, hc, hm⟩ := FD_B hf
  have hN := hd.1
  rcases zw_N (v := v) N (by omega) with e | ⟨i, hi, rfl, e⟩
  · refine ⟨-2, σ, τ, ?_, ?_, h⟩
    · unfold fX6_seen
      rw [X_isEdge, hc.1, e]
      rfl
    · unfold fX7_seen
      rw [M_isEdge, hm.1, e]
      rfl
  · rcases zw01 w 0 7 with e2 | e2
    · refine ⟨-2, σ, τ, ?_, ?_, h⟩
      · unfold fX6_seen
        rw [X_isEdge, hc.1, e, X_within, e2]
        rfl
      · unfold fX7_seen
        rw [M_isEdge, hm.1, e, M_in, e2]
        rfl
    · obtain ⟨r, σ', τ', g1, g2, g3⟩ := seenBoth hf hi e2
      refine ⟨r, σ', τ', g1, ?_, FD_Rel g3⟩
      unfold fX7_seen
      rw [M_isEdge, hm.1, e, M_in, e2, g2]
      rfl
theorem stampBoth {N : Nat} {T : Nat → Nat} {B : Nat} {S H : Nat → Nat} {G : Nat} {ga gb : Nat → Nat} {P V md i : Nat} {σ τ : zS} {w : Int32} (h : FD N T B S H G ga gb P V md σ τ) (hi : i < N) (hw : zw w 0 1 = 1) : ∃ r σ' τ', fX6_stamp (nI i) w σ = some (r, σ') ∧ fX7_stampOf (nI i) w τ = some (r, τ') ∧ FD N T B S H G ga gb P V md σ' τ' := by
  obtain ⟨hd, hc, hm⟩ := FD_B h
  obtain ⟨b1, b2, b3, b4, b5⟩ := qB md hd
  have hN := hd.1
  obtain ⟨σ', p1, h', x0, x1, x2, x3, x4, x5, x6, x7, x8, x9, x10, x11⟩ := X_due h
  obtain ⟨τ', p2, h'', y1, y2, y3, y4⟩ := M_due h'
  have hcl : (nI i).toNatClampNeg = i := nI_clamp (by omega)
  have ce : zw (nI i) 0 (zi σ 5 - 1) = 1 := by rw [hc.1]; exact zw_e (by omega) hi
  have t := b4 i hi
  refine ⟨lN (lowN (qTop T B S H md i) (qSc B H md) w), σ', τ', ?_, ?_, h''⟩
  · unfold fX6_stamp
    rw [X_isEdge, ce, X_isHalf, hw, p1]
    simp only [zv, zy1, zy2, zy3, if_neg one_ne, zgq (show i < 32 by omega), hcl, x2 i hi, x1, nI_l (show qSc B H md < 2 ^ 31 by omega), X_low (show qTop T B S H md i < 2 ^ 63 by omega) (show qSc B H md < 2 ^ 63 by omega) b1]
  · unfold fX7_stampOf
    rw [p2]
    simp only [zv, zy1, zy2, zy3, zgq (show i < 32 by omega), hcl, y2 i hi, y1, M_low (show qTop T B S H md i < 2 ^ 63 by omega) (show qSc B H md < 2 ^ 63 by omega) b1]
theorem ok_stamp_ : ok_stamp Rel := by
  intro σ τ v w h
  obtain ⟨N, T, B, S, H, G, ga, gb, P, V, md, hf⟩ := Rel_FD h
  obtain ⟨hd, hc, hm⟩ := FD_B hf
  have hN := hd.1
  rcases zw_N (v := v) N (by omega) with e | ⟨i, hi, rfl, e⟩
  · refine ⟨(-9223372036854775808 : Int64) - (-2 : Int32).toInt64, σ, τ, ?_, ?_, h⟩
    · unfold fX6_stamp
      rw [X_isEdge, hc.1, e]
      rfl
    · unfold fX7_stamp
      rw [M_isEdge, hm.1, e]
      rfl
  · rcases zw01 w 0 1 with e2 | e2
    · refine ⟨(-9223372036854775808 : Int64) - (-2 : Int32).toInt64, σ, τ, ?_, ?_, h⟩
      · unfold fX6_stamp
        rw [X_isEdge, hc.1, e, X_isHalf, e2]
        rfl
      · unfold fX7_stamp
        rw [M_isEdge, hm.1, e, M_in, e2]
        rfl
    · obtain ⟨r, σ', τ', g1, g2, g3⟩ := stampBoth hf hi e2
      refine ⟨r, σ', τ', g1, ?_, FD_Rel g3⟩
      unfold fX7_stamp
      rw [M_isEdge, hm.1, e, M_in, e2, g2]
      rfl
theorem refBoth {N : Nat} {T : Nat → Nat} {B : Nat} {S H : Nat → Nat} {G : Nat} {ga gb : Nat → Nat} {P V md : Nat} {σ τ : zS} {w : Int32} (h : FD N T B S H G ga gb P V md σ τ) (hw : zw w 0 1 = 1) : ∃ r σ' τ', fX6_reference w σ = some (r, σ') ∧ fX7_referenceOf w τ = some (r, τ') ∧ FD N T B S H G ga gb P V md σ' τ' := by
  obtain ⟨hd, hc, hm⟩ := FD_B h
  obtain ⟨b1, b2, b3, b4, b5⟩ := qB md hd
  have hN := hd.1
  have hP := hd.2.2.2.2.2.2.2.2.2.2.2.1
  obtain ⟨σ', p1, h', x0, x1, x2, x3, x4, x5, x6, x7, x8, x9, x10, x11⟩ := X_due h
  obtain ⟨τ', p2, h'', y1, y2, y3, y4⟩ := M_due h'
  obtain ⟨_, _, m'⟩ := FD_B h''
  have k1 := hc.1
  have k2 := hc.2.2.2.2.2.2.2.2.1
  have l1 := m'.1
  have l2 := m'.2.2.2.2.1
  unfold fX6_reference fX7_referenceOf
  rw [X_isHalf, hw, p1, p2, k1, k2]
  by_cases c : P = 0 ∧ N < 2
  · obtain ⟨ca, cb⟩ := c
    have c1 : nI P = 0 := by rw [ca]; decide
    have c2 : ¬ 2 ≤ nI N := nI_ge (b := 2) cb (by decide)
    obtain ⟨τ2, u1, u2, _⟩ := M_due h
    rw [u1] at p2
    cases p2
    refine ⟨(-9223372036854775808 : Int64) - (-3 : Int32).toInt64, σ, τ', ?_, ?_, u2⟩
    · simp only [zv, zy1, zy2, zy3, if_neg one_ne, if_pos c1, if_neg c2, X_refuse]
    · simp only [zv, zy1, zy2, zy3, l1, l2, if_pos c1, if_neg c2, M_no]
  · refine ⟨lN (lowN (qRef N T B S H P md) (qSc B H md) w), σ', τ', ?_, ?_, h''⟩
    · simp only [zv, zy1, zy2, zy3, if_neg one_ne, x3, x1, nI_l (show qSc B H md < 2 ^ 31 by omega), X_low (show qRef N T B S H P md < 2 ^ 63 by omega) (show qSc B H md < 2 ^ 63 by omega) b1]
      by_cases c1 : P = 0
      · have c2 : 2 ≤ nI N := nI_le (a := 2) (by omega) (by omega)
        rw [if_pos (by rw [c1]; decide), if_pos c2]
      · rw [if_neg (nI_ne0 (by omega) (by omega))]
    · simp only [zv, zy1, zy2, zy3, l1, l2, y3, y1, M_low (show qRef N T B S H P md < 2 ^ 63 by omega) (show qSc B H md < 2 ^ 63 by omega) b1]
      by_cases c1 : P = 0
      · have c2 : 2 ≤ nI N := nI_le (a := 2) (by omega) (by omega)
        rw [if_pos (by rw [c1]; decide), if_pos c2]
      · rw [if_neg (nI_ne0 (by omega) (by omega))]
theorem ok_reference_ : ok_reference Rel := by
  intro σ τ w h
  obtain ⟨N, T, B, S, H, G, ga, gb, P, V, md, hf⟩ := Rel_FD h
  rcases zw01 w 0 1 with e2 | e2
  · refine ⟨(-9223372036854775808 : Int64) - (-2 : Int32).toInt64, σ, τ, ?_, ?_, h⟩
    · unfold fX6_reference
      rw [X_isHalf, e2]
      rfl
    · unfold fX7_reference
      rw [M_in, e2]
      rfl
  · obtain ⟨r, σ', τ', g1, g2, g3⟩ := refBoth hf e2
    refine ⟨r, σ', τ', g1, ?_, FD_Rel g3⟩
    unfold fX7_reference
    rw [M_in, e2, g2]
    rfl

-- the parts of a state that a stage may write
def Fr (I L A J : List Nat) (σ σ' : zS) : Prop := (∀ j, j ∉ I → zi σ' j = zi σ j) ∧ (∀ j, j ∉ L → zl σ' j = zl σ j) ∧ (∀ j, j ∉ A → za σ' j = za σ j) ∧ (∀ j, j ∉ J → zj σ' j = zj σ j) ∧ zd σ' = zd σ
theorem Fr_r {I L A J : List Nat} (σ : zS) : Fr I L A J σ σ := ⟨fun _ _ => rfl, fun _ _ => rfl, fun _ _ => rfl, fun _ _ => rfl, rfl⟩
theorem Fr_t {I L A J : List Nat} {σ ρ τ : zS} (h : Fr I L A J σ ρ) (g : Fr I L A J ρ τ) : Fr I L A J σ τ :=
  ⟨fun j q => (g.1 j q).trans (h.1 j q), fun j q => (g.2.1 j q).trans (h.2.1 j q), fun j q => (g.2.2.1 j q).trans (h.2.2.1 j q), fun j q => (g.2.2.2.1 j q).trans (h.2.2.2.1 j q), g.2.2.2.2.trans h.2.2.2.2⟩
theorem Fr_m {I L A J I' L' A' J' : List Nat} {σ ρ : zS} (h : Fr I L A J σ ρ) (hI : ∀ j, j ∈ I → j ∈ I') (hL : ∀ j, j ∈ L → j ∈ L') (hA : ∀ j, j ∈ A → j ∈ A') (hJ : ∀ j, j ∈ J → j ∈ J') : Fr I' L' A' J' σ ρ :=
  ⟨fun j q => h.1 j (fun z => q (hI j z)), fun j q => h.2.1 j (fun z => q (hL j z)), fun j q => h.2.2.1 j (fun z => q (hA j z)), fun j q => h.2.2.2.1 j (fun z => q (hJ j z)), h.2.2.2.2⟩
theorem Fr_wi {I L A J : List Nat} {σ ρ : zS} {k : Nat} {v : Int32} (h : Fr I L A J σ ρ) (hk : k ∈ I) : Fr I L A J σ (wi ρ k v) :=
  ⟨fun j q => by rw [zi_wi, if_neg (fun (z : j = k) => q (by rw [z]; exact hk))]; exact h.1 j q, h.2.1, h.2.2.1, h.2.2.2.1, h.2.2.2.2⟩
theorem Fr_wl {I L A J : List Nat} {σ ρ : zS} {k : Nat} {v : Int64} (h : Fr I L A J σ ρ) (hk : k ∈ L) : Fr I L A J σ (wl ρ k v) :=
  ⟨h.1, fun j q => by rw [zl_wl, if_neg (fun (z : j = k) => q (by rw [z]; exact hk))]; exact h.2.1 j q, h.2.2.1, h.2.2.2.1, h.2.2.2.2⟩
theorem Fr_wa {I L A J : List Nat} {σ ρ : zS} {k i : Nat} {v : Int32} (h : Fr I L A J σ ρ) (hk : k ∈ A) : Fr I L A J σ (wa ρ k i v) :=
  ⟨h.1, h.2.1, fun j q => by rw [za_wa, if_neg (fun (z : j = k) => q (by rw [z]; exact hk))]; exact h.2.2.1 j q, h.2.2.2.1, h.2.2.2.2⟩
theorem Fr_wj {I L A J : List Nat} {σ ρ : zS} {k i : Nat} {v : Int64} (h : Fr I L A J σ ρ) (hk : k ∈ J) : Fr I L A J σ (wj ρ k i v) :=
  ⟨h.1, h.2.1, h.2.2.1, fun j q => by rw [zj_wj, if_neg (fun (z : j = k) => q (by rw [z]; exact hk))]; exact h.2.2.2.1 j q, h.2.2.2.2⟩
-- what the numbers keep to
def DB (N : Nat) (T : Nat → Nat) (B : Nat) (S H : Nat → Nat) (G : Nat) (ga gb : Nat → Nat) (P V : Nat) : Prop :=
  N ≤ 32 ∧ (∀ k, k < N → T k < 6000) ∧ (∀ i j, i < j → j < N → T i < T j) ∧ 1 ≤ B ∧ B ≤ 12 ∧ S 0 = 0 ∧ (∀ k, k < B → S k < 60) ∧ (∀ i j, i < j → j < B → S i < S j) ∧ zsum H 12 ≤ 400 ∧ G ≤ 8 ∧ (∀ k, k < G → ga k < gb k ∧ gb k < 6000) ∧ P ≤ 600 ∧ V ≤ 1
-- the class's own
def CB (N : Nat) (T : Nat → Nat) (B : Nat) (S H : Nat → Nat) (G : Nat) (ga gb : Nat → Nat) (P V md : Nat) (σ : zS) : Prop :=
  zi σ 5 = nI N ∧ (∀ k, k < N → za σ 1 k = nI (T k)) ∧ zi σ 6 = nI B ∧ (∀ k, k < B → za σ 2 k = nI (S k)) ∧ zi σ 7 = nI (zsum H 12) ∧ (∀ k, k < 12 → za σ 3 k = nI (H k)) ∧ zi σ 8 = nI G ∧ (∀ k, k < G → za σ 4 k = nI (ga k) ∧ za σ 5 k = nI (gb k)) ∧ zi σ 1 = nI P ∧ zi σ 2 = nI V ∧ fX6_mode σ = some (nI md)
theorem mode_any {σ ρ : zS} (h0 : zi ρ 0 = zi σ 0) (ha : za ρ 0 = za σ 0) : fX6_mode ρ = fX6_mode σ := by
  have e1 : ∀ t n i, fX6_modeReads_15 t ρ n i = fX6_modeReads_15 t σ n i := by
    intro t n
    induction n with
    | zero => intro i; rfl
    | succ n ih => intro i; unfold fX6_modeReads_15; rw [h0, ha]; simp only [ih]
  have e2 : ∀ t, fX6_modeReads t ρ = fX6_modeReads t σ := by
    intro t
    unfold fX6_modeReads
    rw [h0]; simp only [e1]
  unfold fX6_mode
  simp only [e2]
theorem CB_Fr {N : Nat} {T : Nat → Nat} {B : Nat} {S H : Nat → Nat} {G : Nat} {ga gb : Nat → Nat} {P V md : Nat} {I L A J : List Nat} {σ ρ : zS} (h : CB N T B S H G ga gb P V md σ) (f : Fr I L A J σ ρ) (hI : ∀ j, j ∈ [0, 1, 2, 5, 6, 7, 8] → j ∉ I) (hA : ∀ j, j ∈ [0, 1, 2, 3, 4, 5] → j ∉ A) : CB N T B S H G ga gb P V md ρ := by
  unfold CB
  rw [f.1 5 (hI 5 (by decide)), f.1 6 (hI 6 (by decide)), f.1 7 (hI 7 (by decide)), f.1 8 (hI 8 (by decide)), f.1 1 (hI 1 (by decide)), f.1 2 (hI 2 (by decide)), f.2.2.1 1 (hA 1 (by decide)), f.2.2.1 2 (hA 2 (by decide)), f.2.2.1 3 (hA 3 (by decide)), f.2.2.1 4 (hA 4 (by decide)), f.2.2.1 5 (hA 5 (by decide)), mode_any (f.1 0 (hI 0 (by decide))) (f.2.2.1 0 (hA 0 (by decide)))]
  exact h
theorem zsum_mono {H : Nat → Nat} {a : Nat} : ∀ b, a ≤ b → zsum H a ≤ zsum H b := by
  intro b
  induction b with
  | zero => intro h; rw [show a = 0 by omega]; omega
  | succ n ih =>
    intro h
    by_cases c : a = n + 1
    · rw [c]; omega
    · have := ih (by omega)
      show _ ≤ zsum H n + H n
      omega
-- the marks
theorem cod_mono {S : Nat → Nat} {B x y : Nat} (hB : 1 ≤ B) (h0 : S 0 = 0) (hm : ∀ i j, i < j → j < B → S i < S j) (h : x ≤ y) : cod S B x ≤ cod S B y := by
  obtain ⟨a1, a2, a3⟩ := cod_spec (S := S) (x := x) B hB h0 hm
  obtain ⟨b1, b2, b3⟩ := cod_spec (S := S) (x := y) B hB h0 hm
  apply Nat.le_of_not_lt
  intro z
  have := b3 (cod S B x) z a1
  omega
theorem sc_pos {md tot B : Nat} (hB : 1 ≤ B) : 1 ≤ dSc (dTk md tot) tot B ∧ (dSc (dTk md tot) tot B ≤ 12 ∨ dSc (dTk md tot) tot B ≤ tot ∨ dSc (dTk md tot) tot B ≤ B) := by
  unfold dSc dTk
  by_cases c : md = 1 ∧ tot = 0
  · rw [if_pos c, if_neg (by omega), if_neg (by omega)]; omega
  · rw [if_neg c]
    by_cases c2 : md = 2
    · rw [if_pos c2]; omega
    · rw [if_neg c2]
      by_cases c3 : md = 1
      · rw [if_pos c3]; omega
      · rw [if_neg c3]; omega
theorem mid_le {tk tot B c : Nat} {S H : Nat → Nat} (hS : ∀ k, k < B → S k < 60) (ht : tot = zsum H 12) (hB2 : B ≤ 12) (hc : c < B) : dMid tk B S H c ≤ 60 * dSc tk tot B := by
  unfold dMid dSc
  by_cases c2 : tk = 2
  · rw [if_pos c2, if_pos c2]
    have := hS c hc
    unfold dEnd
    split
    · next h => have := hS (c + 1) h; omega
    · omega
  · rw [if_neg c2, if_neg c2]
    by_cases c3 : tk = 1
    · rw [if_pos c3, if_pos c3]
      have h1 : zsum H (c + 1) ≤ zsum H 12 := zsum_mono 12 (by omega)
      have h2 : zsum H (c + 1) = zsum H c + H c := rfl
      omega
    · rw [if_neg c3, if_neg c3]; omega
theorem mid_mono {tk B c d : Nat} {S H : Nat → Nat} (hS : ∀ k, k < B → S k < 60) (hm : ∀ i j, i < j → j < B → S i < S j) (h : c ≤ d) (hd : d < B) : dMid tk B S H c ≤ dMid tk B S H d := by
  by_cases e : c = d
  · rw [e]; omega
  unfold dMid
  by_cases c2 : tk = 2
  · rw [if_pos c2, if_pos c2]
    have h1 := hm c d (by omega) hd
    unfold dEnd
    rw [if_pos (by omega)]
    split
    · next z => have := hm (c + 1) (d + 1) (by omega) z; omega
    · have := hS (c + 1) (by omega); omega
  · rw [if_neg c2, if_neg c2]
    by_cases c3 : tk = 1
    · rw [if_pos c3, if_pos c3]
      have h1 : zsum H (c + 1) ≤ zsum H d := zsum_mono d (by omega)
      have h2 : zsum H (c + 1) = zsum H c + H c := rfl
      omega
    · rw [if_neg c3, if_neg c3]; omega
theorem sc_le {md B : Nat} {H : Nat → Nat} (hB : 1 ≤ B) (hB2 : B ≤ 12) (ht : zsum H 12 ≤ 400) : dSc (dTk md (zsum H 12)) (zsum H 12) B ≤ 400 := by
  have := (sc_pos (md := md) (tot := zsum H 12) hB).2
  omega
theorem top_lt {tk sc B i : Nat} {S H T : Nat → Nat} (hB : 1 ≤ B) (hB2 : B ≤ 12) (h0 : S 0 = 0) (hS : ∀ k, k < B → S k < 60) (hm : ∀ i j, i < j → j < B → S i < S j) (hsc : sc = dSc tk (zsum H 12) B) (hs : sc ≤ 400) (hT : T i < 6000) : dTop tk sc B S H T i ≤ 2400000 := by
  unfold dTop
  have h1 := (cod_spec (S := S) (x := T i % 60) B hB h0 hm).1
  have h2 := mid_le (tk := tk) (tot := zsum H 12) (S := S) (H := H) hS rfl hB2 h1
  rw [← hsc] at h2
  have h3 : T i / 60 * 60 * sc ≤ 99 * 60 * sc := Nat.mul_le_mul_right _ (by omega)
  omega
theorem top_mono {tk sc B i j : Nat} {S H T : Nat → Nat} (hB : 1 ≤ B) (hB2 : B ≤ 12) (h0 : S 0 = 0) (hS : ∀ k, k < B → S k < 60) (hm : ∀ i j, i < j → j < B → S i < S j) (hsc : sc = dSc tk (zsum H 12) B) (hT : T i ≤ T j) : dTop tk sc B S H T i ≤ dTop tk sc B S H T j := by
  unfold dTop
  have h1 := (cod_spec (S := S) (x := T i % 60) B hB h0 hm).1
  have h1' := (cod_spec (S := S) (x := T j % 60) B hB h0 hm).1
  have h2 := mid_le (tk := tk) (tot := zsum H 12) (S := S) (H := H) hS rfl hB2 h1
  rw [← hsc] at h2
  by_cases c : T i / 60 = T j / 60
  · rw [c]
    have h3 : cod S B (T i % 60) ≤ cod S B (T j % 60) := cod_mono hB h0 hm (by omega)
    have h4 := mid_mono (tk := tk) (H := H) hS hm h3 h1'
    omega
  · have h3 : (T i / 60 + 1) * 60 * sc ≤ T j / 60 * 60 * sc := Nat.mul_le_mul_right _ (by omega)
    have h4 : (T i / 60 + 1) * 60 * sc = T i / 60 * 60 * sc + 60 * sc := by
      rw [Nat.add_mul, Nat.add_mul]
    omega
-- the class's stamps
theorem X_below {σ : zS} {c : Nat} {H : Nat → Nat} (hH : ∀ k, k < 12 → za σ 3 k = nI (H k)) (hc : c ≤ 12) : fX0_hitsBelow (nI c) σ = some (nI (zsum H c)) := by
  have loop : ∀ n i, i ≤ c → c < i + n → fX0_hitsBelow_4 (nI c) σ n (nI (zsum H i)) (nI i) = some (nI (zsum H c)) := by
    intro n
    induction n with
    | zero => intro i h1 h2; omega
    | succ n ih =>
      intro i h1 h2
      rw [fX0_hitsBelow_4]
      by_cases q : c ≤ i
      · rw [if_pos (nI_le q (by omega)), show i = c by omega]
      · rw [if_neg (nI_ge (by omega) (by omega)), zgq (show i < 12 by omega), nI_clamp (by omega), hH i (by omega), nI_add]
        simp only [zv, nI_1]
        exact ih (i + 1) (by omega) (by omega)
  have e := loop 500 0 (by omega) (by omega)
  unfold fX0_hitsBelow
  have z0 : nI (zsum H 0) = 0 := nI_0
  rw [z0, nI_0] at e
  simp only [zy1, e]
theorem X_mid {σ : zS} {B c tk : Nat} {S H : Nat → Nat} (h6 : zi σ 6 = nI B) (hB2 : B ≤ 12) (hS : ∀ k, k < B → za σ 2 k = nI (S k) ∧ S k < 60) (hH : ∀ k, k < 12 → za σ 3 k = nI (H k)) (hc : c < B) (ht : tk ≤ 2) : fX2_middleOf (nI c) (nI tk) σ = some (nI (dMid tk B S H c)) := by
  unfold fX2_middleOf dMid
  have hcl : (nI c).toNatClampNeg = c := nI_clamp (by omega)
  rcases (show tk = 0 ∨ tk = 1 ∨ tk = 2 by omega) with e | e | e
  · subst e
    have n2 : ¬ nI 0 = 2 := by decide
    have n1 : ¬ nI 0 = 1 := by decide
    rw [if_neg n2, if_neg n1, if_neg (by omega), if_neg (by omega)]
    show some (30 * (2 * nI c + 1)) = _
    have : (30 : Int32) * (2 * nI c + 1) = nI 30 * (nI 2 * nI c + nI 1) := rfl
    rw [this, nI_mul, nI_add, nI_mul]
    congr 2; omega
  · subst e
    have n2 : ¬ nI 1 = 2 := by decide
    have n1 : nI 1 = 1 := by decide
    rw [if_neg n2, if_pos n1, if_neg (by omega), if_pos rfl, X_below hH (by omega)]
    simp only [zy1, zgq (show c < 12 by omega), hcl, hH c (by omega)]
    have : (30 : Int32) * (2 * nI (zsum H c) + nI (H c)) = nI 30 * (nI 2 * nI (zsum H c) + nI (H c)) := rfl
    rw [this, nI_mul, nI_add, nI_mul]
    congr 2; omega
  · subst e
    have n2 : nI 2 = 2 := by decide
    rw [if_pos n2, if_pos rfl, X_end h6 hB2 hS hc]
    simp only [zy1, zgq (show c < 12 by omega), hcl, (hS c hc).1]
    show some (nI (S c) + nI (dEnd S B c)) = _
    rw [nI_add]
theorem mid_lt {tk B c : Nat} {S H : Nat → Nat} (hS : ∀ k, k < B → S k < 60) (ht : zsum H 12 ≤ 400) (hB2 : B ≤ 12) (hc : c < B) : dMid tk B S H c ≤ 24000 := by
  have h := mid_le (tk := tk) (tot := zsum H 12) (S := S) (H := H) hS rfl hB2 hc
  have : dSc tk (zsum H 12) B ≤ 400 := by
    unfold dSc
    split
    · omega
    · split <;> omega
  omega
theorem X_tops {N : Nat} {T : Nat → Nat} {B : Nat} {S H : Nat → Nat} {G : Nat} {ga gb : Nat → Nat} {P V md sc tk : Nat} {σ : zS} (hd : DB N T B S H G ga gb P V) (hc : CB N T B S H G ga gb P V md σ) (ht : tk ≤ 2) (hsc : sc ≤ 400) (h9 : zi σ 9 = nI N) (h10 : zi σ 10 = nI sc) : ∃ σ', fX2_renewStamps_61 (nI tk) 500 0 σ = some σ' ∧ Fr [] [] [] [0] σ σ' ∧ ∀ i, i < N → zj σ' 0 i = lN (dTop tk sc B S H T i) := by
  obtain ⟨hN, hT, hTm, hB, hB2, hS0, hS, hSm, hH, hG, hg, hP, hV⟩ := hd
  have loop : ∀ n j ρ, j ≤ N → N < j + n → Fr [] [] [] [0] σ ρ → (∀ i, i < j → zj ρ 0 i = lN (dTop tk sc B S H T i)) → ∃ σ', fX2_renewStamps_61 (nI tk) n (nI j) ρ = some σ' ∧ Fr [] [] [] [0] σ σ' ∧ ∀ i, i < N → zj σ' 0 i = lN (dTop tk sc B S H T i) := by
    intro n
    induction n with
    | zero => intro j ρ h1 h2; omega
    | succ n ih =>
      intro j ρ h1 h2 fr hi
      rw [fX2_renewStamps_61, fr.1 9 (by decide), h9]
      by_cases q : N ≤ j
      · rw [if_pos (nI_le q (by omega))]
        exact ⟨ρ, rfl, fr, fun i hi' => hi i (by omega)⟩
      · obtain ⟨c1, c2, c3, c4, c5, c6, c7, c8, c9, c10, c11⟩ := CB_Fr hc fr (by decide) (by decide)
        have hcl : (nI j).toNatClampNeg = j := nI_clamp (by omega)
        have hTj := hT j (by omega)
        have ef : fX5_fineOf (nI j) ρ = some (nI (T j % 60)) := by
          unfold fX5_fineOf
          rw [zgq (show j < 32 by omega), hcl, c2 j (by omega)]
          exact congrArg some (nI_mod (b := 60) (by omega) (by decide) (by decide))
        have ec : fX5_coarseOf (nI j) ρ = some (nI (T j / 60)) := by
          unfold fX5_coarseOf
          rw [zgq (show j < 32 by omega), hcl, c2 j (by omega)]
          exact congrArg some (nI_div (b := 60) (by omega) (by decide) (by decide))
        have hS' : ∀ k, k < B → za ρ 2 k = nI (S k) ∧ S k < 60 := fun k hk => ⟨c4 k hk, hS k hk⟩
        have hcod := (cod_spec (S := S) (x := T j % 60) B hB hS0 hSm).1
        have hml := mid_lt (tk := tk) (S := S) (H := H) hS hH hB2 hcod
        have ex : (60 : Int64) * (nI (T j / 60)).toInt64 * (nI sc).toInt64 + (nI (dMid tk B S H (cod S B (T j % 60)))).toInt64 = lN (dTop tk sc B S H T j) := by
          rw [nI_l (by omega), nI_l (by omega), nI_l (by omega)]
          show lN 60 * _ * _ + _ = _
          rw [lN_mul, lN_mul, lN_add]
          unfold dTop
          congr 2
          rw [Nat.mul_comm 60]
        simp only [zv, zy1, zy2, zy3, if_neg (nI_ge (show j < N by omega) (show N < 2 ^ 31 by omega)), ef, ec, X_code c3 hB hB2 hS0 hS' (Nat.mod_lt (T j) (by decide)), X_mid c3 hB2 hS' c6 hcod ht, zgq (show j < 32 by omega), hcl, fr.1 10 (by decide), h10, ex, nI_1]
        refine ih (j + 1) _ (by omega) (by omega) (Fr_wj fr (by decide)) (fun i hi' => ?_)
        show vp_updL (zj ρ 0) j _ i = _
        by_cases z : i = j
        · rw [z, updL_s]
        · rw [updL_n z]
          exact hi i (by omega)
  have e := loop 500 0 σ (by omega) (by omega) (Fr_r σ) (fun i hi => by omega)
  rw [nI_0] at e
  exact e
theorem dTk_le {md tot : Nat} (h : md ≤ 2) : dTk md tot ≤ 2 := by
  unfold dTk
  split <;> omega
theorem X_stamps {N : Nat} {T : Nat → Nat} {B : Nat} {S H : Nat → Nat} {G : Nat} {ga gb : Nat → Nat} {P V md : Nat} {σ : zS} (hd : DB N T B S H G ga gb P V) (hc : CB N T B S H G ga gb P V md σ) (hmd : md ≤ 2) : ∃ σ', fX2_renewStamps (nI md) σ = some σ' ∧ Fr [9, 10] [] [] [0] σ σ' ∧ zi σ' 9 = nI N ∧ zi σ' 10 = nI (dSc (dTk md (zsum H 12)) (zsum H 12) B) ∧ ∀ i, i < N → zj σ' 0 i = lN (dTop (dTk md (zsum H 12)) (dSc (dTk md (zsum H 12)) (zsum H 12) B) B S H T i) := by
  have hd' := hd
  obtain ⟨hN, hT, hTm, hB, hB2, hS0, hS, hSm, hH, hG, hg, hP, hV⟩ := hd
  obtain ⟨c1, c2, c3, c4, c5, c6, c7, c8, c9, c10, c11⟩ := hc
  have e1 : (if nI md = 1 then (if zi σ 7 = 0 then (some (0 : Int32)) else some (nI md)) else some (nI md)) = some (nI (dTk md (zsum H 12))) := by
    rw [c5]
    unfold dTk
    by_cases q : md = 1
    · subst q
      have e : nI 1 = 1 := by decide
      rw [if_pos e]
      by_cases q2 : zsum H 12 = 0
      · rw [q2, if_pos nI_0, if_pos ⟨rfl, rfl⟩]; rfl
      · rw [if_neg (nI_ne0 (by omega) (by omega)), if_neg (by omega)]
    · have e : ¬ nI md = 1 := fun z => q ((nI_eq (b := 1) (by omega) (by decide)).mp z)
      rw [if_neg e, if_neg (by omega)]
  have htk := dTk_le (tot := zsum H 12) hmd
  have e2 : (if nI (dTk md (zsum H 12)) = 2 then (some (2 : Int32)) else if nI (dTk md (zsum H 12)) = 1 then some (zi σ 7) else some (zi σ 6)) = some (nI (dSc (dTk md (zsum H 12)) (zsum H 12) B)) := by
    rw [c5, c3]
    generalize dTk md (zsum H 12) = tk at htk
    unfold dSc
    by_cases q : tk = 2
    · rw [q]; rfl
    · have e : ¬ nI tk = 2 := fun z => q ((nI_eq (b := 2) (by omega) (by decide)).mp z)
      rw [if_neg e, if_neg q]
      by_cases q : tk = 1
      · rw [q]; rfl
      · have e : ¬ nI tk = 1 := fun z => q ((nI_eq (b := 1) (by omega) (by decide)).mp z)
        rw [if_neg e, if_neg q]
  have fr : Fr [9, 10] [] [] [0] σ (wi (wi σ 10 (nI (dSc (dTk md (zsum H 12)) (zsum H 12) B))) 9 (nI N)) := Fr_wi (Fr_wi (Fr_r σ) (by decide)) (by decide)
  obtain ⟨σ', g1, g2, g3⟩ := X_tops (md := md) hd' (CB_Fr ⟨c1, c2, c3, c4, c5, c6, c7, c8, c9, c10, c11⟩ fr (by decide) (by decide)) htk (sc_le hB hB2 hH) rfl rfl
  have k5 : ∀ v, zi (wi σ 10 v) 5 = nI N := fun v => c1
  refine ⟨σ', ?_, Fr_t fr (Fr_m g2 (by decide) (by decide) (by decide) (by decide)), ?_, ?_, g3⟩
  · unfold fX2_renewStamps
    rw [e1]
    simp only [zv, zy1, zy2, zy3, e2, k5, g1]
  · rw [g2.1 9 (by decide)]; rfl
  · rw [g2.1 10 (by decide)]; rfl

/-- what learns() comes to -/
theorem M_learns {τ : zS} {B : Nat} {S : Nat → Nat} (hB : 1 ≤ B) (hB2 : B ≤ 12) (h0 : S 0 = 0) (hS : ∀ k, k < B → S k < 60) (hm : ∀ i j, i < j → j < B → S i < S j) (hc : ∀ x, x < 60 → (za τ 1 x = 0 ∨ za τ 1 x = 1) ∧ (za τ 1 x = 1 ↔ ∃ b, 1 ≤ b ∧ b < B ∧ S b = x)) :
    ∃ co fi, fX7_learns τ = some (sa (sa τ 3 co) 4 fi) ∧ (∀ x, x < 60 → co x = nI (cod S B x)) ∧ (∀ k, k < B → fi k = nI (S k)) ∧ fi B = 60 := by
  have sp := fun x => cod_spec (S := S) (x := x) B hB h0 hm
  have step1 : ∀ x b, 1 ≤ b → b < B → S b = x → 1 ≤ x ∧ cod S B x = b ∧ cod S B (x - 1) = b - 1 := by
    intro x b h1 h2 h3
    have h4 := hm 0 b (by omega) h2
    refine ⟨by omega, cod_uniq h0 hm h2 (by omega) (fun d q1 q2 => by have := hm b d q1 q2; omega), ?_⟩
    have h5 := hm (b - 1) b (by omega) h2
    refine cod_uniq h0 hm (by omega) (by omega) (fun d q1 q2 => ?_)
    rcases Nat.lt_or_ge b d with z | z
    · have := hm b d z q2; omega
    · have : d = b := by omega
      rw [this]; omega
  have step0 : ∀ x, 1 ≤ x → (¬ ∃ b, 1 ≤ b ∧ b < B ∧ S b = x) → cod S B x = cod S B (x - 1) := by
    intro x h1 h2
    obtain ⟨a1, a2, a3⟩ := sp (x - 1)
    refine cod_uniq h0 hm a1 (by omega) (fun d q1 q2 => ?_)
    have h3 := a3 d q1 q2
    have h4 : S d ≠ x := fun z => h2 ⟨d, by omega, q2, z⟩
    omega
  have loop : ∀ n x co fi c, x ≤ 60 → 60 < x + n → (x = 0 → c = 0) → (1 ≤ x → c = cod S B (x - 1)) → (∀ y, y < x → co y = nI (cod S B y)) → (1 ≤ x → ∀ k, k ≤ c → fi k = nI (S k)) →
      ∃ co' fi', fX7_learns_4 n (nI c) (nI x) (sa (sa τ 3 co) 4 fi) = some (nI (B - 1), sa (sa τ 3 co') 4 fi') ∧ (∀ y, y < 60 → co' y = nI (cod S B y)) ∧ ∀ k, k < B → fi' k = nI (S k) := by
    intro n
    induction n with
    | zero => intro x co fi c h1 h2; omega
    | succ n ih =>
      intro x co fi c h1 h2 hc0 hc1 hco hfi
      rw [fX7_learns_4]
      by_cases c60 : 60 ≤ x
      · have ex : x = 60 := by omega
        subst ex
        have q : (60 : Int32) ≤ nI 60 := nI_le (a := 60) (Nat.le_refl _) (by decide)
        rw [if_pos q]
        have t := hS (B - 1) (by omega)
        have e59 : cod S B 59 = B - 1 := cod_uniq h0 hm (by omega) (by omega) (fun b h1 h2 => by omega)
        have ec : c = B - 1 := by rw [hc1 (by omega)]; exact e59
        refine ⟨co, fi, by rw [ec], hco, fun k hk => hfi (by omega) k (by omega)⟩
      · have q : ¬ (60 : Int32) ≤ nI x := nI_ge (b := 60) (by omega) (by decide)
        have hcl : (nI x).toNatClampNeg = x := nI_clamp (by omega)
        have gz : za (sa (sa τ 3 co) 4 fi) 1 = za τ 1 := rfl
        rw [if_neg q]
        obtain ⟨hx01, hxc⟩ := hc x (by omega)
        have hcx := (sp x).1
        have main : ∀ c', c' = cod S B x → (x = 0 → c' = 0) → ∀ v, (v = if x = 0 ∨ za τ 1 x = 1 then nI x else fi c') → 
            (∃ co' fi', fX7_learns_4 n (nI c') (nI x + 1) (wa (wa (sa (sa τ 3 co) 4 fi) 3 x (nI c')) 4 c' v) = some (nI (B - 1), sa (sa τ 3 co') 4 fi') ∧ (∀ y, y < 60 → co' y = nI (cod S B y)) ∧ ∀ k, k < B → fi' k = nI (S k)) := by
          intro c' ec' ec0 v hv
          have es : wa (wa (sa (sa τ 3 co) 4 fi) 3 x (nI c')) 4 c' v = sa (sa τ 3 (upd co x (nI c'))) 4 (upd fi c' v) := by
            unfold wa sa
            refine Prod.ext rfl (Prod.ext rfl (Prod.ext ?_ rfl))
            funext j
            by_cases j4 : j = 4
            · subst j4; rfl
            · by_cases j3 : j = 3
              · subst j3; rfl
              · simp only [if_neg j4, if_neg j3]
          rw [es, nI_1]
          refine ih (x + 1) _ _ c' (by omega) (by omega) (fun z => by omega) (fun _ => ec') ?_ ?_
          · intro y hy
            unfold upd
            by_cases e : y = x
            · rw [if_pos e, e, ec']
            · rw [if_neg e]; exact hco y (by omega)
          · intro _ k hk
            unfold upd
            by_cases e : k = c'
            · rw [if_pos e, hv]
              by_cases ez : x = 0 ∨ za τ 1 x = 1
              · rw [if_pos ez, e]
                rcases ez with ez | ez
                · rw [ec0 ez, h0, ez]
                · obtain ⟨b, b1, b2, b3⟩ := hxc.mp ez
                  rw [ec', (step1 x b b1 b2 b3).2.1, b3]
              · rw [if_neg ez, e]
                have hx1 : 1 ≤ x := by omega
                have e1 : cod S B x = cod S B (x - 1) := step0 x hx1 (fun z => ez (Or.inr (hxc.mpr z)))
                refine hfi hx1 c' ?_
                rw [hc1 hx1, ec', e1]
                exact Nat.le_refl _
            · rw [if_neg e]
              by_cases hx1 : 1 ≤ x
              · refine hfi hx1 k ?_
                rw [hc1 hx1]
                by_cases ez : za τ 1 x = 1
                · obtain ⟨b, b1, b2, b3⟩ := hxc.mp ez
                  have := step1 x b b1 b2 b3
                  omega
                · have e1 : cod S B x = cod S B (x - 1) := step0 x hx1 (fun z => ez (hxc.mpr z))
                  omega
              · have := ec0 (by omega)
                omega
        by_cases ez : za τ 1 x = 0
        · have ez1 : ¬ za τ 1 x = 1 := by rw [ez]; decide
          have en : ¬ ∃ b, 1 ≤ b ∧ b < B ∧ S b = x := fun z => ez1 (hxc.mpr z)
          have ec : c = cod S B x := by
            by_cases hx1 : 1 ≤ x
            · rw [hc1 hx1, step0 x hx1 en]
            · have : x = 0 := by omega
              rw [hc0 this]
              subst this
              exact (cod_uniq h0 hm (by omega) (by omega) (fun d q1 q2 => by have := hm 0 d q1 q2; omega)).symm
          have hc14 : c < 14 := by omega
          have hccl : (nI c).toNatClampNeg = c := nI_clamp (by omega)
          have ev : nI c + 0 = nI c := Int32.add_zero _
          obtain ⟨co', fi', g1, g2, g3⟩ := main c ec hc0 (if x = 0 ∨ za τ 1 x = 1 then nI x else fi c) rfl
          refine ⟨co', fi', ?_, g2, g3⟩
          have e1 : za (wa (sa (sa τ 3 co) 4 fi) 3 x (nI c)) 1 x = 0 := ez
          have e2 : za (wa (sa (sa τ 3 co) 4 fi) 3 x (nI c)) 4 c = fi c := rfl
          have ef : (if nI x = 0 then some (nI x) else zg (zq (nI x) 60) (if za (wa (sa (sa τ 3 co) 4 fi) 3 x (nI c)) 1 (nI x).toNatClampNeg = 0 then zg (zq (nI c) 14) (some (za (wa (sa (sa τ 3 co) 4 fi) 3 x (nI c)) 4 (nI c).toNatClampNeg)) else some (nI x))) = some (if x = 0 ∨ za τ 1 x = 1 then nI x else fi c) := by
            by_cases hx0 : x = 0
            · subst hx0; rfl
            · have d0 : ¬ nI x = 0 := nI_ne0 (by omega) (by omega)
              have d1 : ¬ (x = 0 ∨ za τ 1 x = 1) := fun z => z.elim hx0 ez1
              rw [if_neg d0, zgq (by omega), hcl, if_pos e1, zgq hc14, hccl, e2, if_neg d1]
          simp only [zy1, zv, zgq (show x < 60 by omega), hcl, gz, if_pos ez, ev, zgq hc14, hccl]
          simp only [hcl, hccl, zgq (show x < 60 by omega), zgq hc14] at ef
          rw [ef]
          exact g1
        · have ez1 : za τ 1 x = 1 := hx01.resolve_left ez
          obtain ⟨b, b1, b2, b3⟩ := hxc.mp ez1
          have st := step1 x b b1 b2 b3
          have ec : c + 1 = cod S B x := by rw [hc1 st.1]; omega
          have hc14 : c + 1 < 14 := by omega
          have hccl : (nI (c + 1)).toNatClampNeg = c + 1 := nI_clamp (by omega)
          obtain ⟨co', fi', g1, g2, g3⟩ := main (c + 1) ec (fun z => by omega) (nI x) (by rw [if_pos (Or.inr ez1)])
          refine ⟨co', fi', ?_, g2, g3⟩
          have e1 : ¬ za (wa (sa (sa τ 3 co) 4 fi) 3 x (nI (c + 1))) 1 x = 0 := ez
          have ef : (if nI x = 0 then some (nI x) else zg (zq (nI x) 60) (if za (wa (sa (sa τ 3 co) 4 fi) 3 x (nI (c + 1))) 1 (nI x).toNatClampNeg = 0 then zg (zq (nI (c + 1)) 14) (some (za (wa (sa (sa τ 3 co) 4 fi) 3 x (nI (c + 1))) 4 (nI (c + 1)).toNatClampNeg)) else some (nI x))) = some (nI x) := by
            split
            · rfl
            · rw [zgq (by omega), hcl, if_neg e1]
          simp only [zy1, zv, zgq (show x < 60 by omega), hcl, gz, if_neg ez, nI_1, zgq hc14, hccl]
          simp only [hcl, hccl, zgq (show x < 60 by omega), zgq hc14] at ef
          rw [ef]
          have g1' := g1
          rw [nI_1] at g1'
          exact g1'
  obtain ⟨co, fi, g1, g2, g3⟩ := loop 500 0 (za τ 3) (za τ 4) 0 (by omega) (by omega) (fun _ => rfl) (fun z => by omega) (fun y hy => by omega) (fun z => by omega)
  have es : sa (sa τ 3 (za τ 3)) 4 (za τ 4) = τ := by
    rw [sa_self]
    exact sa_self τ 4
  rw [es, nI_0] at g1
  refine ⟨co, upd fi B 60, ?_, g2, ?_, ?_⟩
  · unfold fX7_learns
    have e1 : nI (B - 1) + 1 = nI B := by rw [nI_1]; congr 1; omega
    simp only [zv, zy1, zy2, zy3, g1, e1, zgq (show B < 14 by omega), nI_clamp (show B < 2 ^ 31 by omega), wa_on]
  · intro k hk
    rw [upd_n (by omega)]
    exact g3 k hk
  · exact upd_s _ _ _
theorem X_split {σ : zS} {c B : Nat} {v : Int32} (h6 : zi σ 6 = nI B) (hc : c < B) (hB : B < 12) : fX0_split (nI c) v σ = some (wi (sa (wi (sa σ 2 (upd (shf (za σ 2) (c + 1) B) (c + 1) v)) 6 (nI (B + 1))) 3 (z12 (za σ 3) 0)) 7 0) := by
  have loop : ∀ n j f, j < 12 → j < n + (c + 1) → fX0_split_5 (nI c) v n (nI j) (sa σ 2 f) = some (sa σ 2 (shf f (c + 1) j)) ∨ n = 0 := by
    intro n
    induction n with
    | zero => intro j f _ _; exact Or.inr rfl
    | succ n ih =>
      intro j f hj hn
      left
      rw [fX0_split_5, nI_1]
      by_cases h : j ≤ c + 1
      · rw [if_pos (nI_le h (by omega)), shf_0 h]
      · rw [if_neg (nI_ge (by omega) (by omega))]
        have e : nI j - 1 = nI (j - 1) := nI_sub (a := j) (b := 1) (by omega)
        rw [e, zgq (by omega), zgq (by omega), nI_clamp (by omega), nI_clamp (by omega), za_sa, wa_on]
        show fX0_split_5 (nI c) v n (nI j + (-1)) _ = _
        rw [nI_dec (by omega)]
        rcases ih (j - 1) (upd f j (f (j - 1))) (by omega) (by omega) with h' | h'
        · rw [h', shf_s (by omega)]
        · omega
  unfold fX0_split
  rcases loop 500 B (za σ 2) hB (by omega) with e | e
  · rw [sa_self] at e
    have hzi : zi (sa σ 2 (upd (shf (za σ 2) (c + 1) B) (c + 1) v)) 6 = nI B := h6
    simp only [zv, zy1, zy2, zy3, h6, e, nI_1, zgq (show c + 1 < 12 by omega), nI_clamp (show c + 1 < 2 ^ 31 by omega), wa_on, hzi, X_forget]
    rfl
  · exact absurd e (by decide)
theorem X_join {σ : zS} {c B : Nat} (h6 : zi σ 6 = nI B) (hc : c < B) (hB : B ≤ 12) : fX0_joinToPrevious (nI c) σ = some (wi (sa (sa (wi σ 6 (nI (B - 1))) 2 (shl (za σ 2) c (B - 1))) 3 (z12 (za σ 3) 0)) 7 0) := by
  have loop : ∀ n i f, B - 1 ≤ i + n → i < 12 → fX0_joinToPrevious_12 (n + 1) (nI i) (sa (wi σ 6 (nI (B - 1))) 2 f) = some (sa (wi σ 6 (nI (B - 1))) 2 (shl f i (B - 1))) := by
    intro n
    induction n with
    | zero =>
      intro i f h hi
      have hz : zi (sa (wi σ 6 (nI (B - 1))) 2 f) 6 = nI (B - 1) := rfl
      rw [fX0_joinToPrevious_12, hz, if_pos (nI_le (by omega) (by omega)), shl_0 (by omega)]
    | succ n ih =>
      intro i f h hi
      have hz : zi (sa (wi σ 6 (nI (B - 1))) 2 f) 6 = nI (B - 1) := rfl
      rw [fX0_joinToPrevious_12, hz]
      by_cases q : B - 1 ≤ i
      · rw [if_pos (nI_le q (by omega)), shl_0 q]
      · rw [if_neg (nI_ge (by omega) (by omega)), nI_1, zgq (by omega), zgq (by omega), nI_clamp (by omega), nI_clamp (by omega), za_sa, wa_on]
        show fX0_joinToPrevious_12 (n + 1) (nI (i + 1)) _ = _
        rw [ih (i + 1) _ (by omega) (by omega), shl_s (by omega)]
  unfold fX0_joinToPrevious
  have e := loop 499 c (za σ 2) (by omega) (by omega)
  have s1 : sa (wi σ 6 (nI (B - 1))) 2 (za σ 2) = wi σ 6 (nI (B - 1)) := sa_self (wi σ 6 (nI (B - 1))) 2
  rw [s1] at e
  have e1 : nI B - 1 = nI (B - 1) := nI_sub (a := B) (b := 1) (by omega)
  simp only [zv, zy1, zy2, zy3, h6, e1, e, X_forget]
  rfl

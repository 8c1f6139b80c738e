def rk (L : Nat → Nat → Bool) (n a : Nat) : Nat := zsum (fun q => if L q a then 1 else 0) n
theorem zsum_le2 {f g : Nat → Nat} : ∀ n, (∀ q, q < n → f q ≤ g q) → zsum f n ≤ zsum g n := by
  intro n
  induction n with
  | zero => intro _; exact Nat.le_refl _
  | succ n ih =>
    intro h
    have a := ih (fun q hq => h q (by omega))
    have b := h n (by omega)
    show zsum f n + f n ≤ zsum g n + g n
    omega
theorem zsum_lt2 {f g : Nat → Nat} {a : Nat} : ∀ n, (∀ q, q < n → f q ≤ g q) → a < n → f a < g a → zsum f n < zsum g n := by
  intro n
  induction n with
  | zero => intro _ h; omega
  | succ n ih =>
    intro h ha hl
    have b := h n (by omega)
    show zsum f n + f n < zsum g n + g n
    by_cases z : a = n
    · have c := zsum_le2 (f := f) (g := g) n (fun q hq => h q (by omega))
      subst z
      omega
    · have c := ih (fun q hq => h q (by omega)) (by omega) hl
      omega
theorem rk_lt {L : Nat → Nat → Bool} {n a b : Nat} (irr : L a a = false) (tr : ∀ q, q < n → L q a = true → L a b = true → L q b = true) (ha : a < n) (h : L a b = true) : rk L n a < rk L n b := by
  refine zsum_lt2 (a := a) n (fun q hq => ?_) ha ?_
  · by_cases z : L q a = true
    · rw [if_pos z, if_pos (tr q hq z h)]; exact Nat.le_refl _
    · rw [if_neg z]; exact Nat.zero_le _
  · rw [irr, if_pos h]
    exact Nat.zero_lt_one
theorem rk_le (L : Nat → Nat → Bool) (n a : Nat) : rk L n a ≤ n := by
  have := zsum_b (f := fun q => if L q a then 1 else 0) (M := 1) (fun k => by split <;> omega) n
  unfold rk
  omega
-- which gate closes first
def ck (N : Nat) (T : Nat → Nat) (a b : Nat) : Nat := if plc T b N < N ∧ plc T a N < plc T b N then (plc T b N * 100 + plc T a N) * 100 else 1000000
def Lc (N : Nat) (T ga gb : Nat → Nat) (q g : Nat) : Bool := decide (ck N T (ga q) (gb q) + q < ck N T (ga g) (gb g) + g)
theorem gate_ck {N : Nat} {T : Nat → Nat} {a b : Nat} (hN : N ≤ 32) : (dCl N T a b = -1 ∧ ck N T a b = 1000000) ∨ ∃ x y, x < y ∧ y < N ∧ dOp N T a = nI x ∧ dCl N T a b = nI y ∧ ck N T a b = (y * 100 + x) * 100 := by
  unfold dCl ck
  by_cases c : plc T b N < N ∧ plc T a N < plc T b N
  · rw [if_pos c, if_pos c]
    exact Or.inr ⟨plc T a N, plc T b N, c.2, c.1, if_pos (by omega), rfl, rfl⟩
  · rw [if_neg c, if_neg c]
    exact Or.inl ⟨rfl, rfl⟩
theorem aheadX {σ : zS} {G N : Nat} {T ga gb : Nat → Nat} {q g : Nat} (hN : N ≤ 32) (hG : G ≤ 8) (h : ∀ g, g < G → za σ 6 g = dOp N T (ga g) ∧ za σ 7 g = dCl N T (ga g) (gb g)) (hq : q < G) (hg : g < G) : fX1_closesAhead (nI q) (nI g) σ = some (nI (if Lc N T ga gb q g then 1 else 0)) := by
  obtain ⟨a1, a2⟩ := h q hq
  obtain ⟨b1, b2⟩ := h g hg
  have n1 : ∀ y, y < N → ¬ nI y = -1 := fun y hy => nI_neg1 (by omega)
  have n2 : ∀ y, y < N → ¬ (-1 : Int32) = nI y := fun y hy z => n1 y hy z.symm
  have eI : ∀ {x y : Nat}, x < 32 → y < 32 → (nI x = nI y ↔ x = y) := fun hx hy => nI_eq (by omega) (by omega)
  unfold fX1_closesAhead
  simp only [zgq (show q < 8 by omega), zgq (show g < 8 by omega), nI_clamp (show q < 2 ^ 31 by omega), nI_clamp (show g < 2 ^ 31 by omega), a1, a2, b1, b2]
  have fin : ∀ c : Prop, [Decidable c] → (c ↔ ck N T (ga q) (gb q) + q < ck N T (ga g) (gb g) + g) → (some (if c then 1 else 0) : Option Int32) = some (nI (if Lc N T ga gb q g then 1 else 0)) := by
    intro c _ hc
    by_cases z : c
    · rw [if_pos z, if_pos (show Lc N T ga gb q g = true from decide_eq_true (hc.mp z))]; rfl
    · rw [if_neg z, if_neg (show ¬ Lc N T ga gb q g = true from fun w => z (hc.mpr (of_decide_eq_true w)))]; rfl
  have gq : (if nI g ≤ nI q then (some 0 : Option Int32) else some 1) = some (if q < g then 1 else 0) := by
    by_cases z : q < g
    · rw [if_neg (nI_ge z (by omega)), if_pos z]
    · rw [if_pos (nI_le (by omega) (by omega)), if_neg z]
  rcases gate_ck (T := T) (a := ga q) (b := gb q) hN with ⟨u1, u2⟩ | ⟨x, y, u1, u2, u3, u4, u5⟩
  · rcases gate_ck (T := T) (a := ga g) (b := gb g) hN with ⟨w1, w2⟩ | ⟨x', y', w1, w2, w3, w4, w5⟩
    · rw [u1, w1, if_pos rfl, if_pos rfl, gq]
      exact fin _ (by rw [u2, w2]; omega)
    · rw [u1, w4, if_neg (n2 y' w2), if_neg (n1 y' w2), if_pos rfl]
      have := fin False (by rw [u2, w5]; exact ⟨fun z => z.elim, fun z => by omega⟩)
      rw [← this]; rfl
  · rcases gate_ck (T := T) (a := ga g) (b := gb g) hN with ⟨w1, w2⟩ | ⟨x', y', w1, w2, w3, w4, w5⟩
    · rw [u4, w1, if_neg (n1 y u2), if_pos rfl]
      have := fin True (by rw [u5, w2]; exact ⟨fun _ => by omega, fun _ => trivial⟩)
      rw [← this]; rfl
    · rw [u3, u4, w3, w4]
      by_cases c : y = y'
      · rw [if_pos ((eI (by omega) (by omega)).mpr c), if_neg (n1 y u2)]
        by_cases d : x = x'
        · rw [if_pos ((eI (by omega) (by omega)).mpr d), gq]
          exact fin _ (by rw [u5, w5]; omega)
        · rw [if_neg (fun z => d ((eI (by omega) (by omega)).mp z))]
          have e : (if nI x' ≤ nI x then (some 0 : Option Int32) else some 1) = some (if x < x' then 1 else 0) := by
            by_cases z : x < x'
            · rw [if_neg (nI_ge z (by omega)), if_pos z]
            · rw [if_pos (nI_le (by omega) (by omega)), if_neg z]
          rw [e]
          exact fin _ (by rw [u5, w5]; omega)
      · rw [if_neg (fun z => c ((eI (by omega) (by omega)).mp z)), if_neg (n1 y' w2), if_neg (n1 y u2)]
        have e : (if nI y' ≤ nI y then (some 0 : Option Int32) else some 1) = some (if y < y' then 1 else 0) := by
          by_cases z : y < y'
          · rw [if_neg (nI_ge z (by omega)), if_pos z]
          · rw [if_pos (nI_le (by omega) (by omega)), if_neg z]
        rw [e]
        exact fin _ (by rw [u5, w5]; omega)
theorem aheadM {N : Nat} {T : Nat → Nat} {B : Nat} {S H : Nat → Nat} {G : Nat} {ga gb : Nat → Nat} {P V md q g : Nat} {σ τ : zS} (h : FD N T B S H G ga gb P V md σ τ) (hq : q < G) (hg : g < G) : fX7_isAhead (nI q) (nI g) τ = some (nI (if Lc N T ga gb q g then 1 else 0)) := by
  obtain ⟨hd, _, _⟩ := FD_B h
  have hN := hd.1
  have hG := hd.2.2.2.2.2.2.2.2.2.1
  obtain ⟨a1, a2⟩ := M_gates h hq
  obtain ⟨b1, b2⟩ := M_gates h hg
  have n1 : ∀ y, y < N → ¬ nI y = -1 := fun y hy => nI_neg1 (by omega)
  have eI : ∀ {x y : Nat}, x < 32 → y < 32 → (nI x = nI y ↔ x = y) := fun hx hy => nI_eq (by omega) (by omega)
  have lI : ∀ {x y : Nat}, x < 32 → y < 32 → (nI x < nI y ↔ x < y) := fun hx hy => nI_ltI (by omega) (by omega)
  unfold fX7_isAhead
  simp only [zv, zy1, zy2, zy3, a1, a2, b1, b2]
  have fin : ∀ c : Prop, [Decidable c] → (c ↔ ck N T (ga q) (gb q) + q < ck N T (ga g) (gb g) + g) → (some (if c then 1 else 0) : Option Int32) = some (nI (if Lc N T ga gb q g then 1 else 0)) := by
    intro c _ hc
    by_cases z : c
    · rw [if_pos z, if_pos (show Lc N T ga gb q g = true from decide_eq_true (hc.mp z))]; rfl
    · rw [if_neg z, if_neg (show ¬ Lc N T ga gb q g = true from fun w => z (hc.mpr (of_decide_eq_true w)))]; rfl
  have gq : (if nI g ≤ nI q then (some 0 : Option Int32) else some 1) = some (if q < g then 1 else 0) := by
    by_cases z : q < g
    · rw [if_neg (nI_ge z (by omega)), if_pos z]
    · rw [if_pos (nI_le (by omega) (by omega)), if_neg z]
  rcases gate_ck (T := T) (a := ga q) (b := gb q) hN with ⟨u1, u2⟩ | ⟨x, y, u1, u2, u3, u4, u5⟩
  · rcases gate_ck (T := T) (a := ga g) (b := gb g) hN with ⟨w1, w2⟩ | ⟨x', y', w1, w2, w3, w4, w5⟩
    · simp only [u1, w1, if_true, gq]
      exact fin _ (by rw [u2, w2]; omega)
    · simp only [u1, w4, if_true, if_neg (n1 y' w2)]
      have := fin False (by rw [u2, w5]; exact ⟨fun z => z.elim, fun z => by omega⟩)
      rw [← this]; rfl
  · rcases gate_ck (T := T) (a := ga g) (b := gb g) hN with ⟨w1, w2⟩ | ⟨x', y', w1, w2, w3, w4, w5⟩
    · simp only [u4, w1, if_neg (n1 y u2), if_true]
      have := fin True (by rw [u5, w2]; exact ⟨fun _ => by omega, fun _ => trivial⟩)
      rw [← this]; rfl
    · simp only [u3, u4, w3, w4, if_neg (n1 y u2), if_neg (n1 y' w2)]
      by_cases c : y < y'
      · rw [if_pos ((lI (by omega) (by omega)).mpr c)]
        have := fin True (by rw [u5, w5]; exact ⟨fun _ => by omega, fun _ => trivial⟩)
        rw [← this]; rfl
      · rw [if_neg (fun z => c ((lI (by omega) (by omega)).mp z))]
        by_cases c2 : y = y'
        · rw [if_pos ((eI (by omega) (by omega)).mpr c2)]
          by_cases d : x < x'
          · rw [if_pos ((lI (by omega) (by omega)).mpr d)]
            have := fin True (by rw [u5, w5]; exact ⟨fun _ => by omega, fun _ => trivial⟩)
            rw [← this]; rfl
          · rw [if_neg (fun z => d ((lI (by omega) (by omega)).mp z))]
            by_cases d2 : x = x'
            · rw [if_pos ((eI (by omega) (by omega)).mpr d2), gq]
              exact fin _ (by rw [u5, w5]; omega)
            · rw [if_neg (fun z => d2 ((eI (by omega) (by omega)).mp z))]
              have := fin False (by rw [u5, w5]; exact ⟨fun z => z.elim, fun z => by omega⟩)
              rw [← this]; rfl
        · rw [if_neg (fun z => c2 ((eI (by omega) (by omega)).mp z))]
          have := fin False (by rw [u5, w5]; exact ⟨fun z => z.elim, fun z => by omega⟩)
          rw [← this]; rfl
theorem Lc_inj {N G : Nat} {T ga gb : Nat → Nat} {a b : Nat} (hN : N ≤ 32) (hG : G ≤ 8) (ha : a < G) (hb : b < G) (h : rk (Lc N T ga gb) G a = rk (Lc N T ga gb) G b) : a = b := by
  have irr : ∀ a, Lc N T ga gb a a = false := fun a => decide_eq_false (by omega)
  have tr : ∀ a b q, q < G → Lc N T ga gb q a = true → Lc N T ga gb a b = true → Lc N T ga gb q b = true := by
    intro a b q _ h1 h2
    have h1 := of_decide_eq_true h1
    have h2 := of_decide_eq_true h2
    exact decide_eq_true (by omega)
  rcases Nat.lt_trichotomy (ck N T (ga a) (gb a) + a) (ck N T (ga b) (gb b) + b) with c | c | c
  · have := rk_lt (irr a) (tr a b) ha (decide_eq_true c)
    omega
  · rcases gate_ck (T := T) (a := ga a) (b := gb a) hN with ⟨u1, u2⟩ | ⟨x, y, u1, u2, u3, u4, u5⟩
    · rcases gate_ck (T := T) (a := ga b) (b := gb b) hN with ⟨w1, w2⟩ | ⟨x', y', w1, w2, w3, w4, w5⟩
      · rw [u2, w2] at c; omega
      · rw [u2, w5] at c; omega
    · rcases gate_ck (T := T) (a := ga b) (b := gb b) hN with ⟨w1, w2⟩ | ⟨x', y', w1, w2, w3, w4, w5⟩
      · rw [u5, w2] at c; omega
      · rw [u5, w5] at c; omega
  · have := rk_lt (irr b) (tr b a) hb (decide_eq_true c)
    omega
theorem closingBoth {N : Nat} {T : Nat → Nat} {B : Nat} {S H : Nat → Nat} {G : Nat} {ga gb : Nat → Nat} {P V md : Nat} {σ τ : zS} {v : Int32} (h : FD N T B S H G ga gb P V md σ τ) (hv : zw v 0 (nI G - 1) = 1) : ∃ r σ', fX6_closing v σ = some (r, σ') ∧ fX7_closingOf v τ = some r ∧ FD N T B S H G ga gb P V md σ' τ := by
  obtain ⟨hd, hc, hm⟩ := FD_B h
  have hN := hd.1
  have hG := hd.2.2.2.2.2.2.2.2.2.1
  obtain ⟨σ', p1, h', x0, x1, x2, x3, x4, x5, x6, x7, x8, x9, x10, x11⟩ := X_due h
  have k8 : zi σ' 8 = nI G := (FD_B h').2.1.2.2.2.2.2.2.1
  have k4 : zi τ 4 = nI G := h.1.2.2.2.2.1.2.1
  have cX : ∀ w g, g < G → fX1_closingAt_15 w (nI g) σ' 500 0 0 = some (nI (rk (Lc N T ga gb) G g)) := by
    intro w g hg
    have loop : ∀ n j, j ≤ G → G < j + n → fX1_closingAt_15 w (nI g) σ' n (nI (rk (Lc N T ga gb) j g)) (nI j) = some (nI (rk (Lc N T ga gb) G g)) := by
      intro n
      induction n with
      | zero => intro j h1 h2; omega
      | succ n ih =>
        intro j h1 h2
        rw [fX1_closingAt_15, k8]
        by_cases q : G ≤ j
        · rw [if_pos (nI_le q (by omega)), show j = G by omega]
        · rw [if_neg (nI_ge (by omega) (by omega)), aheadX hN hG x8 (show j < G by omega) hg]
          simp only [zv, zy1, zy2, zy3]
          have e : (if nI (if Lc N T ga gb j g then 1 else 0) = 0 then some (nI (rk (Lc N T ga gb) j g)) else some (nI (rk (Lc N T ga gb) j g) + 1)) = some (nI (rk (Lc N T ga gb) (j + 1) g)) := by
            show _ = some (nI (rk (Lc N T ga gb) j g + (if Lc N T ga gb j g then 1 else 0)))
            cases Lc N T ga gb j g with
            | true => rw [if_pos rfl, if_neg (by decide), nI_1]
            | false =>
              have z : nI (if false = true then 1 else 0) = 0 := by decide
              rw [if_pos z]; rfl
          rw [e]
          simp only [nI_1]
          exact ih (j + 1) (by omega) (by omega)
    have e := loop 500 0 (by omega) (by omega)
    have z0 : nI (rk (Lc N T ga gb) 0 g) = 0 := nI_0
    rw [z0, nI_0] at e
    exact e
  have cM : ∀ w u g, g < G → fX7_closingOf_18 w u (nI g) τ 500 0 0 = some (nI (rk (Lc N T ga gb) G g)) := by
    intro w u g hg
    have loop : ∀ n j, j ≤ G → G < j + n → fX7_closingOf_18 w u (nI g) τ n (nI (rk (Lc N T ga gb) j g)) (nI j) = some (nI (rk (Lc N T ga gb) G g)) := by
      intro n
      induction n with
      | zero => intro j h1 h2; omega
      | succ n ih =>
        intro j h1 h2
        rw [fX7_closingOf_18, k4]
        by_cases q : G ≤ j
        · rw [if_pos (nI_le q (by omega)), show j = G by omega]
        · rw [if_neg (nI_ge (by omega) (by omega)), aheadM h (show j < G by omega) hg]
          simp only [zv, zy1, zy2, zy3]
          have e : (if nI j = nI g then (some 0 : Option Int32) else (if nI (if Lc N T ga gb j g then 1 else 0) = 0 then some 0 else some 1)) = some (nI (if Lc N T ga gb j g then 1 else 0)) := by
            by_cases z : j = g
            · subst z
              have irr : Lc N T ga gb j j = false := decide_eq_false (by omega)
              rw [if_pos rfl, irr]; rfl
            · rw [if_neg (fun w => z ((nI_eq (by omega) (by omega)).mp w))]
              cases Lc N T ga gb j g with
              | true => decide
              | false => decide
          rw [e]
          simp only [nI_add, nI_1]
          exact ih (j + 1) (by omega) (by omega)
    have e := loop 500 0 (by omega) (by omega)
    have z0 : nI (rk (Lc N T ga gb) 0 g) = 0 := nI_0
    rw [z0, nI_0] at e
    exact e
  have hin : ∀ a b, a < G → b < G → nI (rk (Lc N T ga gb) G a) = nI (rk (Lc N T ga gb) G b) → a = b := by
    intro a b ha hb hz
    have l1 := rk_le (Lc N T ga gb) G a
    have l2 := rk_le (Lc N T ga gb) G b
    exact Lc_inj hN hG ha hb ((nI_eq (by omega) (by omega)).mp hz)
  have key : ∃ r, fX1_closingAt v σ' = some r ∧ fX7_closingOf_4 v τ 500 (-1) 0 = some r := by
    by_cases c : ∃ g, g < G ∧ nI (rk (Lc N T ga gb) G g) = v
    · obtain ⟨g0, hg0, hv0⟩ := c
      have lX : ∀ n j, j ≤ g0 → G < j + n → fX1_closingAt_2 v σ' n (nI j) = some (nI g0) := by
        intro n
        induction n with
        | zero => intro j h1 h2; omega
        | succ n ih =>
          intro j h1 h2
          rw [fX1_closingAt_2, k8, if_neg (nI_ge (by omega) (by omega)), cX _ j (by omega)]
          simp only [zv, zy1, zy2, zy3]
          by_cases z : j = g0
          · rw [z, if_pos hv0]
          · rw [if_neg (fun w => z (hin j g0 (by omega) hg0 (w.trans hv0.symm))), nI_1]
            exact ih (j + 1) (by omega) (by omega)
      have lM : ∀ n j a, j ≤ G → G < j + n → (g0 < j → a = nI g0) → fX7_closingOf_4 v τ n a (nI j) = some (nI g0) := by
        intro n
        induction n with
        | zero => intro j a h1 h2; omega
        | succ n ih =>
          intro j a h1 h2 ha
          rw [fX7_closingOf_4, k4]
          by_cases q : G ≤ j
          · rw [if_pos (nI_le q (by omega)), ha (by omega)]
          · rw [if_neg (nI_ge (by omega) (by omega)), cM _ _ j (by omega)]
            simp only [zv, zy1, zy2, zy3]
            by_cases z : j = g0
            · rw [z, if_pos hv0]
              simp only [nI_1]
              exact ih (g0 + 1) _ (by omega) (by omega) (fun _ => rfl)
            · rw [if_neg (fun w => z (hin j g0 (by omega) hg0 (w.trans hv0.symm)))]
              simp only [nI_1]
              exact ih (j + 1) a (by omega) (by omega) (fun y => ha (by omega))
      have e1 := lX 500 0 (by omega) (by omega)
      have e2 := lM 500 0 (-1) (by omega) (by omega) (fun y => by omega)
      rw [nI_0] at e1 e2
      exact ⟨nI g0, e1, e2⟩
    · have no : ∀ g, g < G → ¬ nI (rk (Lc N T ga gb) G g) = v := fun g hg z => c ⟨g, hg, z⟩
      have lX : ∀ n j, j ≤ G → G < j + n → fX1_closingAt_2 v σ' n (nI j) = some (-1) := by
        intro n
        induction n with
        | zero => intro j h1 h2; omega
        | succ n ih =>
          intro j h1 h2
          rw [fX1_closingAt_2, k8]
          by_cases q : G ≤ j
          · rw [if_pos (nI_le q (by omega))]
          · rw [if_neg (nI_ge (by omega) (by omega)), cX _ j (by omega)]
            simp only [zv, zy1, zy2, zy3]
            rw [if_neg (no j (by omega)), nI_1]
            exact ih (j + 1) (by omega) (by omega)
      have lM : ∀ n j, j ≤ G → G < j + n → fX7_closingOf_4 v τ n (-1) (nI j) = some (-1) := by
        intro n
        induction n with
        | zero => intro j h1 h2; omega
        | succ n ih =>
          intro j h1 h2
          rw [fX7_closingOf_4, k4]
          by_cases q : G ≤ j
          · rw [if_pos (nI_le q (by omega))]
          · rw [if_neg (nI_ge (by omega) (by omega)), cM _ _ j (by omega)]
            simp only [zv, zy1, zy2, zy3]
            rw [if_neg (no j (by omega))]
            simp only [nI_1]
            exact ih (j + 1) (by omega) (by omega)
      have e1 := lX 500 0 (by omega) (by omega)
      have e2 := lM 500 0 (by omega) (by omega)
      rw [nI_0] at e1 e2
      exact ⟨-1, e1, e2⟩
  obtain ⟨r, r1, r2⟩ := key
  refine ⟨r, σ', ?_, ?_, h'⟩
  · unfold fX6_closing
    rw [X_isGate, hc.2.2.2.2.2.2.1, hv, p1]
    simp only [zv, zy1, zy2, zy3, if_neg one_ne, r1]
  · unfold fX7_closingOf
    rw [r2]
    rfl
theorem ok_closing_ : ok_closing Rel := by
  intro σ τ v h
  obtain ⟨N, T, B, S, H, G, ga, gb, P, V, md, hf⟩ := Rel_FD h
  obtain ⟨hd, hc, hm⟩ := FD_B hf
  have k1 := hc.2.2.2.2.2.2.1
  have k2 := hf.1.2.2.2.2.1.2.1
  rcases zw01 v 0 (nI G - 1) with e | e
  · refine ⟨-2, σ, ?_, ?_, h⟩
    · unfold fX6_closing
      rw [X_isGate, k1, e]
      rfl
    · unfold fX7_closing
      rw [M_isGate, k2, e]
      rfl
  · obtain ⟨r, σ', g1, g2, g3⟩ := closingBoth hf e
    refine ⟨r, σ', g1, ?_, FD_Rel g3⟩
    unfold fX7_closing
    rw [M_isGate, k2, e, g2]
    rfl

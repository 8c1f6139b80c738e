theorem plc_le (T : Nat → Nat) (a : Nat) : ∀ n, plc T a n ≤ n := by
  intro n
  induction n with
  | zero => exact Nat.le_refl 0
  | succ n ih => unfold plc; split <;> omega
theorem plc_lt (T : Nat → Nat) (a : Nat) : ∀ n i, i < plc T a n → T i < a := by
  intro n
  induction n with
  | zero => intro i h; exact absurd h (Nat.not_lt_zero i)
  | succ n ih =>
    intro i h
    unfold plc at h
    split at h
    · next c =>
      by_cases hi : i = n
      · subst hi; exact c.2
      · exact ih i (by omega)
    · exact ih i h
theorem plc_ge (T : Nat → Nat) (a : Nat) : ∀ n, plc T a n < n → a ≤ T (plc T a n) := by
  intro n
  induction n with
  | zero => intro h; exact absurd h (Nat.not_lt_zero _)
  | succ n ih =>
    intro h
    unfold plc at h ⊢
    split
    · next c => rw [if_pos c] at h; omega
    · next c =>
      rw [if_neg c] at h
      have hl := plc_le T a n
      by_cases hn : plc T a n = n
      · rw [hn]
        exact Nat.not_lt.mp (fun z => c ⟨hn, z⟩)
      · exact ih (by omega)
theorem X_first {σ : zS} {N a : Nat} {T : Nat → Nat} (h5 : zi σ 5 = nI N) (hN : N ≤ 32) (hT : ∀ k, k < N → za σ 1 k = nI (T k) ∧ T k < 6000) (ha : a < 6000) : fX5_firstFrom (nI a) σ = some (nI (plc T a N)) := by
  have loop : ∀ n i, i ≤ plc T a N → N < i + n → fX5_firstFrom_2 (nI a) σ n (nI i) = some (nI (plc T a N)) := by
    intro n
    induction n with
    | zero => intro i h1 h2; have := plc_le T a N; omega
    | succ n ih =>
      intro i h1 h2
      have hl := plc_le T a N
      rw [fX5_firstFrom_2, h5]
      by_cases hi : N ≤ i
      · rw [if_pos (nI_le hi (by omega))]
        have : plc T a N = N := by omega
        rw [this]
      · rw [if_neg (nI_ge (by omega) (by omega)), zgq (by omega), nI_clamp (by omega), (hT i (by omega)).1]
        have hti := (hT i (by omega)).2
        by_cases hp : i < plc T a N
        · rw [if_pos (nI_lt (plc_lt T a N i hp) (by omega)), nI_1]
          exact ih (i + 1) hp (by omega)
        · have e : plc T a N = i := by omega
          have hge := plc_ge T a N (by omega)
          rw [e] at hge
          rw [if_neg (nI_nlt hge (by omega)), e]
  unfold fX5_firstFrom
  exact loop 500 0 (Nat.zero_le _) (by omega)
theorem M_place {σ : zS} {N a : Nat} {T : Nat → Nat} (h5 : zi σ 0 = nI N) (hN : N ≤ 32) (hT : ∀ k, k < N → za σ 0 k = nI (T k) ∧ T k < 6000) (ha : a < 6000) : fX7_placeFor (nI a) σ = some (nI (plc T a N)) := by
  have loop : ∀ n i, i ≤ plc T a N → N < i + n → fX7_placeFor_2 (nI a) σ n (nI i) = some (nI (plc T a N)) := by
    intro n
    induction n with
    | zero => intro i h1 h2; have := plc_le T a N; omega
    | succ n ih =>
      intro i h1 h2
      have hl := plc_le T a N
      rw [fX7_placeFor_2, h5]
      by_cases hi : N ≤ i
      · rw [if_pos (nI_le hi (by omega))]
        have : plc T a N = i := by omega
        rw [this]
      · rw [if_neg (nI_ge (by omega) (by omega)), zgq (by omega), nI_clamp (by omega), (hT i (by omega)).1]
        have hti := (hT i (by omega)).2
        by_cases hp : i < plc T a N
        · rw [if_neg (nI_ge (plc_lt T a N i hp) (by omega)), nI_1]
          exact ih (i + 1) hp (by omega)
        · have e : plc T a N = i := by omega
          have hge := plc_ge T a N (by omega)
          rw [e] at hge
          rw [if_pos (nI_le hge (by omega)), e]
  unfold fX7_placeFor
  have := loop 500 0 (Nat.zero_le _) (by omega)
  have e0 : nI 0 = 0 := nI_0
  rw [e0] at this
  rw [this]
  rfl
/-- a whole row written -/
def sa (σ : zS) (k : Nat) (g : Nat → Int32) : zS := (σ.1, σ.2.1, fun j => if j = k then g else σ.2.2.1 j, σ.2.2.2)
theorem wa_sa (σ : zS) (k i : Nat) (v : Int32) : wa σ k i v = sa σ k (upd (za σ k) i v) := rfl
theorem sa_sa (σ : zS) (k : Nat) (g h : Nat → Int32) : sa (sa σ k g) k h = sa σ k h := by
  unfold sa
  congr 3
  funext j
  split
  · rfl
  · next hj => exact if_neg hj
theorem za_sa (σ : zS) (k : Nat) (g : Nat → Int32) : za (sa σ k g) k = g := by
  show (if k = k then g else _) = g
  rw [if_pos rfl]
theorem sa_self (σ : zS) (k : Nat) : sa σ k (za σ k) = σ := by
  unfold sa za
  have : (fun j => if j = k then σ.2.2.1 k else σ.2.2.1 j) = σ.2.2.1 := by
    funext j
    split
    · next h => rw [h]
    · rfl
  rw [this]
theorem zi_sa (σ : zS) (k j : Nat) (g : Nat → Int32) : zi (sa σ k g) j = zi σ j := rfl
theorem wa_on (σ : zS) (k i : Nat) (v : Int32) (f : Nat → Int32) : wa (sa σ k f) k i v = sa σ k (upd f i v) := by
  rw [wa_sa, za_sa, sa_sa]
def shf (f : Nat → Int32) (p j : Nat) : Nat → Int32 := fun k => if p < k ∧ k ≤ j then f (k - 1) else f k
def shl (f : Nat → Int32) (i n : Nat) : Nat → Int32 := fun k => if i ≤ k ∧ k < n then f (k + 1) else f k
theorem shf_0 {f : Nat → Int32} {p j : Nat} (h : j ≤ p) : shf f p j = f := by
  funext k
  unfold shf
  rw [if_neg (by omega)]
theorem shf_s {f : Nat → Int32} {p j : Nat} (h : p < j) : shf (upd f j (f (j - 1))) p (j - 1) = shf f p j := by
  funext k
  unfold shf upd
  by_cases hk : k = j
  · subst hk
    rw [if_neg (by omega), if_pos rfl, if_pos (by omega)]
  · by_cases h1 : p < k ∧ k ≤ j - 1
    · rw [if_pos h1, if_neg (by omega), if_pos (by omega)]
    · rw [if_neg h1, if_neg hk, if_neg (by omega)]
theorem shl_0 {f : Nat → Int32} {i n : Nat} (h : n ≤ i) : shl f i n = f := by
  funext k
  unfold shl
  rw [if_neg (by omega)]
theorem shl_s {f : Nat → Int32} {i n : Nat} (h : i < n) : shl (upd f i (f (i + 1))) (i + 1) n = shl f i n := by
  funext k
  unfold shl upd
  by_cases hk : k = i
  · subst hk
    rw [if_neg (by omega), if_pos rfl, if_pos (by omega)]
  · by_cases h1 : i + 1 ≤ k ∧ k < n
    · rw [if_pos h1, if_neg (by omega), if_pos (by omega)]
    · rw [if_neg h1, if_neg hk, if_neg (by omega)]
theorem X_shift {σ : zS} {v : Int32} {p : Nat} (hp : p ≤ 32) : ∀ n j f, j < 32 → j < n + p → fX5_insert_11 v (nI p) n (nI j) (sa σ 1 f) = some (sa σ 1 (shf f p j)) ∨ n = 0 := by
  intro n
  induction n with
  | zero => intro j f _ _; exact Or.inr rfl
  | succ n ih =>
    intro j f hj hn
    left
    rw [fX5_insert_11]
    by_cases h : j ≤ p
    · rw [if_pos (nI_le h (by omega)), shf_0 h]
    · rw [if_neg (nI_ge (by omega) (by omega))]
      have e : nI j - 1 = nI (j - 1) := nI_sub (a := j) (b := 1) (by omega)
      rw [e, zgq (by omega), zgq (by omega), nI_clamp (by omega), nI_clamp (by omega), za_sa, wa_on]
      show fX5_insert_11 v (nI p) n (nI j + (-1)) _ = _
      rw [nI_dec (by omega)]
      rcases ih (j - 1) (upd f j (f (j - 1))) (by omega) (by omega) with h' | h'
      · rw [h', shf_s (by omega)]
      · omega
theorem M_shift {σ : zS} {v : Int32} {p : Nat} (hp : p ≤ 32) : ∀ n j f, j < 32 → j < n + p → fX7_adds_58 v (nI p) n (nI j) (sa σ 0 f) = some (sa σ 0 (shf f p j)) ∨ n = 0 := by
  intro n
  induction n with
  | zero => intro j f _ _; exact Or.inr rfl
  | succ n ih =>
    intro j f hj hn
    left
    rw [fX7_adds_58]
    by_cases h : j ≤ p
    · rw [if_pos (nI_le h (by omega)), shf_0 h]
    · rw [if_neg (nI_ge (by omega) (by omega))]
      have e : nI j - 1 = nI (j - 1) := nI_sub (a := j) (b := 1) (by omega)
      rw [e, zgq (by omega), zgq (by omega), nI_clamp (by omega), nI_clamp (by omega), za_sa, wa_on]
      show fX7_adds_58 v (nI p) n (nI j + (-1)) _ = _
      rw [nI_dec (by omega)]
      rcases ih (j - 1) (upd f j (f (j - 1))) (by omega) (by omega) with h' | h'
      · rw [h', shf_s (by omega)]
      · omega
theorem X_drop {σ : zS} {v : Int32} {N : Nat} (h5 : zi σ 5 = nI N) (hN : N < 32) : ∀ n i f, N ≤ i + n → i < 32 → fX5_removeAt_19 v (n + 1) (nI i) (sa σ 1 f) = some (sa σ 1 (shl f i N)) := by
  intro n
  induction n with
  | zero =>
    intro i f h hi
    rw [fX5_removeAt_19, zi_sa, h5, if_pos (nI_le (by omega) (by omega)), shl_0 (by omega)]
  | succ n ih =>
    intro i f h hi
    rw [fX5_removeAt_19, zi_sa, h5]
    by_cases c : N ≤ i
    · rw [if_pos (nI_le c (by omega)), shl_0 c]
    · rw [if_neg (nI_ge (by omega) (by omega)), nI_1, zgq (by omega), zgq (by omega), nI_clamp (by omega), nI_clamp (by omega), za_sa, wa_on]
      show fX5_removeAt_19 v (n + 1) (nI (i + 1)) _ = _
      rw [ih (i + 1) _ (by omega) (by omega), shl_s (by omega)]
theorem M_drop {σ : zS} {v : Int32} {N : Nat} (h5 : zi σ 0 = nI N) (hN : N < 32) : ∀ n i f, N ≤ i + n → i < 32 → fX7_gone_30 v (n + 1) (nI i) (sa σ 0 f) = some (sa σ 0 (shl f i N)) := by
  intro n
  induction n with
  | zero =>
    intro i f h hi
    rw [fX7_gone_30, zi_sa, h5, if_pos (nI_le (by omega) (by omega)), shl_0 (by omega)]
  | succ n ih =>
    intro i f h hi
    rw [fX7_gone_30, zi_sa, h5]
    by_cases c : N ≤ i
    · rw [if_pos (nI_le c (by omega)), shl_0 c]
    · rw [if_neg (nI_ge (by omega) (by omega)), nI_1, zgq (by omega), zgq (by omega), nI_clamp (by omega), nI_clamp (by omega), za_sa, wa_on]
      show fX7_gone_30 v (n + 1) (nI (i + 1)) _ = _
      rw [ih (i + 1) _ (by omega) (by omega), shl_s (by omega)]
theorem RS_sa {σ τ : zS} {j : Nat} {g : Nat → Int32} (h : RS σ τ) (hj : j < 20) : RS (sa σ j g) τ := by
  intro k hk
  have h1 := h k hk
  have e : za (sa σ j g) (20 + k) = za σ (20 + k) := if_neg (by omega)
  rw [e]
  exact h1
theorem RS_saM {σ τ : zS} {j : Nat} {g : Nat → Int32} (h : RS σ τ) (h1 : j ≠ 11) (h2 : j ≠ 12) (h3 : j ≠ 13) : RS σ (sa τ j g) := by
  intro k hk
  have h4 := h k hk
  have e1 : za (sa τ j g) 11 = za τ 11 := if_neg (Ne.symm h1)
  have e2 : za (sa τ j g) 12 = za τ 12 := if_neg (Ne.symm h2)
  have e3 : za (sa τ j g) 13 = za τ 13 := if_neg (Ne.symm h3)
  rw [e1, e2, e3]
  exact h4
theorem RT_T {N : Nat} {T : Nat → Nat} {n n' : Int32} {f f' : Nat → Int32} (h : RT N T n n' f f') : ∀ k, k < N → f k = nI (T k) ∧ T k < 6000 := fun k hk => ⟨(h.2.2.2.1 k hk).1, (h.2.2.2.1 k hk).2.2⟩
theorem RT_T' {N : Nat} {T : Nat → Nat} {n n' : Int32} {f f' : Nat → Int32} (h : RT N T n n' f f') : ∀ k, k < N → f' k = nI (T k) ∧ T k < 6000 := fun k hk => ⟨(h.2.2.2.1 k hk).2.1, (h.2.2.2.1 k hk).2.2⟩
theorem RT_ins {N a : Nat} {T : Nat → Nat} {n n' : Int32} {f f' : Nat → Int32} (h : RT N T n n' f f') (hN : N < 32) (ha : a < 6000) (hne : ¬ (plc T a N < N ∧ T (plc T a N) = a)) : RT (N + 1) (insK T a (plc T a N)) (nI (N + 1)) (nI (N + 1)) (upd (shf f (plc T a N) N) (plc T a N) (nI a)) (upd (shf f' (plc T a N) N) (plc T a N) (nI a)) := by
  have hl := plc_le T a N
  have hlt := plc_lt T a N
  have hge := plc_ge T a N
  generalize plc T a N = p at hl hlt hge hne ⊢
  refine ⟨rfl, rfl, by omega, ?_, ?_⟩
  · intro k hk
    by_cases h1 : k = p
    · subst h1
      simp only [upd, insK, Nat.lt_irrefl, if_true, if_false]
      exact ⟨trivial, trivial, ha⟩
    · by_cases h2 : k < p
      · have c1 : ¬ (p < k ∧ k ≤ N) := by omega
        simp only [upd, shf, insK, if_neg h1, if_neg c1, if_pos h2]
        exact h.2.2.2.1 k (by omega)
      · have c1 : p < k ∧ k ≤ N := by omega
        simp only [upd, shf, insK, if_neg h1, if_pos c1, if_neg h2]
        exact h.2.2.2.1 (k - 1) (by omega)
  · intro i j hij hj
    unfold insK
    by_cases h1 : i < p
    · rw [if_pos h1]
      have t1 := hlt i h1
      by_cases h2 : j < p
      · rw [if_pos h2]; exact h.2.2.2.2 i j hij (by omega)
      · rw [if_neg h2]
        by_cases h3 : j = p
        · rw [if_pos h3]; exact t1
        · rw [if_neg h3]; exact h.2.2.2.2 i (j - 1) (by omega) (by omega)
    · rw [if_neg h1]
      by_cases h2 : i = p
      · rw [if_pos h2, if_neg (by omega), if_neg (by omega)]
        have t1 := hge (by omega)
        have t2 : a < T p := by
          rcases Nat.lt_or_ge a (T p) with q | q
          · exact q
          · exact absurd ⟨by omega, by omega⟩ hne
        by_cases h3 : j - 1 = p
        · rw [h3]; exact t2
        · exact Nat.lt_trans t2 (h.2.2.2.2 p (j - 1) (by omega) (by omega))
      · rw [if_neg h2, if_neg (by omega), if_neg (by omega)]
        exact h.2.2.2.2 (i - 1) (j - 1) (by omega) (by omega)
theorem RT_del {N i : Nat} {T : Nat → Nat} {n n' : Int32} {f f' : Nat → Int32} (h : RT N T n n' f f') (hi : i < N) : RT (N - 1) (fun k => if k < i then T k else T (k + 1)) (nI (N - 1)) (nI (N - 1)) (shl f i (N - 1)) (shl f' i (N - 1)) := by
  have hN := h.2.2.1
  refine ⟨rfl, rfl, by omega, ?_, ?_⟩
  · intro k hk
    unfold shl
    by_cases h1 : k < i
    · simp only [if_pos h1]
      rw [if_neg (by omega), if_neg (by omega)]
      exact h.2.2.2.1 k (by omega)
    · simp only [if_neg h1]
      rw [if_pos (by omega), if_pos (by omega)]
      exact h.2.2.2.1 (k + 1) (by omega)
  · intro x y hxy hy
    show (if x < i then T x else T (x + 1)) < (if y < i then T y else T (y + 1))
    by_cases h1 : x < i
    · rw [if_pos h1]
      by_cases h2 : y < i
      · rw [if_pos h2]; exact h.2.2.2.2 x y hxy (by omega)
      · rw [if_neg h2]; exact h.2.2.2.2 x (y + 1) (by omega) (by omega)
    · rw [if_neg h1, if_neg (by omega)]
      exact h.2.2.2.2 (x + 1) (y + 1) (by omega) (by omega)
theorem X_holds {σ : zS} {N a : Nat} {T : Nat → Nat} (h5 : zi σ 5 = nI N) (hN : N ≤ 32) (hT : ∀ k, k < N → za σ 1 k = nI (T k) ∧ T k < 6000) (ha : a < 6000) : fX5_holds (nI a) σ = some (if plc T a N < N ∧ T (plc T a N) = a then 1 else 0) := by
  unfold fX5_holds
  rw [X_first h5 hN hT ha, h5]
  have hl := plc_le T a N
  show (if nI N ≤ nI (plc T a N) then some 0 else zg (zq (nI (plc T a N)) 32) (if za σ 1 (nI (plc T a N)).toNatClampNeg = nI a then some 1 else some 0)) = _
  by_cases h : plc T a N < N
  · have t := hT _ h
    rw [if_neg (nI_ge h (by omega)), zgq (by omega), nI_clamp (by omega), t.1]
    by_cases h2 : T (plc T a N) = a
    · have c1 : nI (T (plc T a N)) = nI a := by rw [h2]
      have c2 : plc T a N < N ∧ T (plc T a N) = a := ⟨h, h2⟩
      rw [if_pos c1, if_pos c2]
    · have c1 : ¬ nI (T (plc T a N)) = nI a := fun z => h2 ((nI_eq (by omega) (by omega)).mp z)
      have c2 : ¬ (plc T a N < N ∧ T (plc T a N) = a) := fun z => h2 z.2
      rw [if_neg c1, if_neg c2]
  · have c2 : ¬ (plc T a N < N ∧ T (plc T a N) = a) := fun z => h z.1
    rw [if_pos (nI_le (by omega) (by omega)), if_neg c2]
theorem X_full {σ : zS} {N : Nat} (h5 : zi σ 5 = nI N) (hN : N ≤ 32) : fX5_isFull σ = some (if N < 32 then 0 else 1) := by
  unfold fX5_isFull
  rw [h5]
  by_cases h : N < 32
  · have c : nI N < 32 := nI_lt (b := 32) h (by decide)
    rw [if_pos c, if_pos h]
  · have c : ¬ nI N < 32 := nI_nlt (b := 32) (by omega) (by omega)
    rw [if_neg c, if_neg h]
theorem X_insert {σ : zS} {N a : Nat} {T : Nat → Nat} (h5 : zi σ 5 = nI N) (hN : N < 32) (hT : ∀ k, k < N → za σ 1 k = nI (T k) ∧ T k < 6000) (ha : a < 6000) : fX5_insert (nI a) σ = some (nI (plc T a N), wi (sa σ 1 (upd (shf (za σ 1) (plc T a N) N) (plc T a N) (nI a))) 5 (nI (N + 1))) := by
  unfold fX5_insert
  rw [X_first h5 (by omega) hT ha]
  have hl := plc_le T a N
  generalize plc T a N = p at hl ⊢
  have hs := X_shift (σ := σ) (v := nI a) (p := p) (by omega) 500 N (za σ 1) hN (by omega)
  rw [sa_self] at hs
  rcases hs with hs | hs
  · have hc : (nI p).toNatClampNeg = p := nI_clamp (by omega)
    have hzi : zi (sa σ 1 (upd (shf (za σ 1) p N) p (nI a))) 5 = nI N := h5
    simp only [zv, zy1, zy2, zy3, h5, hs, zgq (show p < 32 by omega), hc, wa_on, hzi, nI_1]
  · exact absurd hs (by decide)
theorem M_adds {τ : zS} {N a : Nat} {T : Nat → Nat} (h5 : zi τ 0 = nI N) (hN : N ≤ 32) (hT : ∀ k, k < N → za τ 0 k = nI (T k) ∧ T k < 6000) (ha : a < 6000) : fX7_adds (nI a) τ = if plc T a N < N ∧ T (plc T a N) = a then some (-3, τ) else if N = 32 then some (-4, τ) else some (nI (plc T a N), wi (sa τ 0 (upd (shf (za τ 0) (plc T a N) N) (plc T a N) (nI a))) 0 (nI (N + 1))) := by
  unfold fX7_adds
  have ew : zw (nI a) 0 5999 = 1 := zw_1 0 5999 a (Nat.zero_le _) (by omega) (Nat.le_of_ble_eq_true rfl)
  rw [M_in, M_place h5 hN hT ha]
  simp only [zv, zy1, zy2, zy3, ew, if_neg one_ne, h5]
  have hl := plc_le T a N
  have h32 : nI N = 32 ↔ N = 32 := nI_eq (b := 32) (by omega) (by decide)
  have hc : (nI (plc T a N)).toNatClampNeg = plc T a N := nI_clamp (by omega)
  have core : N ≠ 32 → (zy1 (fX7_adds_58 (nI a) (nI (plc T a N)) 500 (nI N) τ) fun s4 => zg (zq (nI (plc T a N)) 32) (zv (wa s4 0 (nI (plc T a N)).toNatClampNeg (nI a)) fun s5 => zv (wi s5 0 (zi s5 0 + 1)) fun s6 => some (nI (plc T a N), s6))) = some (nI (plc T a N), wi (sa τ 0 (upd (shf (za τ 0) (plc T a N) N) (plc T a N) (nI a))) 0 (nI (N + 1))) := by
    intro h
    generalize plc T a N = p at hl hc ⊢
    have hs := M_shift (σ := τ) (v := nI a) (p := p) (by omega) 500 N (za τ 0) (by omega) (by omega)
    rw [sa_self] at hs
    rcases hs with hs | hs
    · have hzi : zi (sa τ 0 (upd (shf (za τ 0) p N) p (nI a))) 0 = nI N := h5
      simp only [zv, zy1, zy2, zy3, hs, zgq (show p < 32 by omega), hc, wa_on, hzi, nI_1]
    · exact absurd hs (by decide)
  simp only [zv, zy1, zy2, zy3] at core
  rw [hc] at core
  by_cases h : plc T a N < N
  · have t := hT _ h
    rw [if_neg (nI_ge h (by omega)), zgq (by omega), hc, t.1]
    by_cases h2 : T (plc T a N) = a
    · have c1 : nI (T (plc T a N)) = nI a := by rw [h2]
      have c2 : plc T a N < N ∧ T (plc T a N) = a := ⟨h, h2⟩
      rw [if_pos c1, if_pos c2]
    · have c1 : ¬ nI (T (plc T a N)) = nI a := fun z => h2 ((nI_eq (by omega) (by omega)).mp z)
      have c2 : ¬ (plc T a N < N ∧ T (plc T a N) = a) := fun z => h2 z.2
      rw [if_neg c1, if_neg c2]
      by_cases h3 : N = 32
      · rw [if_pos (h32.mpr h3), if_pos h3]
      · have c3 : ¬ nI N = 32 := fun z => h3 (h32.mp z)
        rw [if_neg c3, if_neg h3]
        exact core h3
  · have c2 : ¬ (plc T a N < N ∧ T (plc T a N) = a) := fun z => h z.1
    rw [if_pos (nI_le (by omega) (by omega)), if_neg c2]
    by_cases h3 : N = 32
    · rw [if_pos (h32.mpr h3), if_pos h3]
    · have c3 : ¬ nI N = 32 := fun z => h3 (h32.mp z)
      rw [if_neg c3, if_neg h3, hc]
      exact core h3
theorem zw_time {v : Int32} : zw v 0 5999 = 0 ∨ ∃ k, k < 6000 ∧ v = nI k ∧ zw v 0 5999 = 1 := by
  rcases zw_C (v := v) 0 5999 (Nat.le_of_ble_eq_true rfl) (Nat.le_of_ble_eq_true rfl) with e | ⟨k, _, h2, h3, h4⟩
  · exact Or.inl e
  · exact Or.inr ⟨k, by omega, h3, h4⟩
/-- one edge more, on both sides -/
theorem addStep {σ τ : zS} (h : Rel σ τ) (h4 : zi σ 4 = 1) (v : Int32) :
    (zw v 0 5999 = 0 ∧ fX7_adds v τ = some (-2, τ)) ∨ (zw v 0 5999 = 1 ∧ fX5_holds v σ = some 1 ∧ fX7_adds v τ = some (-3, τ)) ∨ (zw v 0 5999 = 1 ∧ fX5_holds v σ = some 0 ∧ fX5_isFull σ = some 1 ∧ fX7_adds v τ = some (-4, τ)) ∨ (zw v 0 5999 = 1 ∧ fX5_holds v σ = some 0 ∧ fX5_isFull σ = some 0 ∧ ∃ p σ' τ', p < 100 ∧ fX5_insert v σ = some (nI p, σ') ∧ fX7_adds v τ = some (nI p, τ') ∧ Rel σ' τ' ∧ zi σ' 4 = 1) := by
  obtain ⟨N, T, B, S, H, G, ga, gb, P, V, h1, h2, h3, h4', h5, h6, h7, h8, h9⟩ := h
  rcases zw_time (v := v) with e | ⟨a, ha, rfl, e⟩
  · left
    refine ⟨e, ?_⟩
    unfold fX7_adds
    rw [M_in]
    simp only [zv, zy1, zy2, zy3, e, if_true]
  · right
    have eh := X_holds h1.1 h1.2.2.1 (RT_T h1) ha
    have ef := X_full h1.1 h1.2.2.1
    have em := M_adds h1.2.1 h1.2.2.1 (RT_T' h1) ha
    by_cases c1 : plc T a N < N ∧ T (plc T a N) = a
    · left
      rw [if_pos c1] at eh em
      exact ⟨e, eh, em⟩
    · right
      rw [if_neg c1] at eh em
      by_cases c2 : N = 32
      · left
        rw [if_pos c2] at em
        rw [if_neg (by omega)] at ef
        exact ⟨e, eh, ef, em⟩
      · right
        have hN : N < 32 := by have := h1.2.2.1; omega
        rw [if_neg c2] at em
        rw [if_pos hN] at ef
        have hl := plc_le T a N
        refine ⟨e, eh, ef, plc T a N, _, _, by omega, X_insert h1.1 hN (RT_T h1) ha, em, ?_, h4⟩
        exact ⟨N + 1, insK T a (plc T a N), B, S, H, G, ga, gb, P, V, RT_ins h1 hN ha c1, h2, h3, h4', h5, h6, h7, RS_wiM (RS_saM (RS_wi (RS_sa h8 (by decide)) (by decide)) (by decide) (by decide) (by decide)), Or.inl h4⟩
theorem Rel_stale {σ τ : zS} (h : Rel σ τ) : Rel (wi σ 4 1) τ := by
  obtain ⟨N, T, B, S, H, G, ga, gb, P, V, h1, h2, h3, h4, h5, h6, h7, h8, h9⟩ := h
  exact ⟨N, T, B, S, H, G, ga, gb, P, V, h1, h2, h3, h4, h5, h6, h7, RS_wi h8 (by decide), Or.inl rfl⟩
theorem X_holds_4 {σ τ : zS} (h : Rel σ τ) {v : Int32} (hv : zw v 0 5999 = 1) : fX5_holds v (wi σ 4 1) = fX5_holds v σ ∧ fX5_isFull (wi σ 4 1) = fX5_isFull σ := by
  obtain ⟨N, T, B, S, H, G, ga, gb, P, V, h1, h2, h3, h4, h5, h6, h7, h8, h9⟩ := h
  rcases zw_time (v := v) with e | ⟨a, ha, rfl, e⟩
  · rw [e] at hv; exact absurd hv (by decide)
  · rw [X_holds h1.1 h1.2.2.1 (RT_T h1) ha, X_holds (σ := wi σ 4 1) h1.1 h1.2.2.1 (RT_T h1) ha, X_full h1.1 h1.2.2.1, X_full (σ := wi σ 4 1) h1.1 h1.2.2.1]
    exact ⟨rfl, rfl⟩
theorem ok_edge_ : ok_edge Rel := by
  intro σ τ v h
  unfold fX6_edge fX7_edge
  rw [X_isTime]
  have st := addStep (Rel_stale h) rfl v
  rcases st with ⟨e, m⟩ | ⟨e, eh, m⟩ | ⟨e, eh, ef, m⟩ | ⟨e, eh, ef, p, σ', τ', hp, hi, m, hR, _⟩
  · refine ⟨-2, σ, τ, ?_, ?_, h⟩
    · simp only [zv, zy1, zy2, zy3, e, if_true]
    · simp only [zv, zy1, zy2, zy3, m]
  · rw [(X_holds_4 h e).1] at eh
    refine ⟨-3, σ, τ, ?_, ?_, h⟩
    · simp only [zv, zy1, zy2, zy3, e, eh, if_neg one_ne]
    · simp only [zv, zy1, zy2, zy3, m]
  · rw [(X_holds_4 h e).1] at eh
    rw [(X_holds_4 h e).2] at ef
    refine ⟨-4, σ, τ, ?_, ?_, h⟩
    · simp only [zv, zy1, zy2, zy3, e, eh, ef, if_neg one_ne, if_true]
    · simp only [zv, zy1, zy2, zy3, m]
  · rw [(X_holds_4 h e).1] at eh
    rw [(X_holds_4 h e).2] at ef
    refine ⟨nI p, σ', τ', ?_, ?_, hR⟩
    · simp only [zv, zy1, zy2, zy3, e, eh, ef, hi, if_neg one_ne, if_true]
    · simp only [zv, zy1, zy2, zy3, m]
theorem edgesLoop (a d n : Int32) : ∀ f k σ τ, Rel σ τ → zi σ 4 = 1 → ∀ N, n = nI N → N ≤ 32 → N < k + f → k ≤ N → ∃ r σ' τ', fX6_edges_39 a d n f (nI k) σ = some (r, σ') ∧ fX7_edges_38 a d n f (nI k) τ = some (r, τ') ∧ Rel σ' τ' := by
  intro f
  induction f with
  | zero => intro k σ τ _ _ N _ _ h1 h2; omega
  | succ f ih =>
    intro k σ τ h h4 N hn hN h1 h2
    rw [fX6_edges_39, fX7_edges_38, hn]
    by_cases c : N ≤ k
    · have e : k = N := by omega
      subst e
      rw [if_pos (nI_le (Nat.le_refl _) (by omega)), if_pos (nI_le (Nat.le_refl _) (by omega))]
      exact ⟨_, _, _, rfl, rfl, h⟩
    · rw [if_neg (nI_ge (by omega) (by omega)), if_neg (nI_ge (by omega) (by omega))]
      have ec : d * nI k = nI k * d := Int32.mul_comm _ _
      simp only [zv, zy1, zy2, zy3, X_isTime, ec]
      have hf : fX5_isFull σ = some 0 ∨ fX5_isFull σ = some 1 := by
        unfold fX5_isFull
        split
        · exact Or.inl rfl
        · exact Or.inr rfl
      rcases addStep h h4 (a + nI k * d) with ⟨e, m⟩ | ⟨e, eh, m⟩ | ⟨e, eh, ef, m⟩ | ⟨e, eh, ef, p, σ', τ', hp, hi, m, hR, hs⟩
      · refine ⟨nI k, σ, τ, ?_, ?_, h⟩
        · rcases hf with hf | hf
          · simp only [hf, e, if_true]
          · simp only [hf, if_neg one_ne]
        · simp only [m]
          rfl
      · refine ⟨nI k, σ, τ, ?_, ?_, h⟩
        · rcases hf with hf | hf
          · simp only [hf, e, eh, if_true, if_neg one_ne]
          · simp only [hf, if_neg one_ne]
        · simp only [m]
          rfl
      · refine ⟨nI k, σ, τ, ?_, ?_, h⟩
        · simp only [ef, if_neg one_ne]
        · simp only [m]
          rfl
      · obtain ⟨r, s1, t1, g1, g2, g3⟩ := ih (k + 1) σ' τ' hR hs N hn hN (by omega) (by omega)
        refine ⟨r, s1, t1, ?_, ?_, g3⟩
        · simp only [ef, e, eh, hi, if_true, if_neg one_ne, nI_1]
          rw [← hn]
          exact g1
        · simp only [m, if_neg (nI_pos (show p < 2 ^ 31 by omega)), nI_1]
          rw [← hn]
          exact g2
theorem ok_edges_ : ok_edges Rel := by
  intro σ τ a d n h
  unfold fX6_edges fX7_edges
  rw [X_isTime, M_in, X_within, M_in, X_within, M_in]
  rcases zw01 a 0 5999 with e1 | e1
  · refine ⟨-2, σ, τ, ?_, ?_, h⟩ <;> simp only [zv, zy1, zy2, zy3, e1, if_true]
  rcases zw01 d 1 600 with e2 | e2
  · refine ⟨-2, σ, τ, ?_, ?_, h⟩ <;> simp only [zv, zy1, zy2, zy3, e1, e2, if_true, if_neg one_ne]
  rcases zw_C (v := n) 1 32 (by decide) (by decide) with e3 | ⟨k, _, hk, en, e3⟩
  · have e3 : zw n 1 32 = 0 := e3
    refine ⟨-2, σ, τ, ?_, ?_, h⟩ <;> simp only [zv, zy1, zy2, zy3, e1, e2, e3, if_true, if_neg one_ne]
  · have e3 : zw n 1 32 = 1 := e3
    obtain ⟨r, s1, t1, g1, g2, g3⟩ := edgesLoop a d n 500 0 (wi σ 4 1) τ (Rel_stale h) rfl k en hk (by omega) (by omega)
    rw [nI_0] at g1 g2
    refine ⟨r, s1, t1, ?_, ?_, g3⟩
    · simp only [zv, zy1, zy2, zy3, e1, e2, e3, if_neg one_ne, g1]
    · simp only [zv, zy1, zy2, zy3, e1, e2, e3, if_neg one_ne, g2]
theorem ok_gone_ : ok_gone Rel := by
  intro σ τ v h
  obtain ⟨N, T, B, S, H, G, ga, gb, P, V, h1, h2, h3, h4, h5, h6, h7, h8, h9⟩ := id h
  unfold fX6_gone fX7_gone
  rw [X_isEdge, M_isEdge, h1.1, h1.2.1]
  have hN := h1.2.2.1
  rcases zw_N (v := v) N (by omega) with e | ⟨i, hi, rfl, e⟩
  · refine ⟨-2, σ, τ, ?_, ?_, h⟩ <;> simp only [zv, zy1, zy2, zy3, e, if_true]
  · have t := h1.2.2.2.1 i hi
    have hc : (nI i).toNatClampNeg = i := nI_clamp (by omega)
    have e1 : nI N - 1 = nI (N - 1) := nI_sub (a := N) (b := 1) (by omega)
    have e' := e
    rw [e1] at e'
    have d1 := X_drop (σ := wi (wi σ 4 1) 5 (nI (N - 1))) (v := nI (T i)) (N := N - 1) rfl (by omega) 499 i (za σ 1) (by omega) (by omega)
    have s1 : sa (wi (wi σ 4 1) 5 (nI (N - 1))) 1 (za σ 1) = wi (wi σ 4 1) 5 (nI (N - 1)) := sa_self (wi (wi σ 4 1) 5 (nI (N - 1))) 1
    rw [s1] at d1
    have d2 := M_drop (σ := wi τ 0 (nI (N - 1))) (v := nI (T i)) (N := N - 1) rfl (by omega) 499 i (za τ 0) (by omega) (by omega)
    have s2 : sa (wi τ 0 (nI (N - 1))) 0 (za τ 0) = wi τ 0 (nI (N - 1)) := sa_self (wi τ 0 (nI (N - 1))) 0
    rw [s2] at d2
    refine ⟨nI (T i), sa (wi (wi σ 4 1) 5 (nI (N - 1))) 1 (shl (za σ 1) i (N - 1)), sa (wi τ 0 (nI (N - 1))) 0 (shl (za τ 0) i (N - 1)), ?_, ?_, ?_⟩
    · simp only [zv, zy1, zy2, zy3, e, if_neg one_ne, fX5_removeAt, zgq (show i < 32 by omega), zi_wi, zi_wl, zi_wa, zi_wj, zi_wd, zl_wi, zl_wl, zl_wa, zl_wj, zl_wd, za_wi, za_wl, za_wa, za_wj, za_wd, zj_wi, zj_wl, zj_wa, zj_wj, zj_wd, zd_wi, zd_wl, zd_wa, zd_wj, zd_wd, Nat.reduceEqDiff, reduceIte, Nat.reduceAdd, hc, t.1, h1.1, e1, e', d1]
    · simp only [zv, zy1, zy2, zy3, e, if_neg one_ne, zgq (show i < 32 by omega), zi_wi, zi_wl, zi_wa, zi_wj, zi_wd, zl_wi, zl_wl, zl_wa, zl_wj, zl_wd, za_wi, za_wl, za_wa, za_wj, za_wd, zj_wi, zj_wl, zj_wa, zj_wj, zj_wd, zd_wi, zd_wl, zd_wa, zd_wj, zd_wd, Nat.reduceEqDiff, reduceIte, Nat.reduceAdd, hc, t.2.1, h1.2.1, e1, e', d2]
    · exact ⟨N - 1, _, B, S, H, G, ga, gb, P, V, RT_del h1 hi, h2, h3, h4, h5, h6, h7, RS_saM (RS_wiM (RS_sa (RS_wi (RS_wi h8 (by decide)) (by decide)) (by decide))) (by decide) (by decide) (by decide), Or.inl rfl⟩

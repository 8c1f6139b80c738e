theorem zn64_of {r : UInt64} (h : Jvm.FP.Core.val64 r ≠ .nan) : zn64 r = true := by
  have h1 := (Jvm.FP.Core.ne_nan r).mp h
  unfold zn64
  refine decide_eq_true ?_
  rw [UInt64.le_iff_toNat_le, UInt64.toNat_and]
  have e : (0x7fffffffffffffff : UInt64).toNat = 2 ^ 63 - 1 := by decide
  have e2 : (0x7ff0000000000000 : UInt64).toNat = 9218868437227405312 := by decide
  rw [e, e2, Nat.and_two_pow_sub_one_eq_mod]
  exact h1
theorem zn32_of {r : UInt32} (h : Jvm.FP.Core.val32 r ≠ .nan) : zn32 r = true := by
  have h1 := (Jvm.FP.Core.ne_nan32 r).mp h
  unfold zn32
  refine decide_eq_true ?_
  rw [UInt32.le_iff_toNat_le, UInt32.toNat_and]
  have e : (0x7fffffff : UInt32).toNat = 2 ^ 31 - 1 := by decide
  have e2 : (0x7f800000 : UInt32).toNat = 2139095040 := by decide
  rw [e, e2, Nat.and_two_pow_sub_one_eq_mod]
  exact h1
theorem eight_val : Jvm.FP.Core.val64 eight = .fin false 4503599627370496 (-49) := by decide +kernel
theorem eightF_val : Jvm.FP.Core.val32 (1090519040 : UInt32) = .fin false 8388608 (-20) := by decide +kernel
theorem good_of {x : UInt64} (h : Jvm.FP.Core.val64 x ≠ .nan) : zn64 (FP.dmul eight x) = true := by
  apply zn64_of
  show Jvm.FP.Core.val64 (Jvm.FP.Core.dmul eight x) ≠ .nan
  rw [Jvm.FP.Core.val64_dmul, Ne, Jvm.FP.Core.round_nan, Jvm.FP.Core.exactProduct_nan, eight_val]
  rintro (q | q | ⟨s, t, r, q, _⟩ | ⟨s, t, r, q, _⟩)
  · cases q
  · exact h q
  · cases q
  · cases q
theorem d8_val (v : Int32) : Jvm.FP.Core.val64 (FP.ddiv (FP.i2d v) eight) ≠ .nan := by
  show Jvm.FP.Core.val64 (Jvm.FP.Core.ddiv (Jvm.FP.Core.i2d v) eight) ≠ .nan
  rw [Jvm.FP.Core.val64_ddiv, Ne, Jvm.FP.Core.quotient_nan, eight_val]
  obtain ⟨s, c, q, e⟩ := Jvm.FP.Core.i2d_fin v
  rw [e]
  rintro (q | q | ⟨_, _, q, _⟩ | ⟨_, _, _, _, _, q⟩) <;> cases q
theorem f8_val (v : Int32) : Jvm.FP.Core.val32 (FP.fdiv (FP.i2f v) (1090519040 : UInt32)) ≠ .nan := by
  show Jvm.FP.Core.val32 (Jvm.FP.Core.fdiv (Jvm.FP.Core.i2f v) 1090519040) ≠ .nan
  rw [Jvm.FP.Core.val32_fdiv, Ne, Jvm.FP.Core.quotient_nan, eightF_val]
  rintro (q | q | ⟨_, _, _, q⟩ | ⟨_, _, _, _, _, q⟩)
  · rw [Jvm.FP.Core.val32_i2f, Jvm.FP.Core.round_nan] at q
    cases q
  · cases q
  · cases q
  · cases q
theorem f8d_val (v : Int32) : Jvm.FP.Core.val64 (FP.f2d (FP.fdiv (FP.i2f v) (1090519040 : UInt32))) ≠ .nan := by
  have h := f8_val v
  generalize FP.fdiv (FP.i2f v) (1090519040 : UInt32) = a at h
  have hn : ¬ Jvm.FP.Core.fIsNaN a = true := fun z => h ((Jvm.FP.Core.fIsNaN_iff a).mp z)
  unfold FP.f2d
  rw [if_neg hn, Jvm.FP.Core.val64_f2d, Ne, Jvm.FP.Core.round_nan]
  exact h
theorem lq_val {a b : Int64} (h : b ≠ 0) : Jvm.FP.Core.val64 (FP.ddiv (FP.l2d a) (FP.l2d b)) ≠ .nan := by
  show Jvm.FP.Core.val64 (Jvm.FP.Core.ddiv (Jvm.FP.Core.l2d a) (Jvm.FP.Core.l2d b)) ≠ .nan
  rw [Jvm.FP.Core.val64_ddiv, Ne, Jvm.FP.Core.quotient_nan]
  obtain ⟨s, c, q, e⟩ := Jvm.FP.Core.l2d_fin a
  obtain ⟨s', c', q', e'⟩ := Jvm.FP.Core.l2d_fin b
  have hz := Jvm.FP.Core.l2d_ne_zero h
  rw [e]
  rintro (z | z | ⟨_, _, z, _⟩ | ⟨_, _, _, _, _, z⟩)
  · cases z
  · rw [e'] at z; cases z
  · cases z
  · exact hz (by rw [← Jvm.FP.Core.zero_bits2]; exact ⟨_, _, z⟩)
theorem zero_val : Jvm.FP.Core.val64 FP.dconst0 ≠ .nan := by decide +kernel
/-- what a call on sheets keeps -/
theorem Rel_sh {σ τ σ' τ' : zS} (h : Rel σ τ) (a1 : ∀ j, j < 20 → j ≠ 3 → zi σ' j = zi σ j) (a2 : zl σ' = zl σ) (a3 : ∀ j, j < 20 → za σ' j = za σ j) (a4 : ∀ j, j < 10 → zj σ' j = zj σ j) (b1 : ∀ j, j ≠ 5 → zi τ' j = zi τ j) (b3 : ∀ j, j < 11 → za τ' j = za τ j) (hf : zi σ' 3 = zi τ' 5) (hs : RS σ' τ') : Rel σ' τ' := by
  obtain ⟨N, T, B, S, H, G, ga, gb, P, V, h1, h2, h3, h4, h5, h6, h7, h8, h9⟩ := h
  refine ⟨N, T, B, S, H, G, ga, gb, P, V, ?_, ?_, ?_, ?_, ?_, ?_, hf, hs, ?_⟩
  · rw [a1 5 (by omega) (by omega), b1 0 (by omega), a3 1 (by omega), b3 0 (by omega)]; exact h1
  · rw [a1 6 (by omega) (by omega), a3 2 (by omega), b3 1 (by omega), b3 3 (by omega), b3 4 (by omega)]; exact h2
  · rw [a1 7 (by omega) (by omega), a3 3 (by omega), b3 2 (by omega)]; exact h3
  · rw [a1 0 (by omega) (by omega), a3 0 (by omega), b1 1 (by omega), b3 5 (by omega)]; exact h4
  · rw [a1 8 (by omega) (by omega), a3 4 (by omega), a3 5 (by omega), b1 4 (by omega), b3 9 (by omega), b3 10 (by omega)]; exact h5
  · rw [a1 1 (by omega) (by omega), a1 2 (by omega) (by omega), b1 2 (by omega), b1 3 (by omega)]; exact h6
  · unfold RD at h9 ⊢
    rw [a1 4 (by omega) (by omega), a1 0 (by omega) (by omega), a3 0 (by omega), a1 9 (by omega) (by omega), a1 10 (by omega) (by omega), a1 11 (by omega) (by omega), a1 12 (by omega) (by omega), a1 13 (by omega) (by omega), a2, a3 6 (by omega), a3 7 (by omega), a3 8 (by omega), a3 9 (by omega), a3 10 (by omega), a3 11 (by omega), a4 0 (by omega), a4 2 (by omega), a4 3 (by omega)]
    exact h9
theorem Rel_RS {σ τ : zS} (h : Rel σ τ) : RS σ τ ∧ zi σ 3 = zi τ 5 := by
  obtain ⟨N, T, B, S, H, G, ga, gb, P, V, h1, h2, h3, h4, h5, h6, h7, h8, h9⟩ := h
  exact ⟨h8, h7⟩
theorem Rel_find {σ τ : zS} (h : Rel σ τ) (n : Int32) : Rel (wi σ 3 n) (wi τ 5 n) := by
  refine Rel_sh h (fun j _ h3 => ?_) rfl (fun _ _ => rfl) (fun _ _ => rfl) (fun j h5 => ?_) (fun _ _ => rfl) rfl (RS_wiM (RS_wi (Rel_RS h).1 (by decide)))
  · rw [zi_wi, if_neg h3]
  · rw [zi_wi, if_neg h5]
theorem X_find (n : Int32) (σ : zS) : fX6_finding n σ = some (-10 - n, wi σ 3 n) := rfl
theorem M_meet (n : Int32) (τ : zS) : fX7_meets n τ = some (-10 - n, wi τ 5 n) := rfl
theorem zw_sh {v : Int32} : zw v 0 3 = 0 ∨ ∃ k, k < 4 ∧ v = nI k ∧ zw v 0 3 = 1 ∧ (nI k).toNatClampNeg = k := by
  rcases zw_C (v := v) 0 3 (by decide) (by decide) with e | ⟨k, _, h2, h3, h4⟩
  · exact Or.inl e
  · exact Or.inr ⟨k, by omega, h3, h4, nI_clamp (by omega)⟩
theorem ok_lose_ : ok_lose Rel := by
  intro σ τ v h
  unfold fX6_lose fX7_lose
  rw [X_isSheet, M_isSheet]
  rcases zw_sh (v := v) with e | ⟨k, hk, rfl, e, hc⟩
  · refine ⟨-2, σ, τ, ?_, ?_, h⟩ <;> simp only [zv, zy1, zy2, zy3, e, if_true]
  have hs := (Rel_RS h).1
  obtain ⟨r1, r2, r3, r4⟩ := hs k hk
  by_cases q : zi σ (20 + k) = -1
  · have q' : za τ 11 k = -1 := by rw [← r1]; exact q
    refine ⟨-10 - 1, wi σ 3 1, wi τ 5 1, ?_, ?_, Rel_find h 1⟩
    · simp only [zv, zy1, zy2, zy3, e, if_neg one_ne, zgq hk, hc, fX3_isLost, if_pos q, X_find]
    · simp only [zv, zy1, zy2, zy3, e, if_neg one_ne, zgq hk, hc, if_pos q', M_meet]
  · have q' : ¬ za τ 11 k = -1 := by rw [← r1]; exact q
    refine ⟨zi σ (30 + k), wi σ (20 + k) (-1), wa τ 11 k (-1), ?_, ?_, ?_⟩
    · have g : zi (wi σ (20 + k) (-1)) (30 + k) = zi σ (30 + k) := by rw [zi_wi, if_neg (by omega)]
      simp only [zv, zy1, zy2, zy3, e, if_neg one_ne, zgq hk, hc, fX3_isLost, if_neg q, g, if_true]
    · have g : za (wa τ 11 k (-1)) 12 k = za τ 12 k := rfl
      simp only [zv, zy1, zy2, zy3, e, if_neg one_ne, zgq hk, hc, if_neg q', g]
      rw [r2]
    · refine Rel_sh h (fun j hj _ => by rw [zi_wi, if_neg (by omega)]) rfl (fun _ _ => rfl) (fun _ _ => rfl) (fun _ _ => rfl) (fun j hj => by rw [za_wa, if_neg (by omega)]) ?_ ?_
      · rw [zi_wi, if_neg (by omega)]
        exact (Rel_RS h).2
      · intro j hj
        have hj' := hs j hj
        have g2 : zi (wi σ (20 + k) (-1)) (30 + j) = zi σ (30 + j) := by rw [zi_wi, if_neg (by omega)]
        have g3 : za (wa τ 11 k (-1)) 11 = upd (za τ 11) k (-1) := rfl
        rw [g2, g3]
        by_cases z : j = k
        · subst z
          have g1 : zi (wi σ (20 + j) (-1)) (20 + j) = -1 := by rw [zi_wi, if_pos rfl]
          rw [g1, upd_s]
          exact ⟨rfl, hj'.2.1, hj'.2.2.1, Or.inl rfl⟩
        · have g1 : zi (wi σ (20 + k) (-1)) (20 + j) = zi σ (20 + j) := by rw [zi_wi, if_neg (by omega)]
          rw [g1, upd_n z]
          exact hj'
def zr {α : Type} (f : Nat → α) (z : α) (i n : Nat) : Nat → α := fun k => if i ≤ k ∧ k < n then z else f k
def sj (σ : zS) (k : Nat) (g : Nat → Int64) : zS := (σ.1, σ.2.1, σ.2.2.1, fun j => if j = k then g else σ.2.2.2.1 j, σ.2.2.2.2)
def sd (σ : zS) (k : Nat) (g : Nat → UInt64) : zS := (σ.1, σ.2.1, σ.2.2.1, σ.2.2.2.1, fun j => if j = k then g else σ.2.2.2.2 j)
theorem zj_sj (σ : zS) (k j : Nat) (g : Nat → Int64) : zj (sj σ k g) j = if j = k then g else zj σ j := rfl
theorem zd_sd (σ : zS) (k j : Nat) (g : Nat → UInt64) : zd (sd σ k g) j = if j = k then g else zd σ j := rfl
theorem za_saj (σ : zS) (k j : Nat) (g : Nat → Int32) : za (sa σ k g) j = if j = k then g else za σ j := rfl
/-- three rows written: wholes at a, reals at b, marks at c -/
def s3 (σ : zS) (a b c : Nat) (w : Nat → Int64) (r : Nat → UInt64) (m : Nat → Int32) : zS := sa (sd (sj σ a w) b r) c m
theorem s3_self (σ : zS) (a b c : Nat) : s3 σ a b c (zj σ a) (zd σ b) (za σ c) = σ := by
  have e1 : (fun j => if j = a then σ.2.2.2.1 a else σ.2.2.2.1 j) = σ.2.2.2.1 := by
    funext j; split
    · next h => rw [h]
    · rfl
  have e2 : (fun j => if j = b then σ.2.2.2.2 b else σ.2.2.2.2 j) = σ.2.2.2.2 := by
    funext j; split
    · next h => rw [h]
    · rfl
  have e3 : (fun j => if j = c then σ.2.2.1 c else σ.2.2.1 j) = σ.2.2.1 := by
    funext j; split
    · next h => rw [h]
    · rfl
  show (σ.1, σ.2.1, (fun j => if j = c then σ.2.2.1 c else σ.2.2.1 j), (fun j => if j = a then σ.2.2.2.1 a else σ.2.2.2.1 j), (fun j => if j = b then σ.2.2.2.2 b else σ.2.2.2.2 j)) = σ
  rw [e1, e2, e3]
theorem s3_w {σ : zS} {a b c i : Nat} {w : Nat → Int64} {r : Nat → UInt64} {m : Nat → Int32} {x : Int64} : wj (s3 σ a b c w r m) a i x = s3 σ a b c (vp_updL w i x) r m := by
  unfold wj s3 sa sd sj
  refine Prod.ext rfl (Prod.ext rfl (Prod.ext rfl (Prod.ext ?_ rfl)))
  funext j
  by_cases h : j = a
  · subst h; simp only [if_true]
  · simp only [if_neg h]
theorem s3_r {σ : zS} {a b c i : Nat} {w : Nat → Int64} {r : Nat → UInt64} {m : Nat → Int32} {x : UInt64} : wd (s3 σ a b c w r m) b i x = s3 σ a b c w (vf_upd r i x) m := by
  unfold wd s3 sa sd sj
  refine Prod.ext rfl (Prod.ext rfl (Prod.ext rfl (Prod.ext rfl ?_)))
  funext j
  by_cases h : j = b
  · subst h; simp only [if_true]
  · simp only [if_neg h]
theorem s3_m {σ : zS} {a b c i : Nat} {w : Nat → Int64} {r : Nat → UInt64} {m : Nat → Int32} {x : Int32} : wa (s3 σ a b c w r m) c i x = s3 σ a b c w r (upd m i x) := by
  unfold wa s3 sa sd sj
  refine Prod.ext rfl (Prod.ext rfl (Prod.ext ?_ rfl))
  funext j
  by_cases h : j = c
  · subst h; simp only [if_true]
  · simp only [if_neg h]
theorem zr_s {α : Type} {f : Nat → α} {z : α} {i n : Nat} (h : i < n) (u : Nat → α) (hu : ∀ k, u k = if k = i then z else f k) : zr u z (i + 1) n = zr f z i n := by
  funext k
  unfold zr
  by_cases c : i + 1 ≤ k ∧ k < n
  · rw [if_pos c, if_pos (by omega)]
  · rw [if_neg c, hu]
    by_cases e : k = i
    · rw [if_pos e, if_pos (by omega)]
    · rw [if_neg e, if_neg (by omega)]
theorem zr_L {w : Nat → Int64} {z : Int64} {i n : Nat} (h : i < n) : zr (vp_updL w i z) z (i + 1) n = zr w z i n := zr_s h _ (fun _ => rfl)
theorem zr_D {w : Nat → UInt64} {z : UInt64} {i n : Nat} (h : i < n) : zr (vf_upd w i z) z (i + 1) n = zr w z i n := zr_s h _ (fun _ => rfl)
theorem zr_I {w : Nat → Int32} {z : Int32} {i n : Nat} (h : i < n) : zr (upd w i z) z (i + 1) n = zr w z i n := zr_s h _ (fun _ => rfl)
theorem zr_e {α : Type} {f : Nat → α} {z : α} {i n : Nat} (h : n ≤ i) : zr f z i n = f := by
  funext k
  unfold zr
  rw [if_neg (by omega)]
theorem X_begin {σ : zS} {k : Nat} : ∀ n i w r m, i ≤ 40 → 40 < i + n → fX3_begin_12 k n (nI i) (s3 σ (10 + k) (0 + k) (20 + k) w r m) = some (s3 σ (10 + k) (0 + k) (20 + k) (zr w 0 i 40) (zr r FP.dconst0 i 40) (zr m 0 i 40)) := by
  intro n
  induction n with
  | zero => intro i w r m h1 h2; omega
  | succ n ih =>
    intro i w r m h1 h2
    rw [fX3_begin_12]
    by_cases c : 40 ≤ i
    · have c1 : (40 : Int32) ≤ nI i := nI_le (a := 40) c (by omega)
      rw [if_pos c1, zr_e c, zr_e c, zr_e c]
    · have c1 : ¬ (40 : Int32) ≤ nI i := nI_ge (b := 40) (by omega) (by decide)
      have hcl : (nI i).toNatClampNeg = i := nI_clamp (by omega)
      simp only [if_neg c1, zv, zgq (show i < 40 by omega), hcl, nar0, s3_w, s3_r, s3_m, nI_1]
      rw [ih (i + 1) _ _ _ (by omega) (by omega), zr_L (by omega), zr_D (by omega), zr_I (by omega)]
theorem M_begin {τ : zS} {k : Nat} {v3 : Int32} (hk : k < 4) : ∀ n i w r m, 40 * k ≤ i → i ≤ 40 * k + 40 → 40 * k + 40 < i + n → fX7_sheet_55 (nI k) v3 n (nI i) (s3 τ 2 0 13 w r m) = some (s3 τ 2 0 13 (zr w 0 i (40 * k + 40)) (zr r FP.dconst0 i (40 * k + 40)) (zr m 0 i (40 * k + 40))) := by
  have e40 : (40 : Int32) * nI k + 40 = nI (40 * k + 40) := by
    show nI 40 * nI k + nI 40 = _
    rw [nI_mul, nI_add]
  intro n
  induction n with
  | zero => intro i w r m _ h1 h2; omega
  | succ n ih =>
    intro i w r m h0 h1 h2
    rw [fX7_sheet_55, e40]
    by_cases c : 40 * k + 40 ≤ i
    · rw [if_pos (nI_le c (by omega)), zr_e c, zr_e c, zr_e c]
    · have hcl : (nI i).toNatClampNeg = i := nI_clamp (by omega)
      simp only [if_neg (nI_ge (show i < 40 * k + 40 by omega) (show 40 * k + 40 < 2 ^ 31 by omega)), zv, zgq (show i < 160 by omega), hcl, nar0, s3_w, s3_r, s3_m, nI_1]
      rw [ih (i + 1) _ _ _ (by omega) (by omega) (by omega), zr_L (by omega), zr_D (by omega), zr_I (by omega)]
theorem ok_sheet_ : ok_sheet Rel := by
  intro σ τ v f n h
  unfold fX6_sheet fX7_sheet
  rw [X_isSheet, M_isSheet, X_isForm, M_in]
  rcases zw_sh (v := v) with e | ⟨k, hk, rfl, e, hc⟩
  · refine ⟨-2, σ, τ, ?_, ?_, h⟩ <;> simp only [zv, zy1, zy2, zy3, e, if_true]
  rcases zw_sh (v := f) with e2 | ⟨fm, hf, rfl, e2, _⟩
  · refine ⟨-2, σ, τ, ?_, ?_, h⟩ <;> simp only [zv, zy1, zy2, zy3, e, e2, if_true, if_neg one_ne]
  by_cases c1 : n ≤ 40
  · by_cases c2 : 0 ≤ n
    · have hn0 : ¬ n < 0 := by
        rw [Int32.le_iff_toInt_le] at c2
        rw [Int32.lt_iff_toInt_lt]
        omega
      obtain ⟨sz, hsz, rfl⟩ := nI_of2 (n := 40) (M := 40) (by decide) hn0 c1
      have e40 : (40 : Int32) * nI k = nI (40 * k) := nI_mul 40 k
      have x1 := X_begin (σ := wi (wi σ (20 + k) (nI fm)) (30 + k) (nI sz)) (k := k) 500 0 (zj σ (10 + k)) (zd σ (0 + k)) (za σ (20 + k)) (by omega) (by omega)
      have x2 : s3 (wi (wi σ (20 + k) (nI fm)) (30 + k) (nI sz)) (10 + k) (0 + k) (20 + k) (zj σ (10 + k)) (zd σ (0 + k)) (za σ (20 + k)) = wi (wi σ (20 + k) (nI fm)) (30 + k) (nI sz) := s3_self (wi (wi σ (20 + k) (nI fm)) (30 + k) (nI sz)) _ _ _
      rw [x2, nI_0] at x1
      have y1 := M_begin (τ := wa (wa τ 11 k (nI fm)) 12 k (nI sz)) (k := k) (v3 := nI sz) hk 500 (40 * k) (zj τ 2) (zd τ 0) (za τ 13) (by omega) (by omega) (by omega)
      have y2 : s3 (wa (wa τ 11 k (nI fm)) 12 k (nI sz)) 2 0 13 (zj τ 2) (zd τ 0) (za τ 13) = wa (wa τ 11 k (nI fm)) 12 k (nI sz) := s3_self (wa (wa τ 11 k (nI fm)) 12 k (nI sz)) _ _ _
      rw [y2] at y1
      refine ⟨nI sz, s3 (wi (wi σ (20 + k) (nI fm)) (30 + k) (nI sz)) (10 + k) (0 + k) (20 + k) (zr (zj σ (10 + k)) 0 0 40) (zr (zd σ (0 + k)) FP.dconst0 0 40) (zr (za σ (20 + k)) 0 0 40), s3 (wa (wa τ 11 k (nI fm)) 12 k (nI sz)) 2 0 13 (zr (zj τ 2) 0 (40 * k) (40 * k + 40)) (zr (zd τ 0) FP.dconst0 (40 * k) (40 * k + 40)) (zr (za τ 13) 0 (40 * k) (40 * k + 40)), ?_, ?_, ?_⟩
      · simp only [zv, zy1, zy2, zy3, e, e2, if_neg one_ne, if_pos c1, if_pos c2, zgq hk, hc, fX3_begin, x1]
      · simp only [zv, zy1, zy2, zy3, e, e2, if_neg one_ne, if_pos c1, if_pos c2, zgq hk, hc, e40, y1]
      · refine Rel_sh h ?_ rfl ?_ ?_ (fun _ _ => rfl) ?_ ?_ ?_
        · intro j hj _
          show zi (wi (wi σ (20 + k) (nI fm)) (30 + k) (nI sz)) j = _
          rw [zi_wi, if_neg (by omega), zi_wi, if_neg (by omega)]
        · intro j hj
          exact if_neg (by omega)
        · intro j hj
          exact if_neg (by omega)
        · intro j hj
          show za (s3 _ 2 0 13 _ _ _) j = _
          unfold s3
          rw [za_saj, if_neg (by omega)]
          show za (wa (wa τ 11 k (nI fm)) 12 k (nI sz)) j = _
          rw [za_wa, if_neg (by omega), za_wa, if_neg (by omega)]
        · show zi (wi (wi σ (20 + k) (nI fm)) (30 + k) (nI sz)) 3 = zi τ 5
          rw [zi_wi, if_neg (by omega), zi_wi, if_neg (by omega)]
          exact (Rel_RS h).2
        · intro j hj
          have hj' := (Rel_RS h).1 j hj
          have g1 : zi (s3 (wi (wi σ (20 + k) (nI fm)) (30 + k) (nI sz)) (10 + k) (0 + k) (20 + k) (zr (zj σ (10 + k)) 0 0 40) (zr (zd σ (0 + k)) FP.dconst0 0 40) (zr (za σ (20 + k)) 0 0 40)) = zi (wi (wi σ (20 + k) (nI fm)) (30 + k) (nI sz)) := rfl
          have g2 : ∀ i, zj (s3 (wi (wi σ (20 + k) (nI fm)) (30 + k) (nI sz)) (10 + k) (0 + k) (20 + k) (zr (zj σ (10 + k)) 0 0 40) (zr (zd σ (0 + k)) FP.dconst0 0 40) (zr (za σ (20 + k)) 0 0 40)) i = if i = 10 + k then zr (zj σ (10 + k)) 0 0 40 else zj σ i := fun _ => rfl
          have g3 : ∀ i, zd (s3 (wi (wi σ (20 + k) (nI fm)) (30 + k) (nI sz)) (10 + k) (0 + k) (20 + k) (zr (zj σ (10 + k)) 0 0 40) (zr (zd σ (0 + k)) FP.dconst0 0 40) (zr (za σ (20 + k)) 0 0 40)) i = if i = 0 + k then zr (zd σ (0 + k)) FP.dconst0 0 40 else zd σ i := fun _ => rfl
          have g4 : ∀ i, za (s3 (wi (wi σ (20 + k) (nI fm)) (30 + k) (nI sz)) (10 + k) (0 + k) (20 + k) (zr (zj σ (10 + k)) 0 0 40) (zr (zd σ (0 + k)) FP.dconst0 0 40) (zr (za σ (20 + k)) 0 0 40)) i = if i = 20 + k then zr (za σ (20 + k)) 0 0 40 else za σ i := fun _ => rfl
          have t1 : za (s3 (wa (wa τ 11 k (nI fm)) 12 k (nI sz)) 2 0 13 (zr (zj τ 2) 0 (40 * k) (40 * k + 40)) (zr (zd τ 0) FP.dconst0 (40 * k) (40 * k + 40)) (zr (za τ 13) 0 (40 * k) (40 * k + 40))) 11 = upd (za τ 11) k (nI fm) := rfl
          have t2 : za (s3 (wa (wa τ 11 k (nI fm)) 12 k (nI sz)) 2 0 13 (zr (zj τ 2) 0 (40 * k) (40 * k + 40)) (zr (zd τ 0) FP.dconst0 (40 * k) (40 * k + 40)) (zr (za τ 13) 0 (40 * k) (40 * k + 40))) 12 = upd (za τ 12) k (nI sz) := rfl
          have t3 : zj (s3 (wa (wa τ 11 k (nI fm)) 12 k (nI sz)) 2 0 13 (zr (zj τ 2) 0 (40 * k) (40 * k + 40)) (zr (zd τ 0) FP.dconst0 (40 * k) (40 * k + 40)) (zr (za τ 13) 0 (40 * k) (40 * k + 40))) 2 = zr (zj τ 2) 0 (40 * k) (40 * k + 40) := rfl
          have t4 : zd (s3 (wa (wa τ 11 k (nI fm)) 12 k (nI sz)) 2 0 13 (zr (zj τ 2) 0 (40 * k) (40 * k + 40)) (zr (zd τ 0) FP.dconst0 (40 * k) (40 * k + 40)) (zr (za τ 13) 0 (40 * k) (40 * k + 40))) 0 = zr (zd τ 0) FP.dconst0 (40 * k) (40 * k + 40) := rfl
          have t5 : za (s3 (wa (wa τ 11 k (nI fm)) 12 k (nI sz)) 2 0 13 (zr (zj τ 2) 0 (40 * k) (40 * k + 40)) (zr (zd τ 0) FP.dconst0 (40 * k) (40 * k + 40)) (zr (za τ 13) 0 (40 * k) (40 * k + 40))) 13 = zr (za τ 13) 0 (40 * k) (40 * k + 40) := rfl
          rw [g1, g2, g3, g4, t1, t2, t3, t4, t5]
          by_cases z : j = k
          · subst z
            rw [zi_wi, if_neg (by omega), zi_wi, if_pos rfl, zi_wi, if_pos rfl, if_pos rfl, if_pos rfl, if_pos rfl, upd_s, upd_s]
            have zw0 : ∀ i, i < 40 → zr (zj σ (10 + j)) (0 : Int64) 0 40 i = 0 := fun i hi => if_pos (by omega)
            have zw1 : ∀ i, i < 40 → zr (zj τ 2) (0 : Int64) (40 * j) (40 * j + 40) (40 * j + i) = 0 := fun i hi => if_pos (by omega)
            have zd0 : ∀ i, i < 40 → zr (zd σ (0 + j)) FP.dconst0 0 40 i = FP.dconst0 := fun i hi => if_pos (by omega)
            have zd1 : ∀ i, i < 40 → zr (zd τ 0) FP.dconst0 (40 * j) (40 * j + 40) (40 * j + i) = FP.dconst0 := fun i hi => if_pos (by omega)
            have za0 : ∀ i, i < 40 → zr (za σ (20 + j)) (0 : Int32) 0 40 i = 0 := fun i hi => if_pos (by omega)
            have za1 : ∀ i, i < 40 → zr (za τ 13) (0 : Int32) (40 * j) (40 * j + 40) (40 * j + i) = 0 := fun i hi => if_pos (by omega)
            refine ⟨rfl, rfl, ⟨sz, hsz, rfl⟩, Or.inr ?_⟩
            by_cases f2 : fm < 2
            · left
              refine ⟨?_, fun i hi => ⟨(zw0 i hi).trans (zw1 i hi).symm, za0 i hi⟩⟩
              rcases (show fm = 0 ∨ fm = 1 by omega) with y | y
              · left; rw [y]; rfl
              · right; rw [y]; rfl
            · right
              refine ⟨?_, fun i hi => ⟨(za0 i hi).trans (za1 i hi).symm, Or.inl (za0 i hi), fun _ => ⟨(zd0 i hi).trans (zd1 i hi).symm, by rw [zd0 i hi]; exact good_of zero_val⟩⟩⟩
              rcases (show fm = 2 ∨ fm = 3 by omega) with y | y
              · left; rw [y]; rfl
              · right; rw [y]; rfl
          · rw [zi_wi, if_neg (by omega), zi_wi, if_neg (by omega), zi_wi, if_neg (by omega), zi_wi, if_neg (by omega), if_neg (by omega), if_neg (by omega), if_neg (by omega), upd_n z, upd_n z]
            have u1 : (fun i => zr (zj τ 2) (0 : Int64) (40 * k) (40 * k + 40) (40 * j + i)) = fun i => if 40 * k ≤ 40 * j + i ∧ 40 * j + i < 40 * k + 40 then 0 else zj τ 2 (40 * j + i) := rfl
            obtain ⟨q1, q2, q3, q4⟩ := hj'
            refine ⟨q1, q2, q3, ?_⟩
            have ne : ∀ i, i < 40 → ¬ (40 * k ≤ 40 * j + i ∧ 40 * j + i < 40 * k + 40) := fun i hi => by omega
            rcases q4 with q4 | ⟨q5, q6⟩ | ⟨q5, q6⟩
            · exact Or.inl q4
            · refine Or.inr (Or.inl ⟨q5, fun i hi => ?_⟩)
              have := q6 i hi
              refine ⟨?_, this.2⟩
              show _ = zr (zj τ 2) (0 : Int64) (40 * k) (40 * k + 40) (40 * j + i)
              unfold zr
              rw [if_neg (ne i hi)]
              exact this.1
            · refine Or.inr (Or.inr ⟨q5, fun i hi => ?_⟩)
              have := q6 i hi
              have v1 : zr (za τ 13) (0 : Int32) (40 * k) (40 * k + 40) (40 * j + i) = za τ 13 (40 * j + i) := if_neg (ne i hi)
              have v2 : zr (zd τ 0) FP.dconst0 (40 * k) (40 * k + 40) (40 * j + i) = zd τ 0 (40 * j + i) := if_neg (ne i hi)
              show _ = zr (za τ 13) (0 : Int32) (40 * k) (40 * k + 40) (40 * j + i) ∧ _ ∧ (_ → _ = zr (zd τ 0) FP.dconst0 (40 * k) (40 * k + 40) (40 * j + i) ∧ _)
              rw [v1, v2]
              exact this
    · refine ⟨-10 - 5, wi σ 3 5, wi τ 5 5, ?_, ?_, Rel_find h 5⟩
      · simp only [zv, zy1, zy2, zy3, e, e2, if_neg one_ne, if_pos c1, if_neg c2, X_find]
      · simp only [zv, zy1, zy2, zy3, e, e2, if_neg one_ne, if_pos c1, if_neg c2, M_meet]
  · refine ⟨-2, σ, τ, ?_, ?_, h⟩ <;> simp only [zv, zy1, zy2, zy3, e, e2, if_neg one_ne, if_neg c1]

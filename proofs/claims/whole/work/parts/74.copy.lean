theorem zj_s3 (σ : zS) (a b c j : Nat) (w : Nat → Int64) (r : Nat → UInt64) (m : Nat → Int32) : zj (s3 σ a b c w r m) j = if j = a then w else zj σ j := rfl
theorem zd_s3 (σ : zS) (a b c j : Nat) (w : Nat → Int64) (r : Nat → UInt64) (m : Nat → Int32) : zd (s3 σ a b c w r m) j = if j = b then r else zd σ j := rfl
theorem za_s3 (σ : zS) (a b c j : Nat) (w : Nat → Int64) (r : Nat → UInt64) (m : Nat → Int32) : za (s3 σ a b c w r m) j = if j = c then m else za σ j := rfl
theorem zi_s3 (σ : zS) (a b c j : Nat) (w : Nat → Int64) (r : Nat → UInt64) (m : Nat → Int32) : zi (s3 σ a b c w r m) j = zi σ j := rfl
/-- the steps from p to q are copied: from s on, to t on -/
def cpy {α : Type} (f g : Nat → α) (t s p q : Nat) : Nat → α := fun x => if t + p ≤ x ∧ x < t + q then g (s + (x - t)) else f x
theorem cpy_0 {α : Type} (f g : Nat → α) (t s p : Nat) : cpy f g t s p p = f := by
  funext x
  unfold cpy
  rw [if_neg (by omega)]
theorem cpy_up {α : Type} {f g u : Nat → α} {t s p q : Nat} (h : p ≤ q) (hu : ∀ x, u x = if x = t + q then g (s + q) else cpy f g t s p q x) : u = cpy f g t s p (q + 1) := by
  funext x
  rw [hu]
  unfold cpy
  by_cases e : x = t + q
  · rw [if_pos e, if_pos (by omega), e]
    congr 1
    omega
  · rw [if_neg e]
    by_cases c : t + p ≤ x ∧ x < t + q
    · rw [if_pos c, if_pos (by omega)]
    · rw [if_neg c, if_neg (by omega)]
theorem cpy_dn {α : Type} {f g u : Nat → α} {t s p q : Nat} (h : p < q) (hu : ∀ x, u x = if x = t + p then g (s + p) else cpy f g t s (p + 1) q x) : u = cpy f g t s p q := by
  funext x
  rw [hu]
  unfold cpy
  by_cases e : x = t + p
  · rw [if_pos e, if_pos (by omega), e]
    congr 1
    omega
  · rw [if_neg e]
    by_cases c : t + (p + 1) ≤ x ∧ x < t + q
    · rw [if_pos c, if_pos (by omega)]
    · rw [if_neg c, if_neg (by omega)]
theorem cpy_out {α : Type} {f g : Nat → α} {t s p q x : Nat} (h : x < t + p ∨ t + q ≤ x) : cpy f g t s p q x = f x := by
  unfold cpy
  rw [if_neg (by omega)]
def zcp (σ : zS) (kd ks t s p q : Nat) : zS := s3 σ (10 + kd) (0 + kd) (20 + kd) (cpy (zj σ (10 + kd)) (zj σ (10 + ks)) t s p q) (cpy (zd σ (0 + kd)) (zd σ (0 + ks)) t s p q) (cpy (za σ (20 + kd)) (za σ (20 + ks)) t s p q)
/-- one step of take -/
theorem X_take1 {σ : zS} {kd ks s t p q x : Nat} {K : zS → Option zS} (hb : ∀ i, i < 40 → vp_nar .boolean (za σ (20 + ks) i) = za σ (20 + ks) i) (hs : s + x < 40) (ht : t + x < 40) (ho : s + x < t + p ∨ t + q ≤ s + x) :
    zg (zq (nI s + nI x) 40) (zg (zq (nI t + nI x) 40) (zv (wj (zcp σ kd ks t s p q) (10 + kd) (nI t + nI x).toNatClampNeg (zj (zcp σ kd ks t s p q) (10 + ks) (nI s + nI x).toNatClampNeg)) (fun (s2 : zS) =>
    zg (zq (nI s + nI x) 40) (zg (zq (nI t + nI x) 40) (zv (wd s2 (0 + kd) (nI t + nI x).toNatClampNeg (zd s2 (0 + ks) (nI s + nI x).toNatClampNeg)) (fun (s3 : zS) =>
    zg (zq (nI s + nI x) 40) (zg (zq (nI t + nI x) 40) (zv (wa s3 (20 + kd) (nI t + nI x).toNatClampNeg (vp_nar .boolean (za s3 (20 + ks) (nI s + nI x).toNatClampNeg))) K))))))))
    = K (s3 σ (10 + kd) (0 + kd) (20 + kd) (vp_updL (cpy (zj σ (10 + kd)) (zj σ (10 + ks)) t s p q) (t + x) (zj σ (10 + ks) (s + x))) (vf_upd (cpy (zd σ (0 + kd)) (zd σ (0 + ks)) t s p q) (t + x) (zd σ (0 + ks) (s + x))) (upd (cpy (za σ (20 + kd)) (za σ (20 + ks)) t s p q) (t + x) (za σ (20 + ks) (s + x)))) := by
  have c1 : (nI (s + x)).toNatClampNeg = s + x := nI_clamp (by omega)
  have c2 : (nI (t + x)).toNatClampNeg = t + x := nI_clamp (by omega)
  have r1 : ∀ w r m, w = cpy (zj σ (10 + kd)) (zj σ (10 + ks)) t s p q → zj (s3 σ (10 + kd) (0 + kd) (20 + kd) w r m) (10 + ks) (s + x) = zj σ (10 + ks) (s + x) := by
    intro w r m e
    rw [zj_s3]
    by_cases c : 10 + ks = 10 + kd
    · rw [if_pos c, e, cpy_out ho, c]
    · rw [if_neg c]
  have r2 : ∀ w r m, r = cpy (zd σ (0 + kd)) (zd σ (0 + ks)) t s p q → zd (s3 σ (10 + kd) (0 + kd) (20 + kd) w r m) (0 + ks) (s + x) = zd σ (0 + ks) (s + x) := by
    intro w r m e
    rw [zd_s3]
    by_cases c : 0 + ks = 0 + kd
    · rw [if_pos c, e, cpy_out ho, c]
    · rw [if_neg c]
  have r3 : ∀ w r m, m = cpy (za σ (20 + kd)) (za σ (20 + ks)) t s p q → za (s3 σ (10 + kd) (0 + kd) (20 + kd) w r m) (20 + ks) (s + x) = za σ (20 + ks) (s + x) := by
    intro w r m e
    rw [za_s3]
    by_cases c : 20 + ks = 20 + kd
    · rw [if_pos c, e, cpy_out ho, c]
    · rw [if_neg c]
  unfold zcp
  simp only [nI_add, zgq hs, zgq ht, zv, c1, c2, s3_w, s3_r, s3_m]
  rw [r1 _ _ _ rfl, r2 _ _ _ rfl, r3 _ _ _ rfl, hb (s + x) hs]
theorem zcp_up {σ : zS} {kd ks s t p q : Nat} (h : p ≤ q) : s3 σ (10 + kd) (0 + kd) (20 + kd) (vp_updL (cpy (zj σ (10 + kd)) (zj σ (10 + ks)) t s p q) (t + q) (zj σ (10 + ks) (s + q))) (vf_upd (cpy (zd σ (0 + kd)) (zd σ (0 + ks)) t s p q) (t + q) (zd σ (0 + ks) (s + q))) (upd (cpy (za σ (20 + kd)) (za σ (20 + ks)) t s p q) (t + q) (za σ (20 + ks) (s + q))) = zcp σ kd ks t s p (q + 1) := by
  unfold zcp
  rw [cpy_up h (u := vp_updL _ _ _) (fun _ => rfl), cpy_up h (u := vf_upd _ _ _) (fun _ => rfl), cpy_up h (u := upd _ _ _) (fun _ => rfl)]
theorem zcp_dn {σ : zS} {kd ks s t p q : Nat} (h : p < q) : s3 σ (10 + kd) (0 + kd) (20 + kd) (vp_updL (cpy (zj σ (10 + kd)) (zj σ (10 + ks)) t s (p + 1) q) (t + p) (zj σ (10 + ks) (s + p))) (vf_upd (cpy (zd σ (0 + kd)) (zd σ (0 + ks)) t s (p + 1) q) (t + p) (zd σ (0 + ks) (s + p))) (upd (cpy (za σ (20 + kd)) (za σ (20 + ks)) t s (p + 1) q) (t + p) (za σ (20 + ks) (s + p))) = zcp σ kd ks t s p q := by
  unfold zcp
  rw [cpy_dn h (u := vp_updL _ _ _) (fun _ => rfl), cpy_dn h (u := vf_upd _ _ _) (fun _ => rfl), cpy_dn h (u := upd _ _ _) (fun _ => rfl)]
theorem X_take {σ : zS} {kd ks s t n : Nat} (hb : ∀ i, i < 40 → vp_nar .boolean (za σ (20 + ks) i) = za σ (20 + ks) i) (hs : s + n ≤ 40) (ht : t + n ≤ 40) : fX3_take kd ks (nI s) (nI t) (nI n) σ = some (zcp σ kd ks t s 0 n) := by
  unfold fX3_take
  by_cases c : t ≤ s
  · have loop : ∀ m j, j ≤ n → n < j + m → fX3_take_3 kd ks (nI s) (nI t) (nI n) m (nI j) (zcp σ kd ks t s 0 j) = some (zcp σ kd ks t s 0 n) := by
      intro m
      induction m with
      | zero => intro j h1 h2; omega
      | succ m ih =>
        intro j h1 h2
        rw [fX3_take_3]
        by_cases q : n ≤ j
        · rw [if_pos (nI_le q (by omega))]
          rw [show j = n by omega]
        · have ng : ¬ nI n ≤ nI j := nI_ge (by omega) (by omega)
          have c1 : nI t ≤ nI s := nI_le c (by omega)
          rw [if_neg ng, if_pos c1]
          simp only [zy1]
          rw [X_take1 (σ := σ) (kd := kd) hb (show s + j < 40 by omega) (show t + j < 40 by omega) (by omega), zcp_up (by omega), nI_1]
          exact ih (j + 1) (by omega) (by omega)
    have e := loop 500 0 (by omega) (by omega)
    have e0 : zcp σ kd ks t s 0 0 = σ := by
      unfold zcp
      rw [cpy_0, cpy_0, cpy_0, s3_self]
    rw [e0, nI_0] at e
    simp only [zy1, e]
  · have loop : ∀ m j, j ≤ n → n < j + m → fX3_take_3 kd ks (nI s) (nI t) (nI n) m (nI j) (zcp σ kd ks t s (n - j) n) = some (zcp σ kd ks t s 0 n) := by
      intro m
      induction m with
      | zero => intro j h1 h2; omega
      | succ m ih =>
        intro j h1 h2
        rw [fX3_take_3]
        by_cases q : n ≤ j
        · rw [if_pos (nI_le q (by omega))]
          rw [show n - j = 0 by omega]
        · have ng : ¬ nI n ≤ nI j := nI_ge (by omega) (by omega)
          have c1 : ¬ nI t ≤ nI s := nI_ge (by omega) (by omega)
          have e1 : nI n - 1 - nI j = nI (n - 1 - j) := by
            have e2 : nI n - 1 = nI (n - 1) := nI_sub (a := n) (b := 1) (by omega)
            rw [e2, nI_sub (by omega)]
          rw [if_neg ng, if_neg c1, e1]
          simp only [zy1]
          have e3 : n - j = (n - 1 - j) + 1 := by omega
          rw [X_take1 (σ := σ) (kd := kd) hb (show s + (n - 1 - j) < 40 by omega) (show t + (n - 1 - j) < 40 by omega) (by omega), e3, zcp_dn (by omega), nI_1, show n - 1 - j = n - (j + 1) by omega]
          exact ih (j + 1) (by omega) (by omega)
    have e := loop 500 0 (by omega) (by omega)
    have e0 : zcp σ kd ks t s (n - 0) n = σ := by
      unfold zcp
      rw [Nat.sub_zero, cpy_0, cpy_0, cpy_0, s3_self]
    rw [e0, nI_0] at e
    simp only [zy1, e]
/-- the model: into the lines between, and out of them -/
def zcm (τ : zS) (a n : Nat) : zS := s3 τ 3 1 14 (cpy (zj τ 3) (zj τ 2) 0 a 0 n) (cpy (zd τ 1) (zd τ 0) 0 a 0 n) (cpy (za τ 14) (fun i => vp_nar .boolean (za τ 13 i)) 0 a 0 n)
def zcn (τ : zS) (b n : Nat) : zS := s3 τ 2 0 13 (cpy (zj τ 2) (zj τ 3) b 0 0 n) (cpy (zd τ 0) (zd τ 1) b 0 0 n) (cpy (za τ 13) (fun i => vp_nar .boolean (za τ 14 i)) b 0 0 n)
theorem M_in1 {τ : zS} {ks s n : Nat} {v3 v4 : Int32} (hk : ks < 4) (hs : s + n ≤ 40) : fX7_copy_122 (nI ks) (nI s) v3 v4 (nI n) 500 0 τ = some (zcm τ (40 * ks + s) n) := by
  have loop : ∀ m j, j ≤ n → n < j + m → fX7_copy_122 (nI ks) (nI s) v3 v4 (nI n) m (nI j) (zcm τ (40 * ks + s) j) = some (zcm τ (40 * ks + s) n) := by
    intro m
    induction m with
    | zero => intro j h1 h2; omega
    | succ m ih =>
      intro j h1 h2
      rw [fX7_copy_122]
      by_cases q : n ≤ j
      · rw [if_pos (nI_le q (by omega))]
        rw [show j = n by omega]
      · have ng : ¬ nI n ≤ nI j := nI_ge (by omega) (by omega)
        have c1 : (nI (40 * ks + s + j)).toNatClampNeg = 40 * ks + s + j := nI_clamp (by omega)
        have c2 : (nI j).toNatClampNeg = j := nI_clamp (by omega)
        have nx : zcm τ (40 * ks + s) (j + 1) = s3 τ 3 1 14 (vp_updL (cpy (zj τ 3) (zj τ 2) 0 (40 * ks + s) 0 j) j (zj τ 2 (40 * ks + s + j))) (vf_upd (cpy (zd τ 1) (zd τ 0) 0 (40 * ks + s) 0 j) j (zd τ 0 (40 * ks + s + j))) (upd (cpy (za τ 14) (fun i => vp_nar .boolean (za τ 13 i)) 0 (40 * ks + s) 0 j) j (vp_nar .boolean (za τ 13 (40 * ks + s + j)))) := by
          unfold zcm
          rw [← cpy_up (Nat.zero_le j) (u := vp_updL _ _ _) (fun x => by rw [Nat.zero_add]; rfl), ← cpy_up (Nat.zero_le j) (u := vf_upd _ _ _) (fun x => by rw [Nat.zero_add]; rfl), ← cpy_up (Nat.zero_le j) (u := upd _ _ _) (fun x => by rw [Nat.zero_add]; rfl)]
        have e := ih (j + 1) (by omega) (by omega)
        rw [nx] at e
        rw [if_neg ng, at40, nI_add]
        unfold zcm at *
        simp only [zgq (show 40 * ks + s + j < 160 by omega), zgq (show j < 40 by omega), zv, c1, c2, s3_w, s3_r, s3_m, zj_s3, zd_s3, za_s3, nI_1, Nat.reduceEqDiff, if_false]
        exact e
  have e := loop 500 0 (by omega) (by omega)
  have e0 : zcm τ (40 * ks + s) 0 = τ := by
    unfold zcm
    rw [cpy_0, cpy_0, cpy_0, s3_self]
  rw [e0, nI_0] at e
  exact e
theorem M_out1 {τ : zS} {kd t n : Nat} (hk : kd < 4) (hs : t + n ≤ 40) : fX7_copy_201 (nI kd) (nI t) (nI n) 500 0 τ = some (zcn τ (40 * kd + t) n) := by
  have loop : ∀ m j, j ≤ n → n < j + m → fX7_copy_201 (nI kd) (nI t) (nI n) m (nI j) (zcn τ (40 * kd + t) j) = some (zcn τ (40 * kd + t) n) := by
    intro m
    induction m with
    | zero => intro j h1 h2; omega
    | succ m ih =>
      intro j h1 h2
      rw [fX7_copy_201]
      by_cases q : n ≤ j
      · rw [if_pos (nI_le q (by omega))]
        rw [show j = n by omega]
      · have ng : ¬ nI n ≤ nI j := nI_ge (by omega) (by omega)
        have c1 : (nI (40 * kd + t + j)).toNatClampNeg = 40 * kd + t + j := nI_clamp (by omega)
        have c2 : (nI j).toNatClampNeg = j := nI_clamp (by omega)
        have nx : zcn τ (40 * kd + t) (j + 1) = s3 τ 2 0 13 (vp_updL (cpy (zj τ 2) (zj τ 3) (40 * kd + t) 0 0 j) (40 * kd + t + j) (zj τ 3 j)) (vf_upd (cpy (zd τ 0) (zd τ 1) (40 * kd + t) 0 0 j) (40 * kd + t + j) (zd τ 1 j)) (upd (cpy (za τ 13) (fun i => vp_nar .boolean (za τ 14 i)) (40 * kd + t) 0 0 j) (40 * kd + t + j) (vp_nar .boolean (za τ 14 j))) := by
          unfold zcn
          rw [← cpy_up (Nat.zero_le j) (u := vp_updL _ _ _) (fun x => by rw [Nat.zero_add]; rfl), ← cpy_up (Nat.zero_le j) (u := vf_upd _ _ _) (fun x => by rw [Nat.zero_add]; rfl), ← cpy_up (Nat.zero_le j) (u := upd _ _ _) (fun x => by rw [Nat.zero_add]; rfl)]
        have e := ih (j + 1) (by omega) (by omega)
        rw [nx] at e
        rw [if_neg ng, at40, nI_add]
        unfold zcn at *
        simp only [zgq (show 40 * kd + t + j < 160 by omega), zgq (show j < 40 by omega), zv, c1, c2, s3_w, s3_r, s3_m, zj_s3, zd_s3, za_s3, nI_1, Nat.reduceEqDiff, if_false]
        exact e
  have e := loop 500 0 (by omega) (by omega)
  have e0 : zcn τ (40 * kd + t) 0 = τ := by
    unfold zcn
    rw [cpy_0, cpy_0, cpy_0, s3_self]
  rw [e0, nI_0] at e
  exact e
theorem X_range {σ : zS} {k sz a n : Nat} (h : zi σ (30 + k) = nI sz) (hs : sz ≤ 40) (ha : a < 2 ^ 31) (hn : n < 2 ^ 31) : fX3_hasRange k (nI a) (nI n) σ = some (if a + n ≤ sz then 1 else 0) := by
  unfold fX3_hasRange
  rw [if_neg (nI_pos ha), if_neg (nI_pos hn), h]
  by_cases c : sz < a
  · rw [if_pos (nI_lt c ha), if_neg (by omega)]
  · rw [if_neg (nI_nlt (by omega) (by omega)), nI_sub (by omega)]
    by_cases c2 : a + n ≤ sz
    · rw [if_pos c2, if_neg (nI_nlt (by omega) (by omega))]
    · rw [if_neg c2, if_pos (nI_lt (by omega) hn)]
theorem X_range0 {σ : zS} {k : Nat} {v w : Int32} (h : v < 0 ∨ w < 0) : fX3_hasRange k v w σ = some 0 := by
  unfold fX3_hasRange
  by_cases c : v < 0
  · rw [if_pos c]
  · rw [if_neg c, if_pos (h.resolve_left c)]
theorem X_range01 {σ : zS} {k : Nat} {v w : Int32} : fX3_hasRange k v w σ = some 0 ∨ fX3_hasRange k v w σ = some 1 := by
  unfold fX3_hasRange
  by_cases c : v < 0
  · rw [if_pos c]; exact Or.inl rfl
  · rw [if_neg c]
    by_cases c : w < 0
    · rw [if_pos c]; exact Or.inl rfl
    · rw [if_neg c]
      split
      · exact Or.inl rfl
      · split
        · exact Or.inl rfl
        · exact Or.inr rfl
theorem RS_cpy {σ τ : zS} {kd ks s t n : Nat} (hs : RS σ τ) (hd : kd < 4) (hk : ks < 4) (h1 : s + n ≤ 40) (h2 : t + n ≤ 40) (hf : zi σ (20 + ks) = zi σ (20 + kd)) (hl : ¬ zi σ (20 + ks) = -1) : RS (zcp σ kd ks t s 0 n) (zcn (zcm τ (40 * ks + s) n) (40 * kd + t) n) := by
  have m1 : ∀ x, zj (zcn (zcm τ (40 * ks + s) n) (40 * kd + t) n) 2 x = if 40 * kd + t ≤ x ∧ x < 40 * kd + t + n then zj τ 2 (40 * ks + s + (x - (40 * kd + t))) else zj τ 2 x := by
    intro x
    show cpy (zj τ 2) (cpy (zj τ 3) (zj τ 2) 0 (40 * ks + s) 0 n) (40 * kd + t) 0 0 n x = _
    unfold cpy
    by_cases c : 40 * kd + t ≤ x ∧ x < 40 * kd + t + n
    · rw [if_pos (by omega), if_pos (by omega), if_pos c]
      congr 1; omega
    · rw [if_neg (by omega), if_neg c]
  have m2 : ∀ x, zd (zcn (zcm τ (40 * ks + s) n) (40 * kd + t) n) 0 x = if 40 * kd + t ≤ x ∧ x < 40 * kd + t + n then zd τ 0 (40 * ks + s + (x - (40 * kd + t))) else zd τ 0 x := by
    intro x
    show cpy (zd τ 0) (cpy (zd τ 1) (zd τ 0) 0 (40 * ks + s) 0 n) (40 * kd + t) 0 0 n x = _
    unfold cpy
    by_cases c : 40 * kd + t ≤ x ∧ x < 40 * kd + t + n
    · rw [if_pos (by omega), if_pos (by omega), if_pos c]
      congr 1; omega
    · rw [if_neg (by omega), if_neg c]
  have m3 : ∀ x, za (zcn (zcm τ (40 * ks + s) n) (40 * kd + t) n) 13 x = if 40 * kd + t ≤ x ∧ x < 40 * kd + t + n then vp_nar .boolean (vp_nar .boolean (za τ 13 (40 * ks + s + (x - (40 * kd + t))))) else za τ 13 x := by
    intro x
    show cpy (za τ 13) (fun i => vp_nar .boolean (cpy (za τ 14) (fun i => vp_nar .boolean (za τ 13 i)) 0 (40 * ks + s) 0 n i)) (40 * kd + t) 0 0 n x = _
    unfold cpy
    by_cases c : 40 * kd + t ≤ x ∧ x < 40 * kd + t + n
    · rw [if_pos (by omega), if_pos c]
      show vp_nar .boolean (if 0 + 0 ≤ 0 + (x - (40 * kd + t)) ∧ 0 + (x - (40 * kd + t)) < 0 + n then vp_nar .boolean (za τ 13 (40 * ks + s + (0 + (x - (40 * kd + t)) - 0))) else _) = _
      rw [if_pos (by omega), Nat.zero_add, Nat.sub_zero]
    · rw [if_neg (by omega), if_neg c]
  intro j hj
  have hj' := hs j hj
  have b1 : za (zcn (zcm τ (40 * ks + s) n) (40 * kd + t) n) 11 = za τ 11 := rfl
  have b2 : za (zcn (zcm τ (40 * ks + s) n) (40 * kd + t) n) 12 = za τ 12 := rfl
  have a1 : zi (zcp σ kd ks t s 0 n) = zi σ := rfl
  rw [b1, b2, a1]
  by_cases z : j = kd
  · subst z
    have x1 : zj (zcp σ j ks t s 0 n) (10 + j) = cpy (zj σ (10 + j)) (zj σ (10 + ks)) t s 0 n := if_pos rfl
    have x2 : zd (zcp σ j ks t s 0 n) (0 + j) = cpy (zd σ (0 + j)) (zd σ (0 + ks)) t s 0 n := if_pos rfl
    have x3 : za (zcp σ j ks t s 0 n) (20 + j) = cpy (za σ (20 + j)) (za σ (20 + ks)) t s 0 n := if_pos rfl
    rw [x1, x2, x3]
    obtain ⟨q1, q2, q3, q4⟩ := hj'
    obtain ⟨_, _, _, p4⟩ := hs ks hk
    rw [hf] at p4 hl
    refine ⟨q1, q2, q3, ?_⟩
    rcases q4 with q4 | ⟨q5, q6⟩ | ⟨q5, q6⟩
    · exact absurd q4 hl
    · rcases p4 with p4 | ⟨_, p6⟩ | ⟨p5, _⟩
      · exact absurd p4 hl
      · refine Or.inr (Or.inl ⟨q5, fun i hi => ?_⟩)
        show cpy _ _ _ _ _ _ i = zj _ 2 (40 * j + i) ∧ _
        rw [m1]
        unfold cpy
        by_cases c : t + 0 ≤ i ∧ i < t + n
        · rw [if_pos c, if_pos (by omega), if_pos c]
          have := p6 (s + (i - t)) (by omega)
          rw [show 40 * ks + s + (40 * j + i - (40 * j + t)) = 40 * ks + (s + (i - t)) by omega]
          exact this
        · rw [if_neg c, if_neg (by omega), if_neg c]
          exact q6 i hi
      · rcases q5 with q5 | q5 <;> rw [q5] at p5 <;> exact absurd p5 (by decide)
    · rcases p4 with p4 | ⟨p5, _⟩ | ⟨_, p6⟩
      · exact absurd p4 hl
      · rcases q5 with q5 | q5 <;> rw [q5] at p5 <;> exact absurd p5 (by decide)
      · refine Or.inr (Or.inr ⟨q5, fun i hi => ?_⟩)
        show cpy _ _ _ _ _ _ i = za _ 13 (40 * j + i) ∧ (cpy _ _ _ _ _ _ i = 0 ∨ cpy _ _ _ _ _ _ i = 1) ∧ (cpy _ _ _ _ _ _ i = 0 → cpy _ _ _ _ _ _ i = zd _ 0 (40 * j + i) ∧ _)
        rw [m3, m2]
        unfold cpy
        by_cases c : t + 0 ≤ i ∧ i < t + n
        · have p := p6 (s + (i - t)) (by omega)
          have p1 : za σ (20 + ks) (s + (i - t)) = za τ 13 (40 * ks + (s + (i - t))) := p.1
          simp only [if_pos c, if_pos (show 40 * j + t ≤ 40 * j + i ∧ 40 * j + i < 40 * j + t + n by omega)]
          rw [show 40 * ks + s + (40 * j + i - (40 * j + t)) = 40 * ks + (s + (i - t)) by omega]
          refine ⟨?_, p.2⟩
          rw [← p1]
          rcases p.2.1 with p2 | p2 <;> rw [p2] <;> decide
        · simp only [if_neg c, if_neg (show ¬ (40 * j + t ≤ 40 * j + i ∧ 40 * j + i < 40 * j + t + n) by omega)]
          exact q6 i hi
  · have x1 : zj (zcp σ kd ks t s 0 n) (10 + j) = zj σ (10 + j) := if_neg (by omega)
    have x2 : zd (zcp σ kd ks t s 0 n) (0 + j) = zd σ (0 + j) := if_neg (by omega)
    have x3 : za (zcp σ kd ks t s 0 n) (20 + j) = za σ (20 + j) := if_neg (by omega)
    rw [x1, x2, x3]
    obtain ⟨q1, q2, q3, q4⟩ := hj'
    refine ⟨q1, q2, q3, q4.imp id (Or.imp (fun ⟨q5, q6⟩ => ⟨q5, fun i hi => ?_⟩) (fun ⟨q5, q6⟩ => ⟨q5, fun i hi => ?_⟩))⟩
    · show _ = zj _ 2 (40 * j + i) ∧ _
      rw [m1, if_neg (by omega)]
      exact q6 i hi
    · show _ = za _ 13 (40 * j + i) ∧ _ ∧ (_ → _ = zd _ 0 (40 * j + i) ∧ _)
      rw [m2, m3, if_neg (by omega), if_neg (by omega)]
      exact q6 i hi
theorem ok_copy_ : ok_copy Rel := by
  intro σ τ v x w y n h
  unfold fX6_copy fX7_copy
  rw [X_isSheet, M_isSheet, X_isSheet, M_isSheet]
  rcases zw_sh (v := v) with e | ⟨ks, hk, rfl, e, hc⟩
  · refine ⟨-2, σ, τ, ?_, ?_, h⟩ <;> simp only [zv, zy1, zy2, zy3, e, if_true]
  rcases zw_sh (v := w) with e2 | ⟨kd, hd, rfl, e2, hc2⟩
  · refine ⟨-2, σ, τ, ?_, ?_, h⟩ <;> simp only [zv, zy1, zy2, zy3, e, e2, if_true, if_neg one_ne]
  have hs := (Rel_RS h).1
  obtain ⟨r1, r2, ⟨sz, hsz, r3⟩, r4⟩ := hs ks hk
  obtain ⟨p1, p2, ⟨sd, hsd, p3⟩, p4⟩ := hs kd hd
  by_cases nl : zi σ (20 + ks) = -1
  · have q' : za τ 11 ks = -1 := by rw [← r1]; exact nl
    refine ⟨-10 - 1, wi σ 3 1, wi τ 5 1, ?_, ?_, Rel_find h 1⟩
    · simp only [zv, zy1, zy2, zy3, e, e2, if_neg one_ne, zgq hk, zgq hd, hc, hc2, fX3_isLost, if_pos nl, X_find]
    · simp only [zv, zy1, zy2, zy3, e, e2, if_neg one_ne, zgq hk, zgq hd, hc, hc2, if_pos q', M_meet]
  have nl' : ¬ za τ 11 ks = -1 := by rw [← r1]; exact nl
  by_cases nd : zi σ (20 + kd) = -1
  · have q' : za τ 11 kd = -1 := by rw [← p1]; exact nd
    refine ⟨-10 - 1, wi σ 3 1, wi τ 5 1, ?_, ?_, Rel_find h 1⟩
    · simp only [zv, zy1, zy2, zy3, e, e2, if_neg one_ne, zgq hk, zgq hd, hc, hc2, fX3_isLost, if_neg nl, if_pos nd, if_true, X_find]
    · simp only [zv, zy1, zy2, zy3, e, e2, if_neg one_ne, zgq hk, zgq hd, hc, hc2, if_neg nl', if_pos q', M_meet]
  have nd' : ¬ za τ 11 kd = -1 := by rw [← p1]; exact nd
  by_cases hf : zi σ (20 + ks) = zi σ (20 + kd)
  · have hf' : za τ 11 ks = za τ 11 kd := by rw [← r1, ← p1]; exact hf
    have r3' : za τ 12 ks = nI sz := by rw [← r2]; exact r3
    have p3' : za τ 12 kd = nI sd := by rw [← p2]; exact p3
    -- a finding, or not
    have fd : (fX3_hasRange ks x n σ = some 0 ∨ fX3_hasRange kd y n σ = some 0) → (if x < 0 then (zy2 (fX7_meets 2 τ) (fun x7 s8 => some (x7, s8))) else if y < 0 then (zy2 (fX7_meets 2 τ) (fun x9 s10 => some (x9, s10))) else if n < 0 then (zy2 (fX7_meets 2 τ) (fun x11 s12 => some (x11, s12))) else if (za τ 12 ks).toInt64 < x.toInt64 + n.toInt64 then (zy2 (fX7_meets 2 τ) (fun x13 s14 => some (x13, s14))) else if y.toInt64 + n.toInt64 ≤ (za τ 12 kd).toInt64 then (zy1 (fX7_copy_122 (nI ks) x (nI kd) y n 500 0 τ) (fun (s15 : zS) => zy1 (fX7_copy_201 (nI kd) y n 500 0 s15) (fun (s16 : zS) => some ((1 : Int32), s16)))) else (zy2 (fX7_meets 2 τ) (fun x17 s18 => some (x17, s18)))) = some (-10 - 2, wi τ 5 2) := by
      intro hr
      simp only [zv, zy1, zy2, zy3, M_meet]
      by_cases c1 : x < 0
      · rw [if_pos c1]
      · rw [if_neg c1]
        by_cases c2 : y < 0
        · rw [if_pos c2]
        · rw [if_neg c2]
          by_cases c3 : n < 0
          · rw [if_pos c3]
          · rw [if_neg c3]
            obtain ⟨a, ha, rfl⟩ := nI_of c1
            obtain ⟨b, hb, rfl⟩ := nI_of c2
            obtain ⟨m, hm, rfl⟩ := nI_of c3
            rw [X_range r3 hsz ha hm, X_range p3 hsd hb hm] at hr
            rw [r3', p3', nI_l ha, nI_l hb, nI_l hm, nI_l (show sz < 2 ^ 31 by omega), nI_l (show sd < 2 ^ 31 by omega), lN_add, lN_add]
            by_cases c4 : sz < a + m
            · rw [if_pos ((lN_ltI (by omega) (by omega)).mpr c4)]
            · rw [if_neg (fun z => c4 ((lN_ltI (by omega) (by omega)).mp z))]
              have c5 : ¬ b + m ≤ sd := by
                intro z
                rw [if_pos z, if_pos (show a + m ≤ sz by omega)] at hr
                rcases hr with hr | hr <;> exact absurd hr (by decide)
              rw [if_neg (fun z => c5 ((lN_leI (by omega) (by omega)).mp z))]
    rcases X_range01 (σ := σ) (k := ks) (v := x) (w := n) with g1 | g1
    · refine ⟨-10 - 2, wi σ 3 2, wi τ 5 2, ?_, ?_, Rel_find h 2⟩
      · simp only [zv, zy1, zy2, zy3, e, e2, if_neg one_ne, zgq hk, zgq hd, hc, hc2, fX3_isLost, if_neg nl, if_neg nd, if_true, if_pos hf, g1, X_find]
      · have f := fd (Or.inl g1)
        simp only [zv, zy1, zy2, zy3] at f
        simp only [zv, zy1, zy2, zy3, e, e2, if_neg one_ne, zgq hk, zgq hd, hc, hc2, if_neg nl', if_neg nd', if_pos hf']
        exact f
    · rcases X_range01 (σ := σ) (k := kd) (v := y) (w := n) with g2 | g2
      · refine ⟨-10 - 2, wi σ 3 2, wi τ 5 2, ?_, ?_, Rel_find h 2⟩
        · simp only [zv, zy1, zy2, zy3, e, e2, if_neg one_ne, zgq hk, zgq hd, hc, hc2, fX3_isLost, if_neg nl, if_neg nd, if_true, if_pos hf, g1, g2, X_find]
        · have f := fd (Or.inr g2)
          simp only [zv, zy1, zy2, zy3] at f
          simp only [zv, zy1, zy2, zy3, e, e2, if_neg one_ne, zgq hk, zgq hd, hc, hc2, if_neg nl', if_neg nd', if_pos hf']
          exact f
      · have c1 : ¬ x < 0 := by
          intro z
          rw [X_range0 (Or.inl z)] at g1
          exact absurd g1 (by decide)
        have c3 : ¬ n < 0 := by
          intro z
          rw [X_range0 (Or.inr z)] at g1
          exact absurd g1 (by decide)
        have c2 : ¬ y < 0 := by
          intro z
          rw [X_range0 (Or.inl z)] at g2
          exact absurd g2 (by decide)
        obtain ⟨a, ha, rfl⟩ := nI_of c1
        obtain ⟨b, hb, rfl⟩ := nI_of c2
        obtain ⟨m, hm, rfl⟩ := nI_of c3
        have k1 : a + m ≤ sz := by
          apply Nat.le_of_not_lt
          intro z
          rw [X_range r3 hsz ha hm, if_neg (by omega)] at g1
          exact absurd g1 (by decide)
        have k2 : b + m ≤ sd := by
          apply Nat.le_of_not_lt
          intro z
          rw [X_range p3 hsd hb hm, if_neg (by omega)] at g2
          exact absurd g2 (by decide)
        have hbl : ∀ i, i < 40 → vp_nar .boolean (za σ (20 + ks) i) = za σ (20 + ks) i := by
          intro i hi
          rcases r4 with q | ⟨_, q⟩ | ⟨_, q⟩
          · exact absurd q nl
          · rw [(q i hi).2]; decide
          · rcases (q i hi).2.1 with z | z <;> rw [z] <;> decide
        refine ⟨1, zcp σ kd ks b a 0 m, zcn (zcm τ (40 * ks + a) m) (40 * kd + b) m, ?_, ?_, ?_⟩
        · simp only [zv, zy1, zy2, zy3, e, e2, if_neg one_ne, zgq hk, zgq hd, hc, hc2, fX3_isLost, if_neg nl, if_neg nd, if_true, if_pos hf, g1, g2, X_take (kd := kd) hbl (show a + m ≤ 40 by omega) (show b + m ≤ 40 by omega)]
        · have d1 : ¬ (za τ 12 ks).toInt64 < (nI a).toInt64 + (nI m).toInt64 := by
            rw [r3', nI_l ha, nI_l hm, nI_l (show sz < 2 ^ 31 by omega), lN_add]
            exact fun z => absurd ((lN_ltI (by omega) (by omega)).mp z) (by omega)
          have d2 : (nI b).toInt64 + (nI m).toInt64 ≤ (za τ 12 kd).toInt64 := by
            rw [p3', nI_l hb, nI_l hm, nI_l (show sd < 2 ^ 31 by omega), lN_add]
            exact (lN_leI (by omega) (by omega)).mpr k2
          simp only [zv, zy1, zy2, zy3, e, e2, if_neg one_ne, zgq hk, zgq hd, hc, hc2, if_neg nl', if_neg nd', if_pos hf', if_neg c1, if_neg c2, if_neg c3, if_neg d1, if_pos d2, M_in1 hk (show a + m ≤ 40 by omega), M_out1 hd (show b + m ≤ 40 by omega)]
        · refine Rel_sh h (fun _ _ _ => rfl) rfl (fun j hj => ?_) (fun j hj => ?_) (fun _ _ => rfl) (fun j hj => ?_) (Rel_RS h).2 (RS_cpy hs hd hk (by omega) (by omega) hf nl)
          · exact if_neg (by omega)
          · exact if_neg (by omega)
          · show (if j = 13 then _ else if j = 14 then _ else za τ j) = _
            rw [if_neg (by omega), if_neg (by omega)]
  · have hf' : ¬ za τ 11 ks = za τ 11 kd := by rw [← r1, ← p1]; exact hf
    refine ⟨-10 - 4, wi σ 3 4, wi τ 5 4, ?_, ?_, Rel_find h 4⟩
    · simp only [zv, zy1, zy2, zy3, e, e2, if_neg one_ne, zgq hk, zgq hd, hc, hc2, fX3_isLost, if_neg nl, if_neg nd, if_true, if_neg hf, X_find]
    · simp only [zv, zy1, zy2, zy3, e, e2, if_neg one_ne, zgq hk, zgq hd, hc, hc2, if_neg nl', if_neg nd', if_neg hf', M_meet]

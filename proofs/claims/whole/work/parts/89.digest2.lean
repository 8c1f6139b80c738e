theorem zy1_s {α β : Type} (a : α) (f : α → Option β) : zy1 (some a) f = f a := Eq.trans rfl rfl
theorem zy2_s {α γ β : Type} (a : α) (b : γ) (f : α → γ → Option β) : zy2 (some (a, b)) f = f a b := Eq.trans rfl rfl
theorem zv_s {α β : Type} (a : α) (f : α → Option β) : zv a f = f a := Eq.trans rfl rfl
theorem mix_s (a b : Int64) (s : zS) : fX6_mix a b s = some (31 * a + b) := Eq.trans rfl rfl
theorem ok_digest_ : ok_digest Rel := by
  intro σ τ h
  obtain ⟨N, T, B, S, H, G, ga, gb, P, V, md, hf⟩ := Rel_FD h
  obtain ⟨r1, σ1, τ1, a1, b1, e1⟩ := dg_count 17 hf
  obtain ⟨_, hc, hm⟩ := FD_B e1
  have mo := hc.2.2.2.2.2.2.2.2.2.2
  have mo' := hm.2.2.2.2.2.2
  obtain ⟨r2, a2, b2⟩ := dg_bins (31 * r1 + (nI md).toInt64) e1
  obtain ⟨r3, a3, b3⟩ := worstBoth (FD_Rel e1)
  obtain ⟨r4, σ4, τ4, a4, b4, e4⟩ := dg_edges (31 * r2 + r3.toInt64) e1
  obtain ⟨r5, σ5, τ5, a5, b5, e5⟩ := refBoth (w := 0) e4 (by decide)
  obtain ⟨r6, σ6, τ6, a6, b6, e6⟩ := refBoth (w := 1) e5 (by decide)
  obtain ⟨r7, σ7, τ7, a7, b7, e7⟩ := dg_gates (31 * (31 * r4 + r5) + r6) e6
  obtain ⟨r8, x1, σ8, σ9, τ9, y0, y1, a8, ⟨x2, a9, a10, a11, a12⟩, b8, e8⟩ := dg_line r7 e7
  obtain ⟨r9, σ10, τ10, a13, b13, e9, z9⟩ := dg_var r8 e8
  obtain ⟨r10, σ11, τ11, a14, b14, e10⟩ := dg_rank r9 e9 z9
  refine ⟨r10, σ11, τ11, ?_, ?_, FD_Rel e10⟩
  · unfold fX6_digest
    rw [a1, zy2_s, mo, zy1_s, mix_s, zy1_s, a2, zy1_s, a3, zy1_s, mix_s, zy1_s, a4, zy2_s, a5, zy2_s, mix_s, zy1_s, a6, zy2_s, mix_s, zy1_s, a7, zy2_s, a8, zy2_s, a9, zy2_s, a10, zy1_s, mix_s, zy1_s, a11, zy1_s, mix_s, zy1_s, a12]
    unfold fX6_mixSpans
    rw [a13, zy2_s, a14, zy2_s, zy2_s]
  · unfold fX7_digest
    rw [b1, zy2_s, mo', zy1_s, zv_s, b2, zy1_s, b3, zy1_s, zv_s, b4, zy2_s, b5, zy2_s, zv_s, b6, zy2_s, zv_s, b7, zy2_s, b8, zy2_s, b13, zy2_s, b14, zy2_s]

def zsum (f : Nat → Nat) : Nat → Nat
  | 0 => 0
  | n + 1 => zsum f n + f n
def zsumI (f : Nat → Int) : Nat → Int
  | 0 => 0
  | n + 1 => zsumI f n + f n
/-- the bin of a fine: the last start at it or below -/
def cod (S : Nat → Nat) : Nat → Nat → Nat
  | 0, _ => 0
  | n + 1, f => if S n ≤ f then n else cod S n f
def dEnd (S : Nat → Nat) (B c : Nat) : Nat := if c + 1 < B then S (c + 1) else 60
def dTk (md tot : Nat) : Nat := if md = 1 ∧ tot = 0 then 0 else md
def dSc (tk tot B : Nat) : Nat := if tk = 2 then 2 else if tk = 1 then tot else B
def dMid (tk B : Nat) (S H : Nat → Nat) (c : Nat) : Nat := if tk = 2 then S c + dEnd S B c else if tk = 1 then 60 * zsum H c + 30 * H c else 60 * c + 30
def dTop (tk sc B : Nat) (S H T : Nat → Nat) (i : Nat) : Nat := T i / 60 * 60 * sc + dMid tk B S H (cod S B (T i % 60))
def dGap (top : Nat → Nat) (i : Nat) : Nat := top (i + 1) - top i
/-- where a number goes among the first n, from the right -/
def pos (g : Nat → Nat) (x : Nat) : Nat → Nat
  | 0 => 0
  | n + 1 => if g n ≤ x then n + 1 else pos g x n
def insK (g : Nat → Nat) (x p : Nat) : Nat → Nat := fun k => if k < p then g k else if k = p then x else g (k - 1)
def srt (gap : Nat → Nat) : Nat → Nat → Nat
  | 0 => fun _ => 0
  | n + 1 => insK (srt gap n) (gap n) (pos (srt gap n) (gap n) n)
def dRef (P sc N : Nat) (top : Nat → Nat) : Nat := if 0 < P then P * sc else if N < 2 then 0 else srt (dGap top) (N - 1) ((N - 2) / 2)
def dMis (ref gap : Nat) : Nat := if 0 < ref then (2 * gap + ref) / (2 * ref) - 1 else 0
def dLost (ref gap : Nat) : Nat := if dMis ref gap < 9 then dMis ref gap else 9
def dBrk (ref gap : Nat) : Nat := if 9 < dMis ref gap then 1 else 0
def dPlace (V ref : Nat) (top : Nat → Nat) (i : Nat) : Nat := if V = 1 then i + zsum (fun k => dLost ref (dGap top k)) i else i
/-- the first edge at a time or later -/
def plc (T : Nat → Nat) (a : Nat) : Nat → Nat
  | 0 => 0
  | n + 1 => if plc T a n = n ∧ T n < a then n + 1 else plc T a n
def dOp (N : Nat) (T : Nat → Nat) (a : Nat) : Int32 := if plc T a N < N then nI (plc T a N) else -1
def dCl (N : Nat) (T : Nat → Nat) (a b : Nat) : Int32 := if plc T b N < N ∧ plc T a N < plc T b N then nI (plc T b N) else -1
def dSp (N : Nat) : Nat := if (N - 1) / 2 < 15 then (N - 1) / 2 else 15
def dBend (top : Nat → Nat) (m i : Nat) : Int := (top (i + 2 * m) : Int) - 2 * (top (i + m) : Int) + (top i : Int)
def dSq (top : Nat → Nat) (N m : Nat) : Int := zsumI (fun i => dBend top m i * dBend top m i) (N - 2 * m)
def dWt (N m : Nat) : Nat := m * m * (N - 2 * m)
def dStd (top : Nat → Nat) (N m q : Nat) : Prop := dSq top N m * (dWt N q : Int) < dSq top N q * (dWt N m : Int)
noncomputable def posR (top : Nat → Nat) (N : Nat) (g : Nat → Nat) (m : Nat) : Nat → Nat
  | 0 => 0
  | n + 1 => @ite _ (dStd top N m (g n)) (Classical.propDecidable _) (posR top N g m n) (n + 1)
noncomputable def rks (top : Nat → Nat) (N : Nat) : Nat → Nat → Nat
  | 0 => fun _ => 0
  | n + 1 => insK (rks top N n) (n + 1) (posR top N (rks top N n) (n + 1) n)
def modeV (n : Int32) (f : Nat → Int32) : Nat :=
  if n = 5 ∧ f 0 = 100 ∧ f 1 = 101 ∧ f 2 = 110 ∧ f 3 = 115 ∧ f 4 = 101 then 1 else if n = 5 ∧ f 0 = 107 ∧ f 1 = 110 ∧ f 2 = 111 ∧ f 3 = 119 ∧ f 4 = 110 then 2 else 0
/-- edges -/
def RT (N : Nat) (T : Nat → Nat) (n n' : Int32) (f f' : Nat → Int32) : Prop := n = nI N ∧ n' = nI N ∧ N ≤ 32 ∧ (∀ k, k < N → f k = nI (T k) ∧ f' k = nI (T k) ∧ T k < 6000) ∧ ∀ i j, i < j → j < N → T i < T j
/-- bins -/
def RB (B : Nat) (S : Nat → Nat) (n : Int32) (f cu co fi : Nat → Int32) : Prop := n = nI B ∧ 1 ≤ B ∧ B ≤ 12 ∧ S 0 = 0 ∧ (∀ k, k < B → f k = nI (S k) ∧ fi k = nI (S k) ∧ S k < 60) ∧ fi B = 60 ∧ (∀ i j, i < j → j < B → S i < S j) ∧ ∀ x, x < 60 → co x = nI (cod S B x) ∧ (cu x = 0 ∨ cu x = 1) ∧ (cu x = 1 ↔ ∃ b, 1 ≤ b ∧ b < B ∧ S b = x)
/-- hits -/
def RH (H : Nat → Nat) (n : Int32) (f f' : Nat → Int32) : Prop := n = nI (zsum H 12) ∧ zsum H 12 ≤ 400 ∧ ∀ k, k < 12 → f k = nI (H k) ∧ f' k = nI (H k)
/-- bytes of the mode -/
def RM (n : Int32) (f : Nat → Int32) (n' : Int32) (f' : Nat → Int32) : Prop := n = n' ∧ (∃ k, k ≤ 5 ∧ n = nI k) ∧ ∀ k, k < 5 → f k = f' k
def RG (G : Nat) (ga gb : Nat → Nat) (n : Int32) (f h : Nat → Int32) (n' : Int32) (f' h' : Nat → Int32) : Prop := n = nI G ∧ n' = nI G ∧ G ≤ 8 ∧ ∀ k, k < G → f k = nI (ga k) ∧ f' k = nI (ga k) ∧ h k = nI (gb k) ∧ h' k = nI (gb k) ∧ ga k < gb k ∧ gb k < 6000
def RP (P V : Nat) (p p' v v' : Int32) : Prop := p = nI P ∧ p' = nI P ∧ P ≤ 600 ∧ v = nI V ∧ v' = nI V ∧ V ≤ 1
def eight : UInt64 := 4620693217682128896
/-- a sheet -/
def RS1 (f sz : Int32) (w : Nat → Int64) (r : Nat → UInt64) (b : Nat → Int32) (f' sz' : Int32) (w' : Nat → Int64) (r' : Nat → UInt64) (b' : Nat → Int32) : Prop :=
  f = f' ∧ sz = sz' ∧ (∃ k, k ≤ 40 ∧ sz = nI k) ∧ (f = -1 ∨ ((f = 0 ∨ f = 1) ∧ ∀ i, i < 40 → w i = w' i ∧ b i = 0) ∨ ((f = 2 ∨ f = 3) ∧ ∀ i, i < 40 → b i = b' i ∧ (b i = 0 ∨ b i = 1) ∧ (b i = 0 → r i = r' i ∧ zn64 (FP.dmul eight (r i)) = true)))
def RS (σ τ : zS) : Prop := ∀ k, k < 4 → RS1 (zi σ (20 + k)) (zi σ (30 + k)) (zj σ (10 + k)) (zd σ (0 + k)) (za σ (20 + k)) (za τ 11 k) (za τ 12 k) (fun i => zj τ 2 (40 * k + i)) (fun i => zd τ 0 (40 * k + i)) (fun i => za τ 13 (40 * k + i))
/-- what is derived, as it is due -/
def RDok (N B : Nat) (T S H : Nat → Nat) (G : Nat) (ga gb : Nat → Nat) (P V md : Nat) (i9 i10 i11 i12 i13 : Int32) (l0 : Int64) (a6 a7 a8 a9 a10 a11 : Nat → Int32) (j0 j2 j3 : Nat → Int64) : Prop :=
  let tk := dTk md (zsum H 12)
  let sc := dSc tk (zsum H 12) B
  let top := dTop tk sc B S H T
  let ref := dRef P sc N top
  i9 = nI N ∧ i10 = nI sc ∧ (∀ i, i < N → j0 i = lN (top i)) ∧ l0 = lN ref ∧ (∀ i, i < N → a10 i = nI (dPlace V ref top i)) ∧ (∀ i, i + 1 < N → a8 i = nI (dLost ref (dGap top i)) ∧ a9 i = nI (dBrk ref (dGap top i))) ∧ i11 = nI (zsum (fun k => dLost ref (dGap top k)) (N - 1)) ∧ i12 = nI (zsum (fun k => dBrk ref (dGap top k)) (N - 1)) ∧ (∀ g, g < G → a6 g = dOp N T (ga g) ∧ a7 g = dCl N T (ga g) (gb g)) ∧ i13 = nI (dSp N) ∧ (∀ m, 1 ≤ m → m ≤ dSp N → j2 m = Int64.ofInt (dSq top N m) ∧ j3 m = lN (dWt N m)) ∧ ∀ k, k < dSp N → a11 k = nI (rks top N (dSp N) k)
def RD (N B : Nat) (T S H : Nat → Nat) (G : Nat) (ga gb : Nat → Nat) (P V : Nat) (σ : zS) : Prop :=
  zi σ 4 = 1 ∨ zi σ 4 = 0 ∧ RDok N B T S H G ga gb P V (modeV (zi σ 0) (za σ 0)) (zi σ 9) (zi σ 10) (zi σ 11) (zi σ 12) (zi σ 13) (zl σ 0) (za σ 6) (za σ 7) (za σ 8) (za σ 9) (za σ 10) (za σ 11) (zj σ 0) (zj σ 2) (zj σ 3)
def RelD (N : Nat) (T : Nat → Nat) (B : Nat) (S H : Nat → Nat) (G : Nat) (ga gb : Nat → Nat) (P V : Nat) (σ τ : zS) : Prop :=
  RT N T (zi σ 5) (zi τ 0) (za σ 1) (za τ 0) ∧ RB B S (zi σ 6) (za σ 2) (za τ 1) (za τ 3) (za τ 4) ∧ RH H (zi σ 7) (za σ 3) (za τ 2) ∧ RM (zi σ 0) (za σ 0) (zi τ 1) (za τ 5) ∧ RG G ga gb (zi σ 8) (za σ 4) (za σ 5) (zi τ 4) (za τ 9) (za τ 10) ∧ RP P V (zi σ 1) (zi τ 2) (zi σ 2) (zi τ 3) ∧ zi σ 3 = zi τ 5 ∧ RS σ τ ∧ RD N B T S H G ga gb P V σ
def Rel (σ τ : zS) : Prop := ∃ N T B S H G ga gb P V, RelD N T B S H G ga gb P V σ τ
-- what keeps the sheets
theorem RS_wi {σ τ : zS} {j : Nat} {v : Int32} (h : RS σ τ) (hj : j < 20) : RS (wi σ j v) τ := by
  intro k hk
  have h1 := h k hk
  rw [zi_wi, zi_wi, if_neg (by omega), if_neg (by omega)]
  exact h1
theorem RS_wiM {σ τ : zS} {j : Nat} {v : Int32} (h : RS σ τ) : RS σ (wi τ j v) := fun k hk => h k hk
theorem RS_wlM {σ τ : zS} {j : Nat} {v : Int64} (h : RS σ τ) : RS σ (wl τ j v) := fun k hk => h k hk
theorem RS_wl {σ τ : zS} {j : Nat} {v : Int64} (h : RS σ τ) : RS (wl σ j v) τ := fun k hk => h k hk
theorem RS_wa {σ τ : zS} {j i : Nat} {v : Int32} (h : RS σ τ) (hj : j < 20) : RS (wa σ j i v) τ := by
  intro k hk
  have h1 := h k hk
  rw [za_wa, if_neg (by omega)]
  exact h1
theorem RS_waM {σ τ : zS} {j i : Nat} {v : Int32} (h : RS σ τ) (h1 : j ≠ 11) (h2 : j ≠ 12) (h3 : j ≠ 13) : RS σ (wa τ j i v) := by
  intro k hk
  have h4 := h k hk
  rw [za_wa, za_wa, if_neg (Ne.symm h1), if_neg (Ne.symm h2)]
  have e : (fun i' => za (wa τ j i v) 13 (40 * k + i')) = fun i' => za τ 13 (40 * k + i') := by
    funext i'
    rw [za_wa, if_neg (Ne.symm h3)]
  rw [e]
  exact h4

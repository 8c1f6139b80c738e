theorem zA_eq (a sA : Nat → Nat) (cA : Nat → ClassId) (σ : zS) : ((wX a cA).1 σ).set 6 (a 6, .inl (cA 4, 4, .inr (.inr (.inr (.inr (fun j => some ((fun k => if k < 50 then a k else sA k) (23 + j)))))))) = (wX (fun k => if k < 50 then a k else sA k) cA).1 σ := rfl
theorem sX_mix {a sA : Nat → Nat} {A0 : Nat → Prop} {s : State} {H : Heap} (h : sX sA A0 s H) : sX (fun k => if k < 50 then a k else sA k) A0 s H := by
  have e1 : (fun i : Nat => (fun k => if k < 50 then a k else sA k) (100 + i)) = fun i => sA (100 + i) := funext fun i => if_neg (by omega)
  have e2 : (fun i : Nat => (fun k => if k < 50 then a k else sA k) (110 + i)) = fun i => sA (110 + i) := funext fun i => if_neg (by omega)
  refine ⟨?_, h.2⟩
  show vk_S 2 _ _ (fun i : Nat => (fun k => if k < 50 then a k else sA k) (100 + i)) (fun i : Nat => (fun k => if k < 50 then a k else sA k) (110 + i)) A0 s H
  rw [e1, e2]
  exact h.1
set_option maxHeartbeats 8000000 in
set_option maxRecDepth 100000 in
/-- the law from its entry, over a relation that both starts are in and that every call keeps -/
theorem whole_open {p : Program} {e : Env} {s : State} {m : MethodId} {below : List Frame} {meth : Method} {c : Code} (l : Launch) {b L : Nat} {xs : Nat → Int32} (hL : L ≤ 3072) (C0 : lw_At p s m meth c b L xs) {Rel : zS → zS → Prop} (hAll : okAll Rel) {τ0 : zS} (h0 : fX7_initB zM0 = some τ0) (hR0 : Rel zX0 τ0) : W p l e room_1 s m #[Value.ref b] below meth c s.heap [] 0 0 (lw_Z below #[Value.ref b] s) (entryFrame m ([Value.ref b] : List Value).toArray 4) := by
  obtain ⟨hx, hb, hr, hml, hown, hts0, hX, hbl, hlocks, hgv⟩ := C0
  have hown : s.vm.findClass RL = some m.cls := hown
  have hts : ∀ w ∈ zT, w.before #[Value.ref b] s = true := fun w h => hts0 w (List.mem_filter.mp h).1
  have hover : va_AO "PeriodGates$Sheet" s := hts0 (.arrayOver (.object "PeriodGates$Sheet")) (List.mem_append_right _ (List.mem_of_getElem? (i := 165) (by decide +kernel)))
  obtain ⟨sA, hsX⟩ := zstr hts0 hgv
  obtain ⟨D, cA, hK⟩ := zclasses hts hover
  generalize hAe : (fun q : Nat => s.heap.size ≤ q) = A0 at hsX
  have hA : ∀ q : Nat, s.heap.size ≤ q → A0 q := fun q h => by rw [← hAe]; exact h
  have hbA : ¬ A0 b := by rw [← hAe]; exact Nat.not_le.mpr hbl
  have hS : va_S A0 s.heap s.heap [] := va_S.rf
  have hP : va_P D vwCl [] s.heap := fun k q h => by simp at h
  have hD : va_D A0 [] := ⟨fun i j p q h => by simp at h, fun k q h => by simp at h⟩
  have hl := lv_entry ([.ref b]) (n := 4) (Nat.le_of_ble_eq_true rfl)
  rw [lg_entry_eq]
  generalize (lg_sl ([.ref b]) ++ List.replicate (4 - (lg_sl ([.ref b])).length) Slot.unset).toArray = ls at hl ⊢
  have hl : lv_has ls 4 [(0, .ref b)] := hl
  refine va_new (D := D) (ci := 6) (fs := [.null, .null, .null, .null, .null, .null, .null, .int 0, .int 0, .int 0, .int 0, .int 0]) (C := RX6) (T := TX6) (N := 12) hx hb hts inZ6 tyX6 tyX6_ok hown (hts _ cK_RL_7) (hts _ iS6) (hts _ iZ6) hK hP hD hS hA rfl (fun j hj => by rcases (show j = 0 ∨ j = 1 ∨ j = 2 ∨ j = 3 ∨ j = 4 ∨ j = 5 ∨ j = 6 ∨ j = 7 ∨ j = 8 ∨ j = 9 ∨ j = 10 ∨ j = 11 by omega) with rfl | rfl | rfl | rfl | rfl | rfl | rfl | rfl | rfl | rfl | rfl | rfl <;> rfl) (Nat.le_of_ble_eq_true rfl) (Nat.le_of_ble_eq_true rfl) dL_law_0 (fun q0 H hP hD hS => ?_)
  have hP : va_P D vwCl [(q0, .inr (6, [.null, .null, .null, .null, .null, .null, .null, .int 0, .int 0, .int 0, .int 0, .int 0]))] H := hP
  have hD : va_D A0 [(q0, .inr (6, [.null, .null, .null, .null, .null, .null, .null, .int 0, .int 0, .int 0, .int 0, .int 0]))] := hD
  refine W.widen (k := 1) (n := 12) (Nat.le_of_ble_eq_true rfl) (Nat.le_of_ble_eq_true rfl) ?_
  refine lv_dup hx hb dL_law_3 rfl ?_
  have hFc := va_free (wc := [(q0, .inr (6, [.null, .null, .null, .null, .null, .null, .null, .int 0, .int 0, .int 0, .int 0, .int 0]))]) hD hS hA [0] rfl
  refine va_callv (va_runI (As := []) (rest := [.ref q0]) ⟨hx, hb, hml, hown, hts⟩ (nX6 l D cA q0 H.size) (cwI 0 hts (zgoodI iC6) rfl rfl rfl (hts _ iZ6) (hts _ iL_RL_9) (hts _ iM6) rfl (by decide +kernel) ⟨(Nat.le_of_ble_eq_true rfl), (Nat.le_of_ble_eq_true rfl)⟩) ⟨zIBlind6, fun U hU hW => ⟨rfl, ⟨by rw [hU], by rw [hU]; exact hP, va_K.moved hW.alike hK, hD.weaken (fun _ _ _ _ => trivial)⟩, va_AO.moved hW.alike hover⟩⟩ rfl rfl hl.1 rfl (lv_room (Nat.le_of_ble_eq_true rfl)) dL_law_4 ⟨(Nat.le_of_ble_eq_true rfl), (Nat.le_of_ble_eq_true rfl)⟩) hS (fun q _ h => hFc q h) hFc (fun a t H1 locs ht hvm hw hB hz1 hk1 hS => ?_)
  obtain ⟨hP1, -, hD1⟩ := hB
  rw [ht] at hP1
  have ea : a 0 = q0 := hw
  subst ea
  have hP1 := zP_cell (i := 6) (a1 := (4, .inr (.inr (.inr (.inr (fun j => some ((fun k => if k < 50 then a k else sA k) (23 + j)))))))) hP1 pX_6 (zcell4 (fun j hj => by
    match j, hj with
    | 0, _ => rfl
    | 1, _ => rfl
    | 2, _ => rfl
    | 3, _ => rfl))
  have hD1 := (hD1.weaken (B := A0) (fun _ z _ h => hFc z.1 h)).set (p := 6) (e := .inl (cA 4, 4, .inr (.inr (.inr (.inr (fun j => some ((fun k => if k < 50 then a k else sA k) (23 + j)))))))) pX_6
  rw [zA_eq a sA cA zX0] at hP1 hD1
  have eA : a 0 = (fun k => if k < 50 then a k else sA k) 0 := rfl
  have hsX : sX (fun k => if k < 50 then a k else sA k) A0 s s.heap := sX_mix hsX
  clear hP hD hFc hw ht hvm hz1 hk1
  generalize (fun k => if k < 50 then a k else sA k) = A at hP1 hD1 eA hsX
  rw [eA]
  generalize H1 = H at hP1 hS ⊢
  refine W.widen (k := 39) (n := 841) (Nat.le_of_ble_eq_true rfl) (Nat.le_of_ble_eq_true rfl) ?_
  refine lv_astore_n (lv' := [(1, .ref (A 0)), (0, .ref b)]) hx hb dL_law_7 rfl hl (by decide) rfl (fun ls hl => ?_)
  refine va_new (D := D) (ci := 7) (fs := [.null, .int 0, .null, .null, .null, .null, .null, .int 0, .int 0, .int 0, .null, .null, .null, .null, .null, .long 0, .long 0, .null, .null, .int 0, .long 0, .long 0, .long 0, .long 0, .null, .null, .null, .null, .null, .null, .null, .null, .int 0]) (C := RX7) (T := TX7) (N := 33) hx hb hts inZ7 tyX7 tyX7_ok hown (hts _ cK_RL_10) (hts _ iS7) (hts _ iZ7) hK hP1 hD1 hS hA rfl (fun j hj => by rcases (show j = 0 ∨ j = 1 ∨ j = 2 ∨ j = 3 ∨ j = 4 ∨ j = 5 ∨ j = 6 ∨ j = 7 ∨ j = 8 ∨ j = 9 ∨ j = 10 ∨ j = 11 ∨ j = 12 ∨ j = 13 ∨ j = 14 ∨ j = 15 ∨ j = 16 ∨ j = 17 ∨ j = 18 ∨ j = 19 ∨ j = 20 ∨ j = 21 ∨ j = 22 ∨ j = 23 ∨ j = 24 ∨ j = 25 ∨ j = 26 ∨ j = 27 ∨ j = 28 ∨ j = 29 ∨ j = 30 ∨ j = 31 ∨ j = 32 by omega) with rfl | rfl | rfl | rfl | rfl | rfl | rfl | rfl | rfl | rfl | rfl | rfl | rfl | rfl | rfl | rfl | rfl | rfl | rfl | rfl | rfl | rfl | rfl | rfl | rfl | rfl | rfl | rfl | rfl | rfl | rfl | rfl | rfl <;> rfl) (Nat.le_of_ble_eq_true rfl) (Nat.le_of_ble_eq_true rfl) dL_law_8 (fun q1 H hP hD hS => ?_)
  refine W.widen (k := 40) (n := 874) (Nat.le_of_ble_eq_true rfl) (Nat.le_of_ble_eq_true rfl) ?_
  refine lv_dup hx hb dL_law_11 rfl ?_
  have hPm := zP_right hP
  have hDm := zD_right hD
  have hPx := zP_left hP
  have hDx := zD_left hD
  have hap : ∀ (i j : Nat) (p q : Nat × va_E), ([(q1, .inr (7, [.null, .int 0, .null, .null, .null, .null, .null, .int 0, .int 0, .int 0, .null, .null, .null, .null, .null, .long 0, .long 0, .null, .null, .int 0, .long 0, .long 0, .long 0, .long 0, .null, .null, .null, .null, .null, .null, .null, .null, .int 0]))] : va_W)[i]? = some p → ((wX A cA).1 zX0)[j]? = some q → p.1 ≠ q.1 := fun i j p q hi hj e => zD_apart hD hj hi e.symm
  have hFm : ∀ x, va_A [(q1, .inr (7, [.null, .int 0, .null, .null, .null, .null, .null, .int 0, .int 0, .int 0, .null, .null, .null, .null, .null, .long 0, .long 0, .null, .null, .int 0, .long 0, .long 0, .long 0, .long 0, .null, .null, .null, .null, .null, .null, .null, .null, .int 0]))] H.size x → A0 x := by
    intro x hx9
    rcases hx9 with ⟨k, e, h9⟩ | h9
    · exact hDm.2 k (x, e) h9
    · exact hA x (Nat.le_trans hS.1 h9)
  refine va_callv (va_runI (As := []) (rest := [.ref q1]) ⟨hx, hb, hml, hown, hts⟩ (nX7 l D cA q1 H.size h0) (cwI 0 hts (zgoodI iC7) rfl rfl rfl (hts _ iZ7) (hts _ iL_RL_12) (hts _ iM7) rfl (by decide +kernel) ⟨(Nat.le_of_ble_eq_true rfl), (Nat.le_of_ble_eq_true rfl)⟩) ⟨zIBlind, fun U hU hW => ⟨rfl, by rw [hU], by rw [hU]; exact hPm, va_K.moved hW.alike hK, hDm.weaken (fun _ _ _ _ => trivial)⟩⟩ rfl rfl hl.1 rfl (lv_room (Nat.le_of_ble_eq_true rfl)) dL_law_12 ⟨(Nat.le_of_ble_eq_true rfl), (Nat.le_of_ble_eq_true rfl)⟩) hS (fun q _ h => hFm q h) hFm (fun B t H1 locs ht hvm hw hB hz1 hk1 hS => ?_)
  obtain ⟨hP1m, -, hD1m⟩ := hB
  rw [ht] at hP1m
  have eb : B 0 = q1 := hw
  subst eb
  obtain ⟨hPx', hap'⟩ := zJ_part hPx hDx hap hk1 hD1m
  have hP2 : va_P D vwCl ((wL A B cA).1 (zX0, τ0)) H1 := hPx'.app hP1m
  have hD2 : va_D A0 ((wL A B cA).1 (zX0, τ0)) := hDx.app (hD1m.weaken (fun _ z _ h => hFm z.1 h)) (fun i j p q hi hj e => hap' j i q p hj hi e.symm)
  refine W.widen (k := 61) (n := 1841) (Nat.le_of_ble_eq_true rfl) (Nat.le_of_ble_eq_true rfl) ?_
  refine lv_astore_n (lv' := [(2, .ref (B 0)), (1, .ref (A 0)), (0, .ref b)]) hx hb dL_law_15 rfl hl (by decide) rfl (fun ls hl => ?_)
  refine lv_iconst (v := 0) hx hb dL_law_16 (by decide) ?_
  refine lv_istore_n (lv' := [(3, .int 0), (2, .ref (B 0)), (1, .ref (A 0)), (0, .ref b)]) hx hb dL_law_17 rfl hl (by decide) rfl (fun ls hl => ?_)
  have hl : lv_has ls 4 [(0, .ref b), (1, .ref (A 0)), (2, .ref (B 0)), (3, .int (Int32.ofNat 0))] := lv_sub hl [3, 2, 1, 0] rfl
  have hC : zOK ((p, l, e, room_1, s), (m, #[Value.ref b], below, meth, c), (lw_Z below #[Value.ref b] s, D, A0, 61, 1841)) (wL A B cA) cL_law RL 4 13 494 := ⟨hx, hb, hml, hown, hts, hK, (Nat.le_of_ble_eq_true rfl), (Nat.le_of_ble_eq_true rfl), hA, sX_ok A, hsX, (Nat.le_of_ble_eq_true rfl), (Nat.le_of_ble_eq_true rfl)⟩
  have hz : zScr ((p, l, e, room_1, s), (m, #[Value.ref b], below, meth, c), (lw_Z below #[Value.ref b] s, D, A0, 61, 1841)) b L xs := ⟨hX, hbl, hbA⟩
  refine law_loop (α := Unit) (E := fun _ => True) (o := some ()) hC hz hL hAll ?_ L 0 zX0 τ0 (by omega) (by omega) hR0 () rfl trivial H1 locs ls hP2 hD2 hS hl
  intro i σ τ
  refine gg_iconst (pc := 1383) hC dL_law_1383 (x := 1) rfl ?_
  intro v hv hE H locs ls hP hD hS hl
  refine va_forget (fun q hq => by have := hS.2.2 q hq; rw [← hAe] at this; exact this) ?_
  refine W.widen (k := 600000) (n := 7302250) (Nat.le_of_ble_eq_true rfl) (Nat.le_of_ble_eq_true rfl) ?_
  exact lw_ret (Drawn.sameBut.refl s.drawn lw_cs) hx hb hr hlocks dL_law_1384

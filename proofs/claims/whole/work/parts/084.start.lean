theorem Rel_0 : Rel σ0 μ0 := by
  refine ⟨0, ⟨rfl, rfl, rfl, rfl, rfl, rfl, rfl, rfl, ⟨Or.inl ⟨rfl, by omega⟩, fun i hi => absurd hi (by omega)⟩, ?_, ?_⟩, Or.inl ⟨rfl, rfl, rfl, rfl, rfl, rfl, rfl⟩⟩
  · have e : (c_bA σ0).toInt = 1 := by decide
    omega
  · have e : (c_bB σ0).toInt = 1 := by decide
    omega
theorem W1 : ∀ w ∈ wsL_law_r1, w ∈ wsL_law := fun _ h => List.mem_append_left _ (List.mem_append_left _ (List.mem_append_left _ (List.mem_append_left _ (List.mem_append_left _ (List.mem_append_left _ h)))))
theorem W2 : ∀ w ∈ wsL_law_r2, w ∈ wsL_law := fun _ h => List.mem_append_left _ (List.mem_append_left _ (List.mem_append_left _ (List.mem_append_left _ (List.mem_append_left _ (List.mem_append_right _ (List.mem_append_left _ h))))))
set_option maxRecDepth 100000 in
theorem tb_n0 : Cond.methodLinkNest RX3 9 yX0_init RX3 ∈ lw_tbl := (List.mem_append_right _ (List.mem_append_left _ (List.mem_of_getElem? (i := 19) rfl)))
set_option maxRecDepth 100000 in
theorem tb_n1 : Cond.methodLinkNest RX3 18 yX1_init RX3 ∈ lw_tbl := (List.mem_append_right _ (List.mem_append_left _ (List.mem_of_getElem? (i := 48) rfl)))
set_option maxRecDepth 100000 in
theorem tb_ov : Cond.arrayOver (.array .long) ∈ lw_tbl := (List.mem_append_right _ (List.mem_append_left _ (List.mem_of_getElem? (i := 53) rfl)))

set_option maxHeartbeats 4000000 in
set_option maxRecDepth 100000 in
/-- YOUR PART: from the entry, for every script of at most 2048 ints, the law comes to its end with true -/
theorem whole_start {p : Program} {e : Env} {s : State} {m : MethodId} {below : List Frame} {meth : Method} {c : Code} (l : Launch) {b L : Nat} {xs : Nat → Int32} (hL : L ≤ 2048) (C0 : lw_At p s m meth c b L xs) : W p l e room_1 s m #[Value.ref b] below meth c s.heap [] 0 0 (lw_Z below #[Value.ref b] s) (entryFrame m ([Value.ref b] : List Value).toArray 4) := by
  obtain ⟨hx, hb, hr, hml, hown0, hts0, hX, hbl, hlocks, hgv⟩ := id C0
  have hown : s.vm.findClass RL = some m.cls := hown0
  have hts : ∀ w ∈ wsL_law, w.before #[Value.ref b] s = true := fun w h => hts0 w (wsL_law_in w h)
  have X : CallFix p m c code 4 s #[Value.ref b] wsL_law RL := ⟨hx, hb, hml, hown, hts⟩
  have hov : ovA s := ovA_of (hts0 _ tb_ov)
  have hn0 : va_Nw (.methodLinkNest RX3 9 yX0_init RX3) s := va_Nw.of rfl (hts0 _ tb_n0)
  have hn1 : va_Nw (.methodLinkNest RX3 18 yX1_init RX3) s := va_Nw.of rfl (hts0 _ tb_n1)
  obtain ⟨A, hAe⟩ : ∃ A : Nat → Prop, A = fun q : Nat => s.heap.size ≤ q := ⟨_, rfl⟩
  have hA : ∀ q : Nat, s.heap.size ≤ q → A q := fun q h => by rw [hAe]; exact h
  obtain ⟨e0, iS0, hKn0⟩ := u_known (C := RX0) (T := TX0) (N := 5) (n := 5) hts inlX0 (hts (.instantiable RX0 5) (W1 _ (List.mem_of_getElem? (i := 13) rfl)))
  obtain ⟨e1, iS1, hKn1⟩ := u_known (C := RX1) (T := TX1) (N := 9) (n := 9) hts inlX1 (hts (.instantiable RX1 9) (W1 _ (List.mem_of_getElem? (i := 17) rfl)))
  obtain ⟨e2, iS2, hKn2⟩ := u_known (C := RX3) (T := TX3) (N := 4) (n := 4) hts inlX3 (hts (.instantiable RX3 4) (W1 _ (List.mem_of_getElem? (i := 1) rfl)))
  obtain ⟨e3, iS3, hKn3⟩ := u_known (C := RX4) (T := TX4) (N := 20) (n := 20) hts inlX4 (hts (.instantiable RX4 20) (W1 _ (List.mem_of_getElem? (i := 4) rfl)))
  obtain ⟨D, hKc⟩ : ∃ D : va_G, ∀ (k : Nat) (q : vw_C), vwCl[k]? = some q → u_Kn s q.1 q.2.1 q.2.2 (D.1 k) (D.2 k) := by
    refine ⟨(fun k => match k with | 0 => e0 | 1 => e1 | 2 => e2 | _ => e3, fun k => match k with | 0 => iS0 | 1 => iS1 | 2 => iS2 | _ => iS3), ?_⟩
    intro k q hq
    match k, hq with
    | 0, hq => cases hq; exact hKn0
    | 1, hq => cases hq; exact hKn1
    | 2, hq => cases hq; exact hKn2
    | 3, hq => cases hq; exact hKn3
    | k + 4, hq => simp [vwCl] at hq
  have hS : va_S A s.heap s.heap [] := va_S.rf
  have hK : va_K D vwCl [] s := ⟨hKc, fun k q h => by simp at h⟩
  have hP : va_P D vwCl [] s.heap := fun k q h => by simp at h
  have hD : va_D A [] := ⟨fun i j p q h => by simp at h, fun k q h => by simp at h⟩
  have hl := lv_entry ([.ref b]) (n := 4) (Nat.le_of_ble_eq_true rfl)
  rw [lg_entry_eq]
  generalize (lg_sl ([.ref b]) ++ List.replicate (4 - (lg_sl ([.ref b])).length) Slot.unset).toArray = ls at hl ⊢
  have hl : lv_has ls 4 [(0, .ref b)] := hl
  refine va_new (ci := 2) (fs := [.null, .null, .int 0, .int 0]) (C := RX3) (T := TX3) (N := 4) hx hb hts inlX3 tyX3 tyX3_ok hown (hts (.classLink RL 7 RX3) (W1 _ (List.mem_of_getElem? (i := 0) rfl))) (hts (.instantiable RX3 4) (W1 _ (List.mem_of_getElem? (i := 1) rfl))) (hts (.initialized RX3) (W1 _ (List.mem_of_getElem? (i := 2) rfl))) hK hP hD hS hA rfl (fun j hj => by rcases (show j = 0 ∨ j = 1 ∨ j = 2 ∨ j = 3 by omega) with rfl | rfl | rfl | rfl <;> rfl) (Nat.le_of_ble_eq_true rfl) (Nat.le_of_ble_eq_true rfl) dL_law_0 (fun q0 H hP hD hS => ?_)
  have hP : va_P D vwCl [(q0, .inr (2, [.null, .null, .int 0, .int 0]))] H := hP
  have hD : va_D A [(q0, .inr (2, [.null, .null, .int 0, .int 0]))] := hD
  refine W.widen (k := 1) (n := 4) (by omega) (by omega) ?_
  refine lv_dup hx hb dL_law_3 rfl ?_
  have hPc := hP.sub (ws' := [(q0, .inr (2, [.null, .null, .int 0, .int 0]))]) [0] rfl
  have hDc := hD.sub (ws' := [(q0, .inr (2, [.null, .null, .int 0, .int 0]))]) [0] (by decide) rfl
  have hKc := hK.sub (tys' := []) [] rfl
  have hFc := va_free (wc := [(q0, .inr (2, [.null, .null, .int 0, .int 0]))]) hD hS hA [0] rfl
  refine va_callv (va_runI (As := []) (rest := [.ref q0]) X (k_X3_init l D q0 H.size) (cwI 0 hts gL_law_X3_init rfl rfl rfl (hts (.initialized RX3) (W1 _ (List.mem_of_getElem? (i := 2) rfl))) (hts (.methodLink RL 9 yX3_init) (W1 _ (List.mem_of_getElem? (i := 6) rfl))) (hts (.instanceMethod yX3_init) (W1 _ (List.mem_of_getElem? (i := 7) rfl))) rfl (by decide +kernel) ⟨Nat.le_of_ble_eq_true rfl, Nat.le_of_ble_eq_true rfl⟩) ⟨fun a U g mk q => by obtain ⟨q0, q1, qP, qK, qD, qO, qn0, qn1⟩ := q; exact ⟨q0, q1, qP, va_K.moved (u := U) (U := U.calling g mk a) (Vm.Alike.refl U.vm) qK, qD, ovA.moved (u := U) (U := U.calling g mk a) (Vm.Alike.refl U.vm) qO, va_Nw.same rfl (u := U) (U := U.calling g mk a) rfl qn0, va_Nw.same rfl (u := U) (U := U.calling g mk a) rfl qn1⟩, fun U hU hW => ⟨rfl, by rw [hU], by rw [hU]; exact hPc, va_K.moved hW.alike hKc, hDc.weaken (fun _ _ _ _ => trivial), ovA.moved hW.alike hov, va_Nw.warmM hW hn0, va_Nw.warmM hW hn1⟩⟩ rfl rfl hl.1 rfl (lv_room (Nat.le_of_ble_eq_true rfl)) dL_law_4 ⟨Nat.le_of_ble_eq_true rfl, Nat.le_of_ble_eq_true rfl⟩) hS (fun q _ h => hFc q h) hFc (fun u t H1 locs ht hvm _ hB hz1 hk1 hS => ?_)
  obtain ⟨k, a, ρ, ha0, hP1, hK1, hD1⟩ := hB
  rw [ht] at hP1
  have hK1 := va_K.moved hvm.symm hK1
  obtain ⟨hP, hD⟩ := va_join (wr := []) (w1 := cW k a ρ σ0) hP hD [0] [] rfl rfl (by decide) (by decide) hk1 hFc hP1 hD1
  have hKX := hK1
  generalize H1 = H at hP hS ⊢
  have hP : va_P D vwCl (cW k a ρ σ0) H := hP
  have hD : va_D A (cW k a ρ σ0) := hD
  refine W.widen (k := 23) (n := 972) (by omega) (by omega) ?_
  refine lv_astore_n (lv' := [(1, .ref q0), (0, .ref b)]) hx hb dL_law_7 rfl hl (by decide) rfl (fun ls hl => ?_)
  refine va_new (ci := 3) (fs := [.int 0, .int 0, .int 0, .int 0, .null, .null, .null, .int 0, .int 0, .int 0, .int 0, .null, .long 0, .null, .int 0, .null, .null, .null, .long 0, .long 0]) (C := RX4) (T := TX4) (N := 20) hx hb hts inlX4 tyX4 tyX4_ok hown (hts (.classLink RL 10 RX4) (W1 _ (List.mem_of_getElem? (i := 3) rfl))) (hts (.instantiable RX4 20) (W1 _ (List.mem_of_getElem? (i := 4) rfl))) (hts (.initialized RX4) (W1 _ (List.mem_of_getElem? (i := 5) rfl))) hK hP hD hS hA rfl (fun j hj => by rcases (show j = 0 ∨ j = 1 ∨ j = 2 ∨ j = 3 ∨ j = 4 ∨ j = 5 ∨ j = 6 ∨ j = 7 ∨ j = 8 ∨ j = 9 ∨ j = 10 ∨ j = 11 ∨ j = 12 ∨ j = 13 ∨ j = 14 ∨ j = 15 ∨ j = 16 ∨ j = 17 ∨ j = 18 ∨ j = 19 by omega) with rfl | rfl | rfl | rfl | rfl | rfl | rfl | rfl | rfl | rfl | rfl | rfl | rfl | rfl | rfl | rfl | rfl | rfl | rfl | rfl <;> rfl) (Nat.le_of_ble_eq_true rfl) (Nat.le_of_ble_eq_true rfl) dL_law_8 (fun q8 H hP hD hS => ?_)
  refine W.widen (k := 24) (n := 992) (by omega) (by omega) ?_
  refine lv_dup hx hb dL_law_11 rfl ?_
  have hPc := hP.sub (ws' := [(q8, .inr (3, [.int 0, .int 0, .int 0, .int 0, .null, .null, .null, .int 0, .int 0, .int 0, .int 0, .null, .long 0, .null, .int 0, .null, .null, .null, .long 0, .long 0]))]) [23] rfl
  have hDc := hD.sub (ws' := [(q8, .inr (3, [.int 0, .int 0, .int 0, .int 0, .null, .null, .null, .int 0, .int 0, .int 0, .int 0, .null, .long 0, .null, .int 0, .null, .null, .null, .long 0, .long 0]))]) [23] (by decide) rfl
  have hKc := hK.sub (tys' := []) [] rfl
  have hFc := va_free (wc := [(q8, .inr (3, [.int 0, .int 0, .int 0, .int 0, .null, .null, .null, .int 0, .int 0, .int 0, .int 0, .null, .long 0, .null, .int 0, .null, .null, .null, .long 0, .long 0]))]) hD hS hA [23] rfl
  refine va_callv (va_runI (As := []) (rest := [.ref q8]) X (k_X4_init l D q8 H.size) (cwI 0 hts gL_law_X4_init rfl rfl rfl (hts (.initialized RX4) (W1 _ (List.mem_of_getElem? (i := 5) rfl))) (hts (.methodLink RL 12 yX4_init) (W2 _ (List.mem_of_getElem? (i := 21) rfl))) (hts (.instanceMethod yX4_init) (W2 _ (List.mem_of_getElem? (i := 22) rfl))) rfl (by decide +kernel) ⟨Nat.le_of_ble_eq_true rfl, Nat.le_of_ble_eq_true rfl⟩) ⟨fun a U g mk q => by obtain ⟨q0, q1, qP, qK, qD⟩ := q; exact ⟨q0, q1, qP, va_K.moved (u := U) (U := U.calling g mk a) (Vm.Alike.refl U.vm) qK, qD⟩, fun U hU hW => ⟨rfl, by rw [hU], by rw [hU]; exact hPc, va_K.moved hW.alike hKc, hDc.weaken (fun _ _ _ _ => trivial)⟩⟩ rfl rfl hl.1 rfl (lv_room (Nat.le_of_ble_eq_true rfl)) dL_law_12 ⟨Nat.le_of_ble_eq_true rfl, Nat.le_of_ble_eq_true rfl⟩) hS (fun q _ h => hFc q h) hFc (fun u t H1 locs ht hvm _ hB hz1 hk1 hS => ?_)
  obtain ⟨k2, a2, ha2, hP1, hK1, hD1⟩ := hB
  rw [ht] at hP1
  have hK1 := va_K.moved hvm.symm hK1
  obtain ⟨hP, hD⟩ := va_join (wr := cW k a ρ σ0) (w1 := mW k2 a2 μ0) hP hD [23] [0, 1, 2, 3, 4, 5, 6, 7, 8, 9, 10, 11, 12, 13, 14, 15, 16, 17, 18, 19, 20, 21, 22] rfl rfl (by decide) (by decide) hk1 hFc hP1 hD1
  generalize H1 = H at hP hS ⊢
  refine W.widen (k := 100) (n := 4000) (by omega) (by omega) ?_
  refine lv_astore_n (lv' := [(2, .ref q8), (1, .ref q0), (0, .ref b)]) hx hb dL_law_15 rfl hl (by decide) rfl (fun ls hl => ?_)
  refine lv_iconst (v := 0) hx hb dL_law_16 (by decide) ?_
  refine lv_istore_n (lv' := [(3, .int 0), (2, .ref q8), (1, .ref q0), (0, .ref b)]) hx hb dL_law_17 rfl hl (by decide) rfl (fun ls hl => ?_)
  have h1 := law_1 (N := 1000) (L := L) (by omega) hL xs 512 0 600 σ0 μ0 Rel_0 (by omega) (by omega) (by omega)
  rw [nI_0] at h1
  have hl2 : lv_has ls 4 [(0, .ref b), (1, .ref (a 0)), (2, .ref (a2 0)), (3, .int 0)] := by
    rw [ha0, ha2]
    exact lv_sub hl [3, 2, 1, 0] rfl
  exact t_law X hr hlocks hX hbl hAe hKX hK1 1000 600 0 σ0 μ0 h1 H _ ls hP hD hS hl2

/-! the instruction multianewarray, for long[12][26] -/
section MNA
variable {p : Program} {l : Launch} {e : Env} {R : Room} {s : State} {m : MethodId} {args : Array Value} {below : List Frame} {meth : Method} {c : Code} {H : Heap} {locs : List Loc} {cells slots : Nat} {Q : State → Prop}
variable {cc : ByteArray} {pc : Nat} {ls : Array Slot} {rest : List Value} {D : va_G} {cl : List vw_C} {A : Nat → Prop} {tys : List (ClassId × FieldType)} {ws : va_W} {H0 : Heap}
theorem mnT_st {T : State} (X : Stand p l e R s m args below meth c T locs cells slots) (cA d : ClassId) (i : Nat) : Stand p l e R s m args below meth c (mnT T cA d i) (locs ++ (List.range i).map (fun j => (⟨T.heap.size, j⟩ : Loc))) (cells + 1 + i) (slots + 12 + i * 26) := by
  induction i with
  | zero =>
    have h := X.pushed (mnO cA T.heap.size 0)
    rw [(mnO_f cA T.heap.size 0).2.2] at h
    rw [List.range_zero, List.map_nil, List.append_nil]
    exact h
  | succ i ih =>
    obtain ⟨h1, h2, -⟩ := mnT_f T cA d i
    have g : ((mnT T cA d i).pushCell (mnR d)).heap[T.heap.size]? = some (mnO cA T.heap.size i) := by
      rw [State.heap_pushCell_of_lt _ _ (show T.heap.size < (mnT T cA d i).heap.size by omega)]
      exact h2
    have h := (ih.pushed (mnR d)).stored g i (.ref (T.heap.size + 1 + i))
    have e1 : (mnR d).slots.size = 26 := by simp [mnR]
    rw [e1] at h
    rw [List.range_succ, List.map_append, ← List.append_assoc, show slots + 12 + (i + 1) * 26 = slots + 12 + i * 26 + 26 by omega]
    exact h
theorem mn_step {T : State} (X : Stand p l e R s m args below meth c T locs cells slots) (hexec : p.tables.exec = Jvm.exec) {own : String} {index : Nat} (hown : s.vm.findClass own = some m.cls) (hcl : (Cond.classLink own index "[[J").before args s = true) (hov : ovA s) (harr : (Cond.arrayClass .long).before args s = true)
    {g : JFrame} (hg : g.method = m) (hdg : decode c.code g.pc = .ok (.multianewarray index 2, 4)) {rest : List Value} (hst : g.stack = .int 26 :: .int 12 :: rest) (hcells : cells + 13 ≤ R.cells) (hslots : slots + 324 ≤ R.slots) :
    ∃ (vm1 : Vm) (cA r : ClassId), ArrOfT s cA (.array .long) ∧ s.vm.findClass "[[J" = some cA ∧ ArrOfT s r .long ∧ s.vm.findClass "[J" = some r ∧ Stand p l e R s m args below meth c (mnT (T.setVm vm1) cA r 12) locs (cells + 13) (slots + 324) ∧
      ∀ t, Steps p.tables e below ((mnT (T.setVm vm1) cA r 12).setTop { g with pc := g.pc + 4, stack := .ref T.heap.size :: rest }) t → Steps p.tables e below (T.setTop g) t := by
  subst hg
  obtain ⟨r, cA, kA, f1, f2, f3, f4⟩ := hov
  obtain ⟨r2, kR, rr, q1, q2, q3⟩ := Cond.arrayClass_spec harr
  have e1 : ("[" ++ (FieldType.long).toString) = "[J" := by decide +kernel
  rw [e1] at q1
  cases f1.symm.trans q1
  obtain ⟨c0, g1, g2⟩ := Cond.classLink_spec hown hcl e.platform (by rw [X.admits.platform])
  cases f4.symm.trans g1
  obtain ⟨v1, v2, v3⟩ := State.classEntry (e := e) X.warmed g2
  generalize T.vm.noted g.method.cls index (.cls cA) = vm1 at v1 v2 v3
  have hal : s.vm.Alike vm1 := v2.alike
  obtain ⟨kA1, a1, a2⟩ := hal.2.2 _ _ f2
  obtain ⟨kR1, a3, a4⟩ := hal.2.2 _ _ q2
  have X1 := X.noted v2
  have XF := mnT_st X1 cA r 12
  obtain ⟨r1, r3⟩ := X.roomAbove hcells hslots
  refine ⟨vm1, cA, r, fun n z => ⟨fun k h => (by cases h), kA, f2, r, f3⟩, f4, fun n z => ⟨fun k h => (by cases h), kR, q2, rr, q3⟩, f1, XF.dropFresh (fun x hx => ?_), fun t ht => ?_⟩
  · obtain ⟨j, -, rfl⟩ := List.mem_map.mp hx
    exact X.heapGrown
  · jvm_step X.here [hexec, hdg]
    simp only [multianewarray.sem, wp_bind', W.resolveClassAt_links (State.method?_setTop g X.here.top) v1]
    rw [W.popN, if_neg (by decide)]
    refine ⟨g, State.topJava?_setTop' (s := T.setVm vm1) g X.here.top, [.int 12, .int 26], rest, rfl, hst, ?_⟩
    simp only [List.mapM_cons, List.mapM_nil, wp_bind', wp_pure']
    refine mn_make (T := ((T.setTop g).setVm vm1).setTop { g with stack := rest }) (k := kA1) (kr := kR1) (r := r) (rr := rr) a1 (by rw [a2]; exact f3) a3 (by rw [a4]; exact q3) (Launch.admits_arrayLengthLimit X.admits) (Launch.admits_maxHeapBytes X.admits) r1 r3 (fun d2 acts2 => ?_)
    have eS : ((T.setTop g).setVm vm1).setTop { g with stack := rest } = (T.setVm vm1).setTop { g with stack := rest } := by
      show ((T.setVm vm1).setTop g).setTop _ = _
      rw [State.setTop_setTop]
    rw [eS, mnT_top]
    simp only [wp_bind', W.mark, W.pushRef, State.topJava?_setTop' _ XF.here.top, Option.some.injEq, exists_eq_left', State.setTop_setTop, State.heap_setTop]
    intro acts3
    simp [jvm, XF.here.top]
    exact ht
theorem mnO_e (c : ClassId) (h : Nat) (i : Nat) : mnO c h i = { cls := c, slots := (mnO c h i).slots } := by
  induction i with
  | zero => rfl
  | succ i ih =>
    have e : mnO c h (i + 1) = (mnO c h i).setSlot i (.ref (h + 1 + i)) := rfl
    rw [e, ih]
    rfl
theorem mnO_s (c : ClassId) (h : Nat) (i : Nat) : ∀ j : Nat, j < 12 → (mnO c h i).slots[j]? = some (if j < i then .ref (h + 1 + j) else .null) := by
  induction i with
  | zero => intro j hj; simp [mnO, hj]
  | succ i ih =>
    intro j hj
    have e : (mnO c h (i + 1)).slots = (mnO c h i).slots.setIfInBounds i (.ref (h + 1 + i)) := rfl
    have hs := (mnO_f c h i).2.2
    rw [e, Array.getElem?_setIfInBounds]
    by_cases q : i = j
    · subst q
      rw [if_pos rfl, if_pos (by rw [hs]; exact hj), if_pos (Nat.lt_succ_self i)]
    · rw [if_neg q, ih j hj]
      by_cases q2 : j < i
      · rw [if_pos q2, if_pos (by omega)]
      · rw [if_neg q2, if_neg (by omega)]
theorem mnO_v2 (c : ClassId) (h : Nat) (i : Nat) (hi : i = 12) : mnO c h i = vp_cell c (12, .inr (.inr (.inr (.inr (cO (fun i => h + 1 + i)))))) := by
  rw [vp_cell_q, mnO_e]
  have e : (mnO c h i).slots = Array.ofFn (fun j : Fin 12 => va_rf (cO (fun i => h + 1 + i) j)) := by
    apply Array.ext_getElem?
    intro j
    by_cases hj : j < 12
    · rw [mnO_s c h i j hj, if_pos (by omega)]
      simp [hj, cO, va_rf]
    · rw [Array.getElem?_eq_none (by rw [(mnO_f c h i).2.2]; omega), Array.getElem?_eq_none (by simp; omega)]
  rw [e]
  rfl
theorem mnO_v (c : ClassId) (h : Nat) : mnO c h 12 = vp_cell c (12, .inr (.inr (.inr (.inr (cO (fun i => h + 1 + i)))))) := mnO_v2 c h 12 rfl
theorem mnR_v (d : ClassId) : mnR d = vp_cell d (26, .inr (.inl (fun _ => 0))) := by
  have e : Array.replicate 26 (Value.long 0) = Array.ofFn (fun _ : Fin 26 => Value.long 0) := by
    apply Array.ext_getElem?
    intro j
    by_cases hj : j < 26
    · simp [hj]
    · rw [Array.getElem?_eq_none (by simp; omega), Array.getElem?_eq_none (by simp; omega)]
  show ({ cls := d, slots := Array.replicate 26 (Value.long 0) } : Cell) = { cls := d, slots := Array.ofFn (fun _ : Fin 26 => Value.long 0) }
  rw [e]
/-- cells pushed one behind the other are apart from what was there -/
theorem va_D_push {nw : va_W} (hD : va_D A ws) (hP : va_P D cl ws H) (hn : ∀ (k : Nat) (x : Nat × va_E), nw[k]? = some x → x.1 = H.size + k) (hA : ∀ q, H.size ≤ q → A q) : va_D A (ws ++ nw) := by
  refine ⟨fun i j x y hi hj hxy => ?_, fun k x hx => ?_⟩
  · by_cases h1 : i < ws.length <;> by_cases h2 : j < ws.length
    · rw [List.getElem?_append_left h1] at hi
      rw [List.getElem?_append_left h2] at hj
      exact hD.1 i j x y hi hj hxy
    · rw [List.getElem?_append_left h1] at hi
      rw [List.getElem?_append_right (by omega)] at hj
      have a1 := (hP _ _ hi).lt
      have a2 := hn _ _ hj
      omega
    · rw [List.getElem?_append_right (by omega)] at hi
      rw [List.getElem?_append_left h2] at hj
      have a1 := (hP _ _ hj).lt
      have a2 := hn _ _ hi
      omega
    · rw [List.getElem?_append_right (by omega)] at hi hj
      have a1 := hn _ _ hi
      have a2 := hn _ _ hj
      omega
  · by_cases h1 : k < ws.length
    · rw [List.getElem?_append_left h1] at hx
      exact hD.2 k x hx
    · rw [List.getElem?_append_right (by omega)] at hx
      exact hA _ (by rw [hn _ _ hx]; omega)
theorem mna (hexec : p.tables.exec = Jvm.exec) (hb : c.code = cc) {own : String} {index : Nat} (hown : s.vm.findClass own = some m.cls) (hcl : (Cond.classLink own index "[[J").before args s = true) (hov : ovA s) (harr : (Cond.arrayClass .long).before args s = true) (hK : va_K D cl tys s) (hP : va_P D cl ws H) (hD : va_D A ws) (hS : va_S A H0 H locs) (hA : ∀ q, H0.size ≤ q → A q) (hcells : cells + 13 ≤ R.cells) (hslots : slots + 324 ≤ R.slots) (hdg : decode cc pc = .ok (.multianewarray index 2, 4))
    (kk : ∀ (q : Nat) (ρ : Nat → Nat) (cA r : ClassId) (H1 : Heap), va_K D cl (tys ++ [(cA, .array .long), (r, .long)]) s → va_P D cl (ws ++ (q, .inl (cA, 12, .inr (.inr (.inr (.inr (cO ρ)))))) :: (List.range 12).map (fun i => (ρ i, .inl (r, 26, .inr (.inl (fun _ => 0)))))) H1 → va_D A (ws ++ (q, .inl (cA, 12, .inr (.inr (.inr (.inr (cO ρ)))))) :: (List.range 12).map (fun i => (ρ i, .inl (r, 26, .inr (.inl (fun _ => 0)))))) → va_S A H0 H1 locs →
      W p l e R s m args below meth c H1 locs (cells + 13) (slots + 324) Q (F0 m (pc + 4) ls (.ref q :: rest))) : W p l e R s m args below meth c H locs cells slots Q (F0 m pc ls (.int 26 :: .int 12 :: rest)) := by
  intro T hT X
  obtain ⟨vm1, cA, r, w1, w2, w3, w4, X1, step⟩ := mn_step X hexec hown hcl hov harr (g := F0 m pc ls (.int 26 :: .int 12 :: rest)) rfl (by rw [hb]; exact hdg) rfl hcells hslots
  obtain ⟨h1, h2, h3, h4, h5, h6⟩ := mnT_f (T.setVm vm1) cA r 12
  have hTh : (T.setVm vm1).heap = H := hT
  rw [hTh] at h1 h2 h5 h6
  rw [mnO_v] at h2
  have hnw : ∀ (k : Nat) (x : Nat × va_E), (((H.size, .inl (cA, 12, .inr (.inr (.inr (.inr (cO (fun i => H.size + 1 + i))))))) :: (List.range 12).map (fun i => (H.size + 1 + i, .inl (r, 26, .inr (.inl (fun _ => 0)))))) : va_W)[k]? = some x → x.1 = H.size + k ∧ va_at D cl x (mnT (T.setVm vm1) cA r 12).heap := fun k x hx => by
    cases k with
    | zero =>
      cases hx
      exact ⟨rfl, h2⟩
    | succ k =>
      rw [List.getElem?_cons_succ, List.getElem?_map] at hx
      by_cases hk : k < 12
      · rw [List.getElem?_range hk] at hx
        cases hx
        refine ⟨?_, ?_⟩
        · show H.size + 1 + k = H.size + (k + 1)
          omega
        · show (mnT (T.setVm vm1) cA r 12).heap[H.size + 1 + k]? = some (vp_cell r (26, .inr (.inl (fun _ => 0))))
          rw [← mnR_v]
          exact h6 k hk
      · rw [List.getElem?_eq_none (by rw [List.length_range]; omega)] at hx
        cases hx
  have hKn : va_K D cl (tys ++ [(cA, .array .long), (r, .long)]) s := ⟨hK.1, fun k x hx => by
    by_cases hl : k < tys.length
    · rw [List.getElem?_append_left hl] at hx
      exact hK.2 k x hx
    · rw [List.getElem?_append_right (by omega)] at hx
      have hz : k - tys.length < 2 := (List.getElem?_eq_some_iff.mp hx).1
      rcases (show k - tys.length = 0 ∨ k - tys.length = 1 by omega) with z | z
      · rw [z] at hx
        cases hx
        exact ⟨w1, w2⟩
      · rw [z] at hx
        cases hx
        exact ⟨w3, w4⟩⟩
  have hSn : va_S A H0 (mnT (T.setVm vm1) cA r 12).heap locs := ⟨Nat.le_trans hS.1 (by omega), fun x a1 a2 => (h5 x (Nat.lt_of_lt_of_le a1 hS.1)).trans (hS.2.1 x a1 a2), hS.2.2⟩
  have hh0 := hS.1
  obtain ⟨t, t1, t2⟩ := kk H.size (fun i => H.size + 1 + i) cA r _ hKn ((hP.kept (fun k x hx => h5 x.1 ((hP k x hx).lt))).app (fun k x hx => (hnw k x hx).2)) (va_D_push hD hP (fun k x hx => (hnw k x hx).1) (fun q hq => hA q (by omega))) hSn (mnT (T.setVm vm1) cA r 12) rfl X1
  have hsz : T.heap.size = H.size := by rw [hT]
  refine ⟨t, step t ?_, t2⟩
  rw [hsz]
  exact t1
end MNA

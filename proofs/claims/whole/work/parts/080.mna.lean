/-! new long[12][26]: what the machine makes, row by row -/
def mnO (c : ClassId) (h : Nat) : Nat → Cell
  | 0 => { cls := c, slots := Array.replicate 12 .null }
  | i + 1 => (mnO c h i).setSlot i (.ref (h + 1 + i))
def mnR (d : ClassId) : Cell := { cls := d, slots := Array.replicate 26 (.long 0) }
def mnT (T : State) (c d : ClassId) : Nat → State
  | 0 => T.pushCell (mnO c T.heap.size 0)
  | i + 1 => ((mnT T c d i).pushCell (mnR d)).setCell T.heap.size (mnO c T.heap.size (i + 1))
theorem mnO_f (c : ClassId) (h : Nat) (i : Nat) : (mnO c h i).cls = c ∧ (mnO c h i).vm = .none ∧ (mnO c h i).slots.size = 12 := by
  induction i with
  | zero => exact ⟨rfl, rfl, by simp [mnO]⟩
  | succ i ih => exact ⟨ih.1, ih.2.1, by simp [mnO, Cell.setSlot, ih.2.2]⟩
def mnF (T : State) (c d : ClassId) (i : Nat) (U : State) : Prop := U.heap.size = T.heap.size + 1 + i ∧ U.heap[T.heap.size]? = some (mnO c T.heap.size i) ∧ U.vm = T.vm ∧ U.slotsUsed = T.slotsUsed + 12 + i * 26 ∧ (∀ a : Nat, a < T.heap.size → U.heap[a]? = T.heap[a]?) ∧ ∀ j : Nat, j < i → U.heap[T.heap.size + 1 + j]? = some (mnR d)
theorem mnT_f (T : State) (c d : ClassId) (i : Nat) : mnF T c d i (mnT T c d i) := by
  induction i with
  | zero => exact ⟨by simp [mnT], by simp [mnT], rfl, by simp [mnT, mnO], fun a ha => State.heap_pushCell_of_lt _ _ ha, fun j hj => absurd hj (Nat.not_lt_zero _)⟩
  | succ i ih =>
    obtain ⟨h1, h2, h3, h4, h5, h6⟩ := ih
    have step : mnT T c d (i + 1) = ((mnT T c d i).pushCell (mnR d)).setCell T.heap.size (mnO c T.heap.size (i + 1)) := rfl
    have g1 : ((mnT T c d i).pushCell (mnR d)).heap[T.heap.size]? = some (mnO c T.heap.size i) := by
      rw [State.heap_pushCell_of_lt _ _ (show T.heap.size < (mnT T c d i).heap.size by omega)]
      exact h2
    have far : ∀ a : Nat, a ≠ T.heap.size → (mnT T c d (i + 1)).heap[a]? = ((mnT T c d i).pushCell (mnR d)).heap[a]? := fun a ha => by
      rw [step]
      exact State.heap_setCell_other (fun z => ha z.symm)
    refine ⟨?_, ?_, ?_, ?_, fun a ha => ?_, fun j hj => ?_⟩
    · rw [step]
      simp [State.setCell, h1]
      omega
    · rw [step]
      exact State.heap_setCell_self g1
    · rw [step]
      simp [h3]
    · rw [step]
      simp [h4, mnR]
      omega
    · rw [far a (by omega), State.heap_pushCell_of_lt _ _ (show a < (mnT T c d i).heap.size by omega), h5 a ha]
    · rw [far _ (by omega)]
      rcases (show j < i ∨ j = i by omega) with q | q
      · rw [State.heap_pushCell_of_lt _ _ (show T.heap.size + 1 + j < (mnT T c d i).heap.size by omega), h6 j q]
      · have z := State.heap_pushCell_size (mnT T c d i) (mnR d)
        rw [h1] at z
        rw [q]
        exact z
theorem mnT_top (T : State) (f : JFrame) (c d : ClassId) (i : Nat) : mnT (T.setTop f) c d i = (mnT T c d i).setTop f := by
  induction i with
  | zero => rfl
  | succ i ih => simp only [mnT, ih, State.heap_setTop, State.pushCell_setTop, State.setCell_setTop]
theorem rf_fits (a : Nat) : fits (.array .long) (.ref a) = true := rfl
/-- the model's own 'make', where there is room -/
theorem mn_make {E : CtlPost} {e : Env} {d : Bool} {acts : List Action} {T : State} {c r rr : ClassId} {k kr : Class} (hk : T.vm.classes[c]? = some k) (hki : k.kind = .array r (.array .long)) (hr : T.vm.classes[r]? = some kr) (hri : kr.kind = .array rr .long) (hl : e.platform.arrayLengthLimit = 2147483645) (hh : e.platform.maxHeapBytes = 536870912) (hc : T.heap.size + 13 ≤ e.platform.maxCells) (hs : T.slotsUsed + 324 ≤ e.platform.maxSlots) {Q : Addr → Pre} (hq : ∀ d' acts', Q T.heap.size d' acts' (mnT T c r 12)) : (multianewarray.make c [12, 26]).wp Q E e d acts T := by
  have n1 : ¬ (12 : Int32) < 0 := by decide
  have n2 : ¬ (26 : Int32) < 0 := by decide
  have z1 : (12 : Int32).toNatClampNeg = 12 := rfl
  have z2 : (26 : Int32).toNatClampNeg = 26 := rfl
  have b1 : componentBytes (.array .long) = 4 := rfl
  have b2 : componentBytes .long = 8 := rfl
  rw [multianewarray.make]
  simp only [wp_bind', W.ite, n1, if_false, wp_pure', W.theClass, hk, hki, Option.some.injEq, exists_eq_left', z1]
  refine W.newArray_of hk hki (by rw [hl]; omega) (by rw [hh, b1]; omega) (by omega) (by omega) rfl (fun acts1 => ?_)
  rw [if_neg (by decide), wp_bind', Std.Legacy.Range.forIn_eq_forIn_range']
  have hsz : ([:12] : Std.Legacy.Range).size = 12 := rfl
  rw [hsz]
  refine wp_forIn_inv (fun l U => ∃ i, i ≤ 12 ∧ l = List.range' i (12 - i) ∧ U = mnT T c r i) _ _ ⟨0, by omega, rfl, rfl⟩ ?_ ?_
  · rintro x rest U d2 acts2 Q2 ⟨i, hi, hli, rfl⟩ go
    have hi2 : i < 12 := by
      rcases Nat.lt_or_ge i 12 with q | q
      · exact q
      · rw [show 12 - i = 0 by omega] at hli
        cases hli
    rw [show 12 - i = (12 - (i + 1)) + 1 by omega, List.range'_succ] at hli
    obtain ⟨rfl, hrest⟩ := List.cons.inj hli
    obtain ⟨h1, h2, h3, h4, h5, h6⟩ := mnT_f T c r x
    obtain ⟨o1, o2, o3⟩ := mnO_f c T.heap.size x
    simp only [wp_bind']
    rw [multianewarray.make]
    simp only [wp_bind', W.ite, n2, if_false, wp_pure', W.theClass, h3, hr, hri, Option.some.injEq, exists_eq_left', z2]
    refine W.newArray_of (by rw [h3]; exact hr) hri (by rw [hl]; omega) (by rw [hh, b2]; omega) (by omega) (by omega) rfl (fun acts3 => ?_)
    simp only [wp_bind', W.writeLoc, wp_pure']
    refine ⟨mnO c T.heap.size x, ?_, ?_, ?_, ?_, go _ _ _ ⟨x + 1, hi2, hrest, ?_⟩⟩
    · rw [State.heap_pushCell_of_lt _ _ (show T.heap.size < (mnT T c r x).heap.size by omega)]
      exact h2
    · rw [o2]; simp
    · rw [o3]; exact hi2
    · rw [o1, o2]
      simp [State.fitsSlot, State.slotType?, h3, hk, hki, rf_fits]
    · rw [h1]; rfl
  · rintro U d2 acts2 ⟨i, hi, hli, rfl⟩
    have e12 : i = 12 := by
      rcases Nat.lt_or_ge i 12 with q | q
      · rw [show 12 - i = (12 - (i + 1)) + 1 by omega, List.range'_succ] at hli
        cases hli
      · omega
    subst e12
    simp only [wp_pure']
    exact hq _ _
/-! the array class over long[] -/
def ovA (U : State) : Prop := ∃ (r c : ClassId) (k : Class), U.vm.findClass "[J" = some r ∧ U.vm.classes[c]? = some k ∧ k.kind = .array r (.array .long) ∧ U.vm.findClass "[[J" = some c
theorem ovA_of {args : Array Value} {U : State} (h : (Cond.arrayOver (.array .long)).before args U = true) : ovA U := by
  have e1 : (FieldType.array .long).toString = "[J" := by decide +kernel
  have e2 : "[" ++ "[J" = "[[J" := by decide +kernel
  simp only [Cond.before, Cond.holds, Cond.value, beq_iff_eq, e1, e2] at h
  cases hf : U.vm.findClass "[J" with
  | none => rw [hf] at h; cases h
  | some r =>
    rw [hf] at h
    simp only [Option.bind_some, Option.bind_eq_some_iff, Option.map_eq_some_iff] at h
    obtain ⟨c, hi, k, hk, hb⟩ := h
    obtain ⟨hc, hp, -⟩ := Array.findIdx?_eq_some_iff_getElem.mp hi
    have hkk : U.vm.classes[c] = k := (Array.getElem?_eq_some_iff.mp hk).2
    rw [hkk] at hp
    cases hkd : k.kind with
    | array a b =>
      rw [hkd] at hb hp
      simp at hb hp
      exact ⟨r, c, k, hf, hk, by rw [hkd, hp, hb.1], hb.2⟩
    | _ => rw [hkd] at hb; simp at hb
theorem ovA.moved {u U : State} (h : u.vm.Alike U.vm) (hz : ovA u) : ovA U := by
  obtain ⟨r, c, k, h1, h2, h3, h4⟩ := hz
  obtain ⟨k2, g1, g2⟩ := h.2.2 c k h2
  exact ⟨r, c, k2, by rw [h.findClass]; exact h1, g1, by rw [g2]; exact h3, by rw [h.findClass]; exact h4⟩

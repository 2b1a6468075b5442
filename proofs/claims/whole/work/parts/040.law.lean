/-! THE CLAIM OUT OF ONE WALK OF THE LAW'S BODY. Your part is whole_start (and what it stands on); all else here is the same for every law, but numbers. -/
def R_law : String := "MarginTableLaw"
def lw_P (b : Addr) (xs : List Int32) (args : Array Value) (s : State) : Prop := args = #[.ref b] ∧ s.IntsAt b xs ∧ xs.length ≤ 2048 ∧ (Jvm.Cond.and given_1 narrow_1).before args s = true
def lw_Q (_ : Array Value) (s : State) (o : Outcome) (t : State) : Prop := o = .returned (some (.int 1)) ∧ Framed s o t [] 600000 7302250
def lw_Z (below : List Frame) (a : Array Value) (s : State) : State → Prop := fun t => ∃ o, t.status = .running ∧ Ended t below o ∧ lw_Q a s o t
/-- the law's own end, with 1 on the stack, nothing written that was there before, its room as the claim has it -/
theorem lw_ret {p : Program} {l : Launch} {e : Env} {s : State} {m : MethodId} {below : List Frame} {meth : Method} {c : Code} {b : Nat} (hx : p.tables.exec = Jvm.exec) (hb : c.code = code) (hr : meth.sig.returnType = ret) (hlocks : meth.locks = false) {pc : Nat} {H : Heap} {ls : Array Slot} (hdg : decode code pc = .ok (.ireturn, 1)) : W p l e room_1 s m #[Value.ref b] below meth c H [] 600000 7302250 (lw_Z below #[Value.ref b] s) (F0 m pc ls [.int 1]) := by
  intro T hT X
  obtain ⟨fs, hret, hrun, hended, hW, hframe⟩ := X.leave (v := some (.int 1)) (hlocks := hlocks) (fun h => by rw [hr] at h; cases h)
  have hmeth' : T.vm.method? m = some meth := X.method'
  refine ⟨T.setFrames fs, ?_, .returned (some (.int 1)), hrun, hended, rfl, ⟨_, rfl⟩, hW, hframe⟩
  jvm_step X.here [X.here.top, hx, hb, hdg, hmeth', hr, ret, narrow_b1]
  (try refine ⟨rfl, ?_⟩); (try refine ⟨rfl, ?_⟩)
  first | (intro acts; rw [hret _ acts rfl rfl rfl]) | rw [hret _ _ rfl rfl rfl]
  exact Steps.refl _
/-- what holds at the law's entry: the machine, the code, the tables' words (any of lw_tbl by 'hts w (by decide +kernel)'), the script of L ints xs at the cell b, what the Statement gives of the start (any of its parts by flat_of_before) -/
def lw_At (p : Program) (s : State) (m : MethodId) (meth : Method) (c : Code) (b L : Nat) (xs : Nat → Int32) : Prop :=
  p.tables.exec = Jvm.exec ∧ c.code = code ∧ meth.sig.returnType = ret ∧ c.maxLocals = 4 ∧ s.vm.findClass R_law = some m.cls ∧ (∀ w ∈ lw_tbl, w.before #[Value.ref b] s = true) ∧ va_X b L xs s s.heap ∧ b < s.heap.size ∧ meth.locks = false ∧ (Jvm.Cond.and given_1 narrow_1).before #[Value.ref b] s = true
section KL
variable {p : Program} {l : Launch} {e : Env} {R : Room} {s : State} {m : MethodId} {args : Array Value} {below : List Frame} {meth : Method} {c : Code} {H : Heap} {locs : List Loc} {cells slots : Nat} {Q : State → Prop}
variable {y : MethodName} {bytes cc : ByteArray} {maxL nL n index pc : Nat} {ret : Option FieldType} {wsc : List Cond} {rm : Room} {Ts : List Cond} {own C : String} {b : Addr} {As rest st0 : List Value} {ls : Array Slot} {D : va_G} {tys : List (ClassId × FieldType)} {A : Nat → Prop} {w w1 wv : va_W} {ro : Option Value}
theorem kl_gl {k : Nat} {q : Nat × va_E} (h : w[k]? = some q) : (w ++ wv)[k]? = some q := by
  rw [List.getElem?_append_left (List.getElem?_eq_some_iff.mp h).1]; exact h
theorem kl_gr {k : Nat} {q : Nat × va_E} (h : wv[k]? = some q) : (w ++ wv)[w.length + k]? = some q := by
  rw [List.getElem?_append_right (by omega), Nat.add_sub_cancel_left]; exact h
theorem kl_l (hP : va_P D vwCl (w ++ wv) H) : va_P D vwCl w H := fun k q h => hP k q (kl_gl h)
theorem kl_r (hP : va_P D vwCl (w ++ wv) H) : va_P D vwCl wv H := fun k q h => hP _ q (kl_gr h)
theorem kl_dl (hD : va_D A (w ++ wv)) : va_D A w := ⟨fun i j p q hi hj e => hD.1 i j p q (kl_gl hi) (kl_gl hj) e, fun k q h => hD.2 k q (kl_gl h)⟩
theorem kl_dr (hD : va_D A (w ++ wv)) : va_D A wv := ⟨fun i j p q hi hj e => by have := hD.1 _ _ p q (kl_gr hi) (kl_gr hj) e; omega, fun k q h => hD.2 _ q (kl_gr h)⟩
theorem kl_dx (hD : va_D A (w ++ wv)) (i j : Nat) (p q : Nat × va_E) (hi : w[i]? = some p) (hj : wv[j]? = some q) : p.1 ≠ q.1 := fun e => by
  have h1 := hD.1 _ _ p q (kl_gl hi) (kl_gr hj) e
  have h2 := (List.getElem?_eq_some_iff.mp hi).1
  omega
theorem kl_1 (X : CallFix p m c cc nL s args Ts own) (hM : Ct l y wsc rm D tys w w1 (.ref b :: As) ro) (cw : CallW R s args own C index y bytes maxL ret wsc rm 0 0 n) (hK : va_K D vwCl tys s) (hP : va_P D vwCl (w ++ wv) H) (hD : va_D A (w ++ wv)) (hS : va_S A s.heap H locs) (hA : ∀ q : Nat, s.heap.size ≤ q → A q)
    (hrv : ∃ cell : Cell, H[b]? = some cell ∧ cell.vm.isStatics = false ∧ s.vm.findClass C = some cell.cls) (hn : As.length = n) (hl : ls.size = nL) (hst : st0 = As.reverse ++ .ref b :: rest) (hW : (rest.map fun v => v.category).sum ≤ 8) (hdg : decode cc pc = .ok (.invokevirtual index, 3)) (hf : cells + 0 ≤ R.cells ∧ slots + 0 ≤ R.slots)
    (kk : ∀ (H1 : Heap) (locs1 : List Loc), va_P D vwCl (w1 ++ wv) H1 → va_D A (w1 ++ wv) → va_S A s.heap H1 locs1 → W p l e R s m args below meth c H1 locs1 cells slots Q (F0 m (pc + 3) ls (ro.toList ++ rest))) : W p l e R s m args below meth c H locs cells slots Q (F0 m pc ls st0) := by
  have hPw := kl_l hP
  have hPv := kl_r hP
  have hDw := kl_dl hD
  have hx := kl_dx hD
  have hA1 : ∀ q, va_A w H.size q → A q := fun q h => va_A_le hDw (fun q h => hA q (Nat.le_trans hS.1 h)) h
  refine kc_run (va_runV (g := F0 m pc ls st0) (As := As) (rest := rest) (b := b) X (hM H.size) cw ⟨cP_blind, hrv, fun U hU hW => ⟨rfl, by rw [hU], by rw [hU]; exact hPw, va_K.moved hW.alike hK, hDw.weaken (fun _ _ _ _ => trivial)⟩⟩ rfl hn hl hst (lv_room hW) hdg hf) hS hA1 ?_
  intro H1 locs1 hP1 hD1 hz hk hS1
  have hPv1 : va_P D vwCl wv H1 := hPv.kept (fun k q h => hk q.1 (hPv k q h).lt (fun z => by
    rcases z with ⟨i, e, hi⟩ | z
    · exact hx i k _ _ hi h rfl
    · have := (hPv k q h).lt; omega))
  refine kk H1 locs1 (hP1.app hPv1) (va_D.app (hD1.weaken (fun _ _ _ h => hA1 _ h)) (kl_dr hD) (fun i j p q hi hj e => ?_)) hS1
  rcases hD1.2 i p hi with ⟨k, e', hk'⟩ | hge
  · exact hx k j _ _ hk' hj e
  · have := (hPv j q hj).lt; omega
theorem kl_2 (X : CallFix p m c cc nL s args Ts own) (hM : Ct l y wsc rm D tys wv w1 (.ref b :: As) ro) (cw : CallW R s args own C index y bytes maxL ret wsc rm 0 0 n) (hK : va_K D vwCl tys s) (hP : va_P D vwCl (w ++ wv) H) (hD : va_D A (w ++ wv)) (hS : va_S A s.heap H locs) (hA : ∀ q : Nat, s.heap.size ≤ q → A q)
    (hrv : ∃ cell : Cell, H[b]? = some cell ∧ cell.vm.isStatics = false ∧ s.vm.findClass C = some cell.cls) (hn : As.length = n) (hl : ls.size = nL) (hst : st0 = As.reverse ++ .ref b :: rest) (hW : (rest.map fun v => v.category).sum ≤ 8) (hdg : decode cc pc = .ok (.invokevirtual index, 3)) (hf : cells + 0 ≤ R.cells ∧ slots + 0 ≤ R.slots)
    (kk : ∀ (H1 : Heap) (locs1 : List Loc), va_P D vwCl (w ++ w1) H1 → va_D A (w ++ w1) → va_S A s.heap H1 locs1 → W p l e R s m args below meth c H1 locs1 cells slots Q (F0 m (pc + 3) ls (ro.toList ++ rest))) : W p l e R s m args below meth c H locs cells slots Q (F0 m pc ls st0) := by
  have hPw := kl_l hP
  have hPv := kl_r hP
  have hDv := kl_dr hD
  have hx := kl_dx hD
  have hA1 : ∀ q, va_A wv H.size q → A q := fun q h => va_A_le hDv (fun q h => hA q (Nat.le_trans hS.1 h)) h
  refine kc_run (va_runV (g := F0 m pc ls st0) (As := As) (rest := rest) (b := b) X (hM H.size) cw ⟨cP_blind, hrv, fun U hU hW => ⟨rfl, by rw [hU], by rw [hU]; exact hPv, va_K.moved hW.alike hK, hDv.weaken (fun _ _ _ _ => trivial)⟩⟩ rfl hn hl hst (lv_room hW) hdg hf) hS hA1 ?_
  intro H1 locs1 hP1 hD1 hz hk hS1
  have hPw1 : va_P D vwCl w H1 := hPw.kept (fun k q h => hk q.1 (hPw k q h).lt (fun z => by
    rcases z with ⟨i, e, hi⟩ | z
    · exact hx k i _ _ h hi rfl
    · have := (hPw k q h).lt; omega))
  refine kk H1 locs1 (hPw1.app hP1) (va_D.app (kl_dl hD) (hD1.weaken (fun _ _ _ h => hA1 _ h)) (fun i j p q hi hj e => ?_)) hS1
  rcases hD1.2 j q hj with ⟨k, e', hk'⟩ | hge
  · exact hx i k _ _ hi hk' e
  · have := (hPw i p hi).lt; omega
end KL
def f_law (N : Nat) (xs : Nat → Int32) (L : Nat) : Nat → Int32 → CS → MS → Option Int32
  | 0, _, _, _ => none
  | n + 1, v3, σ, μ => if ((Int32.ofNat L) - (4 : Int32)) < v3 then some (1 : Int32) else gd (inB v3 L) (if ((xs v3.toNatClampNeg) &&& (31 : Int32)) = (0 : Int32) then gd (inB (v3 + (1 : Int32)) L) (gd (inB (v3 + (2 : Int32)) L) (gd (inB (v3 + (3 : Int32)) L) ((f_X3_point (xs (v3 + (1 : Int32)).toNatClampNeg) (xs (v3 + (2 : Int32)).toNatClampNeg) (xs (v3 + (3 : Int32)).toNatClampNeg) σ).bind (fun r7 => gd (inB (v3 + (1 : Int32)) L) (gd (inB (v3 + (2 : Int32)) L) (gd (inB (v3 + (3 : Int32)) L) ((f_X4_point (xs (v3 + (1 : Int32)).toNatClampNeg) (xs (v3 + (2 : Int32)).toNatClampNeg) (xs (v3 + (3 : Int32)).toNatClampNeg) μ).bind (fun r12 => if r7.1 = r12.1 then lt_ (v3 + (4 : Int32)) (fun x15 => f_law N xs L n x15 r7.2 r12.2) else some (0 : Int32))))))))) else if ((xs v3.toNatClampNeg) &&& (31 : Int32)) = (1 : Int32) then (f_X3_drop σ).bind (fun r18 => (f_X4_drop μ).bind (fun r20 => if r18.1 = r20.1 then lt_ (v3 + (4 : Int32)) (fun x23 => f_law N xs L n x23 r18.2 r20.2) else some (0 : Int32))) else if ((xs v3.toNatClampNeg) &&& (31 : Int32)) = (2 : Int32) then gd (inB (v3 + (1 : Int32)) L) ((f_X3_degree (xs (v3 + (1 : Int32)).toNatClampNeg) σ).bind (fun r27 => gd (inB (v3 + (1 : Int32)) L) ((f_X4_degree (xs (v3 + (1 : Int32)).toNatClampNeg) μ).bind (fun r30 => if r27.1 = r30.1 then lt_ (v3 + (4 : Int32)) (fun x33 => f_law N xs L n x33 r27.2 r30.2) else some (0 : Int32))))) else if ((xs v3.toNatClampNeg) &&& (31 : Int32)) = (3 : Int32) then gd (inB (v3 + (1 : Int32)) L) (gd (inB (v3 + (2 : Int32)) L) ((f_X3_box (xs (v3 + (1 : Int32)).toNatClampNeg) (xs (v3 + (2 : Int32)).toNatClampNeg) σ).bind (fun r38 => gd (inB (v3 + (1 : Int32)) L) (gd (inB (v3 + (2 : Int32)) L) ((f_X4_box (xs (v3 + (1 : Int32)).toNatClampNeg) (xs (v3 + (2 : Int32)).toNatClampNeg) μ).bind (fun r42 => if r38.1 = r42.1 then lt_ (v3 + (4 : Int32)) (fun x45 => f_law N xs L n x45 r38.2 r42.2) else some (0 : Int32))))))) else if ((xs v3.toNatClampNeg) &&& (31 : Int32)) = (4 : Int32) then gd (inB (v3 + (1 : Int32)) L) (gd (inB (v3 + (2 : Int32)) L) ((f_X3_q (xs (v3 + (1 : Int32)).toNatClampNeg) (xs (v3 + (2 : Int32)).toNatClampNeg) σ).bind (fun r50 => gd (inB (v3 + (1 : Int32)) L) (gd (inB (v3 + (2 : Int32)) L) ((f_X4_q (xs (v3 + (1 : Int32)).toNatClampNeg) (xs (v3 + (2 : Int32)).toNatClampNeg) μ).bind (fun r54 => if r50 = r54 then lt_ (v3 + (4 : Int32)) (fun x57 => f_law N xs L n x57 σ μ) else some (0 : Int32))))))) else if ((xs v3.toNatClampNeg) &&& (31 : Int32)) = (5 : Int32) then (f_X3_begin N σ).bind (fun r60 => (f_X4_begin N μ).bind (fun r62 => if r60.1 = r62.1 then lt_ (v3 + (4 : Int32)) (fun x65 => f_law N xs L n x65 r60.2 r62.2) else some (0 : Int32))) else if ((xs v3.toNatClampNeg) &&& (31 : Int32)) = (6 : Int32) then gd (inB (v3 + (1 : Int32)) L) ((f_X3_go N (xs (v3 + (1 : Int32)).toNatClampNeg) σ).bind (fun r69 => gd (inB (v3 + (1 : Int32)) L) ((f_X4_go N (xs (v3 + (1 : Int32)).toNatClampNeg) μ).bind (fun r72 => if r69.1 = r72.1 then lt_ (v3 + (4 : Int32)) (fun x75 => f_law N xs L n x75 r69.2 r72.2) else some (0 : Int32))))) else if ((xs v3.toNatClampNeg) &&& (31 : Int32)) = (7 : Int32) then gd (inB (v3 + (1 : Int32)) L) (gd (inB (v3 + (2 : Int32)) L) ((f_X3_step (xs (v3 + (1 : Int32)).toNatClampNeg) (xs (v3 + (2 : Int32)).toNatClampNeg) σ).bind (fun r80 => gd (inB (v3 + (1 : Int32)) L) (gd (inB (v3 + (2 : Int32)) L) ((f_X4_step (xs (v3 + (1 : Int32)).toNatClampNeg) (xs (v3 + (2 : Int32)).toNatClampNeg) μ).bind (fun r84 => if r80 = r84 then lt_ (v3 + (4 : Int32)) (fun x87 => f_law N xs L n x87 σ μ) else some (0 : Int32))))))) else if ((xs v3.toNatClampNeg) &&& (31 : Int32)) = (8 : Int32) then gd (inB (v3 + (1 : Int32)) L) ((f_X3_told (xs (v3 + (1 : Int32)).toNatClampNeg) σ).bind (fun r91 => gd (inB (v3 + (1 : Int32)) L) ((f_X4_told (xs (v3 + (1 : Int32)).toNatClampNeg) μ).bind (fun r94 => if r91 = r94 then lt_ (v3 + (4 : Int32)) (fun x97 => f_law N xs L n x97 σ μ) else some (0 : Int32))))) else if ((xs v3.toNatClampNeg) &&& (31 : Int32)) = (9 : Int32) then gd (inB (v3 + (1 : Int32)) L) (gd (inB (v3 + (2 : Int32)) L) (gd (inB (v3 + (3 : Int32)) L) ((f_X3_at N (xs (v3 + (1 : Int32)).toNatClampNeg) (xs (v3 + (2 : Int32)).toNatClampNeg) (xs (v3 + (3 : Int32)).toNatClampNeg) σ).bind (fun r103 => gd (inB (v3 + (1 : Int32)) L) (gd (inB (v3 + (2 : Int32)) L) (gd (inB (v3 + (3 : Int32)) L) ((f_X4_at N (xs (v3 + (1 : Int32)).toNatClampNeg) (xs (v3 + (2 : Int32)).toNatClampNeg) (xs (v3 + (3 : Int32)).toNatClampNeg) μ).bind (fun r108 => if (lg_cmp r103 r108) = 0 then lt_ (v3 + (4 : Int32)) (fun x111 => f_law N xs L n x111 σ μ) else some (0 : Int32))))))))) else if ((xs v3.toNatClampNeg) &&& (31 : Int32)) = (10 : Int32) then gd (inB (v3 + (1 : Int32)) L) (gd (inB (v3 + (2 : Int32)) L) ((f_X3_multiplier N (xs (v3 + (1 : Int32)).toNatClampNeg) (xs (v3 + (2 : Int32)).toNatClampNeg) σ).bind (fun r116 => gd (inB (v3 + (1 : Int32)) L) (gd (inB (v3 + (2 : Int32)) L) ((f_X4_multiplier N (xs (v3 + (1 : Int32)).toNatClampNeg) (xs (v3 + (2 : Int32)).toNatClampNeg) μ).bind (fun r120 => if (lg_cmp r116 r120) = 0 then lt_ (v3 + (4 : Int32)) (fun x123 => f_law N xs L n x123 σ μ) else some (0 : Int32))))))) else if ((xs v3.toNatClampNeg) &&& (31 : Int32)) = (11 : Int32) then gd (inB (v3 + (1 : Int32)) L) ((f_X3_lies N (xs (v3 + (1 : Int32)).toNatClampNeg) σ).bind (fun r127 => gd (inB (v3 + (1 : Int32)) L) ((f_X4_lies N (xs (v3 + (1 : Int32)).toNatClampNeg) μ).bind (fun r130 => if r127 = r130 then lt_ (v3 + (4 : Int32)) (fun x133 => f_law N xs L n x133 σ μ) else some (0 : Int32))))) else if ((xs v3.toNatClampNeg) &&& (31 : Int32)) = (12 : Int32) then gd (inB (v3 + (1 : Int32)) L) (gd (inB (v3 + (2 : Int32)) L) ((f_X3_slope N (xs (v3 + (1 : Int32)).toNatClampNeg) (xs (v3 + (2 : Int32)).toNatClampNeg) σ).bind (fun r138 => gd (inB (v3 + (1 : Int32)) L) (gd (inB (v3 + (2 : Int32)) L) ((f_X4_slope N (xs (v3 + (1 : Int32)).toNatClampNeg) (xs (v3 + (2 : Int32)).toNatClampNeg) μ).bind (fun r142 => if (lg_cmp r138 r142) = 0 then lt_ (v3 + (4 : Int32)) (fun x145 => f_law N xs L n x145 σ μ) else some (0 : Int32))))))) else if ((xs v3.toNatClampNeg) &&& (31 : Int32)) = (13 : Int32) then (f_X3_check N σ).bind (fun r148 => (f_X4_check N μ).bind (fun r150 => if r148 = r150 then lt_ (v3 + (4 : Int32)) (fun x153 => f_law N xs L n x153 σ μ) else some (0 : Int32))) else if ((xs v3.toNatClampNeg) &&& (31 : Int32)) = (14 : Int32) then gd (inB (v3 + (1 : Int32)) L) (gd (inB (v3 + (2 : Int32)) L) (gd (inB (v3 + (3 : Int32)) L) ((f_X3_change N (xs (v3 + (1 : Int32)).toNatClampNeg) (xs (v3 + (2 : Int32)).toNatClampNeg) (xs (v3 + (3 : Int32)).toNatClampNeg) σ).bind (fun r159 => gd (inB (v3 + (1 : Int32)) L) (gd (inB (v3 + (2 : Int32)) L) (gd (inB (v3 + (3 : Int32)) L) ((f_X4_change N (xs (v3 + (1 : Int32)).toNatClampNeg) (xs (v3 + (2 : Int32)).toNatClampNeg) (xs (v3 + (3 : Int32)).toNatClampNeg) μ).bind (fun r164 => if r159 = r164.1 then lt_ (v3 + (4 : Int32)) (fun x167 => f_law N xs L n x167 σ r164.2) else some (0 : Int32))))))))) else if ((xs v3.toNatClampNeg) &&& (31 : Int32)) = (15 : Int32) then gd (inB (v3 + (1 : Int32)) L) (gd (inB (v3 + (2 : Int32)) L) (gd (inB (v3 + (3 : Int32)) L) ((f_X3_decision N (xs (v3 + (1 : Int32)).toNatClampNeg) (xs (v3 + (2 : Int32)).toNatClampNeg) (xs (v3 + (3 : Int32)).toNatClampNeg) σ).bind (fun r173 => gd (inB (v3 + (1 : Int32)) L) (gd (inB (v3 + (2 : Int32)) L) (gd (inB (v3 + (3 : Int32)) L) ((f_X4_decision N (xs (v3 + (1 : Int32)).toNatClampNeg) (xs (v3 + (2 : Int32)).toNatClampNeg) (xs (v3 + (3 : Int32)).toNatClampNeg) μ).bind (fun r178 => if (lg_cmp r173 r178) = 0 then lt_ (v3 + (4 : Int32)) (fun x181 => f_law N xs L n x181 σ μ) else some (0 : Int32))))))))) else if ((xs v3.toNatClampNeg) &&& (31 : Int32)) = (16 : Int32) then gd (inB (v3 + (1 : Int32)) L) (gd (inB (v3 + (2 : Int32)) L) ((f_X3_predict N (xs (v3 + (1 : Int32)).toNatClampNeg) (xs (v3 + (2 : Int32)).toNatClampNeg) σ).bind (fun r186 => gd (inB (v3 + (1 : Int32)) L) (gd (inB (v3 + (2 : Int32)) L) ((f_X4_predict N (xs (v3 + (1 : Int32)).toNatClampNeg) (xs (v3 + (2 : Int32)).toNatClampNeg) μ).bind (fun r190 => if r186 = r190 then lt_ (v3 + (4 : Int32)) (fun x193 => f_law N xs L n x193 σ μ) else some (0 : Int32))))))) else if ((xs v3.toNatClampNeg) &&& (31 : Int32)) = (17 : Int32) then gd (inB (v3 + (1 : Int32)) L) ((f_X3_count N (xs (v3 + (1 : Int32)).toNatClampNeg) σ).bind (fun r197 => gd (inB (v3 + (1 : Int32)) L) ((f_X4_count N (xs (v3 + (1 : Int32)).toNatClampNeg) μ).bind (fun r200 => if r197 = r200 then lt_ (v3 + (4 : Int32)) (fun x203 => f_law N xs L n x203 σ μ) else some (0 : Int32))))) else if ((xs v3.toNatClampNeg) &&& (31 : Int32)) = (18 : Int32) then (f_X3_digest N σ).bind (fun r206 => (f_X4_digest N μ).bind (fun r208 => if (lg_cmp r206 r208) = 0 then lt_ (v3 + (4 : Int32)) (fun x211 => f_law N xs L n x211 σ μ) else some (0 : Int32))) else lt_ (v3 + (4 : Int32)) (fun x213 => f_law N xs L n x213 σ μ))
set_option maxHeartbeats 4000000 in
set_option maxRecDepth 100000 in
theorem t_law {p : Program} {l : Launch} {e : Env} {s : State} {m : MethodId} {below : List Frame} {meth : Method} {c : Code} {b L : Nat} {xs : Nat → Int32} {D : va_G} {A : Nat → Prop} {k k2 : Nat → ClassId} {a ρ a2 : Nat → Nat} (X : CallFix p m c code 4 s #[Value.ref b] wsL_law RL) (hr : meth.sig.returnType = ret) (hlk : meth.locks = false) (hX : va_X b L xs s s.heap) (hbl : b < s.heap.size) (hAe : A = fun q : Nat => s.heap.size ≤ q) (hK1 : va_K D vwCl (cT k) s) (hK2 : va_K D vwCl (mT k2) s) (N : Nat) :
    ∀ (n : Nat) (v3 : Int32) (σ : CS) (μ : MS), f_law N xs L n v3 σ μ = some 1 → ∀ (H : Heap) (locs : List Loc) (ls : Array Slot), va_P D vwCl (cW k a ρ σ ++ mW k2 a2 μ) H → va_D A (cW k a ρ σ ++ mW k2 a2 μ) → va_S A s.heap H locs → lv_has ls 4 [(0, .ref b), (1, .ref (a 0)), (2, .ref (a2 0)), (3, .int v3)] → W p l e room_1 s m #[Value.ref b] below meth c H locs 100 4000 (lw_Z below #[Value.ref b] s) (F0 m 18 ls []) := by
  have hA : ∀ q : Nat, s.heap.size ≤ q → A q := fun q h => by rw [hAe]; exact h
  have hbA : ¬ A b := by rw [hAe]; exact Nat.not_le.mpr hbl
  intro n
  induction n with
  | zero =>
    intro v3 σ μ h
    exact absurd h (by simp [f_law])
  | succ n ih =>
    intro v3 σ μ h H locs ls hP hD hS hl
    rw [f_law] at h
    refine lv_iload_n X.1 X.2.1 dL_law_18 rfl (lv_at hl 3 rfl) ?_
    refine lv_aload_n X.1 X.2.1 dL_law_19 rfl (lv_at hl 0 rfl) ?_
    refine va_slen X.1 X.2.1 hX hbl hbA hS dL_law_20 ?_
    refine lv_iconst (v := (4 : Int32)) X.1 X.2.1 dL_law_21 (by decide) ?_
    refine lv_isub X.1 X.2.1 dL_law_22 ?_
    refine lv_icmp_gt (tgt := 672) X.1 X.2.1 dL_law_23 (by decide) (fun c1 => ?_) (fun c1 => ?_)
    · rw [if_pos c1] at h
      refine lv_iconst (v := (1 : Int32)) X.1 X.2.1 dL_law_672 (by decide) ?_
      refine va_forget (fun q hq => by have z := hS.2.2 q hq; rw [hAe] at z; exact z) ?_
      refine W.widen (k := 600000) (n := 7302250) (by decide) (by decide) ?_
      exact lw_ret X.1 X.2.1 hr hlk dL_law_673
    · rw [if_neg c1] at h
      refine lv_aload_n X.1 X.2.1 dL_law_26 rfl (lv_at hl 0 rfl) ?_
      refine lv_iload_n X.1 X.2.1 dL_law_27 rfl (lv_at hl 3 rfl) ?_
      obtain ⟨g2, h⟩ := gd_e h
      refine va_sld X.1 X.2.1 hX hbl hbA hS (inB_in g2) dL_law_28 ?_
      refine lv_bipush (v := (31 : Int32)) X.1 X.2.1 dL_law_29 (by decide) ?_
      refine lv_iand X.1 X.2.1 dL_law_31 ?_
      by_cases z3 : ((xs v3.toNatClampNeg) &&& (31 : Int32)) = (0 : Int32)
      · rw [if_pos z3] at h
        refine lv_tableIn (off := 92) (tgt := 124) X.1 X.2.1 dL_law_32 (by rw [z3]; decide) (by rw [z3]; decide) (by rw [z3]; rfl) (by decide) ?_
        refine lv_aload_n X.1 X.2.1 dL_law_124 rfl (lv_at hl 1 rfl) ?_
        refine lv_aload_n X.1 X.2.1 dL_law_125 rfl (lv_at hl 0 rfl) ?_
        refine lv_iload_n X.1 X.2.1 dL_law_126 rfl (lv_at hl 3 rfl) ?_
        refine lv_iconst (v := (1 : Int32)) X.1 X.2.1 dL_law_127 (by decide) ?_
        refine lv_iadd X.1 X.2.1 dL_law_128 ?_
        obtain ⟨g4, h⟩ := gd_e h
        refine va_sld X.1 X.2.1 hX hbl hbA hS (inB_in g4) dL_law_129 ?_
        refine lv_aload_n X.1 X.2.1 dL_law_130 rfl (lv_at hl 0 rfl) ?_
        refine lv_iload_n X.1 X.2.1 dL_law_131 rfl (lv_at hl 3 rfl) ?_
        refine lv_iconst (v := (2 : Int32)) X.1 X.2.1 dL_law_132 (by decide) ?_
        refine lv_iadd X.1 X.2.1 dL_law_133 ?_
        obtain ⟨g5, h⟩ := gd_e h
        refine va_sld X.1 X.2.1 hX hbl hbA hS (inB_in g5) dL_law_134 ?_
        refine lv_aload_n X.1 X.2.1 dL_law_135 rfl (lv_at hl 0 rfl) ?_
        refine lv_iload_n X.1 X.2.1 dL_law_136 rfl (lv_at hl 3 rfl) ?_
        refine lv_iconst (v := (3 : Int32)) X.1 X.2.1 dL_law_137 (by decide) ?_
        refine lv_iadd X.1 X.2.1 dL_law_138 ?_
        obtain ⟨g6, h⟩ := gd_e h
        refine va_sld X.1 X.2.1 hX hbl hbA hS (inB_in g6) dL_law_139 ?_
        obtain ⟨r7, q8, h⟩ := bd_e h
        refine kl_1 (As := [.int (xs (v3 + (1 : Int32)).toNatClampNeg), .int (xs (v3 + (2 : Int32)).toNatClampNeg), .int (xs (v3 + (3 : Int32)).toNatClampNeg)]) (rest := []) X (k_X3_point (xs (v3 + (1 : Int32)).toNatClampNeg) (xs (v3 + (2 : Int32)).toNatClampNeg) (xs (v3 + (3 : Int32)).toNatClampNeg) σ _ q8) (cwV 3 X.2.2.2.2 gL_law_X3_point rfl rfl rfl hd_X3_point ⟨Nat.le_of_ble_eq_true rfl, Nat.le_of_ble_eq_true rfl⟩) hK1 hP hD hS hA (va_recv hK1 (kl_l hP) (ci := 2) (q0 := 0) rfl rfl) rfl hl.1 rfl (Nat.le_of_ble_eq_true rfl) dL_law_140 ⟨Nat.le_of_ble_eq_true rfl, Nat.le_of_ble_eq_true rfl⟩ (fun H locs hP hD hS => ?_)
        refine lv_aload_n X.1 X.2.1 dL_law_143 rfl (lv_at hl 2 rfl) ?_
        refine lv_aload_n X.1 X.2.1 dL_law_144 rfl (lv_at hl 0 rfl) ?_
        refine lv_iload_n X.1 X.2.1 dL_law_145 rfl (lv_at hl 3 rfl) ?_
        refine lv_iconst (v := (1 : Int32)) X.1 X.2.1 dL_law_146 (by decide) ?_
        refine lv_iadd X.1 X.2.1 dL_law_147 ?_
        obtain ⟨g9, h⟩ := gd_e h
        refine va_sld X.1 X.2.1 hX hbl hbA hS (inB_in g9) dL_law_148 ?_
        refine lv_aload_n X.1 X.2.1 dL_law_149 rfl (lv_at hl 0 rfl) ?_
        refine lv_iload_n X.1 X.2.1 dL_law_150 rfl (lv_at hl 3 rfl) ?_
        refine lv_iconst (v := (2 : Int32)) X.1 X.2.1 dL_law_151 (by decide) ?_
        refine lv_iadd X.1 X.2.1 dL_law_152 ?_
        obtain ⟨g10, h⟩ := gd_e h
        refine va_sld X.1 X.2.1 hX hbl hbA hS (inB_in g10) dL_law_153 ?_
        refine lv_aload_n X.1 X.2.1 dL_law_154 rfl (lv_at hl 0 rfl) ?_
        refine lv_iload_n X.1 X.2.1 dL_law_155 rfl (lv_at hl 3 rfl) ?_
        refine lv_iconst (v := (3 : Int32)) X.1 X.2.1 dL_law_156 (by decide) ?_
        refine lv_iadd X.1 X.2.1 dL_law_157 ?_
        obtain ⟨g11, h⟩ := gd_e h
        refine va_sld X.1 X.2.1 hX hbl hbA hS (inB_in g11) dL_law_158 ?_
        obtain ⟨r12, q13, h⟩ := bd_e h
        refine kl_2 (As := [.int (xs (v3 + (1 : Int32)).toNatClampNeg), .int (xs (v3 + (2 : Int32)).toNatClampNeg), .int (xs (v3 + (3 : Int32)).toNatClampNeg)]) (rest := [.int r7.1]) X (k_X4_point (xs (v3 + (1 : Int32)).toNatClampNeg) (xs (v3 + (2 : Int32)).toNatClampNeg) (xs (v3 + (3 : Int32)).toNatClampNeg) μ _ q13) (cwV 3 X.2.2.2.2 gL_law_X4_point rfl rfl rfl hd_X4_point ⟨Nat.le_of_ble_eq_true rfl, Nat.le_of_ble_eq_true rfl⟩) hK2 hP hD hS hA (va_recv hK2 (kl_r hP) (ci := 3) (q0 := 0) rfl rfl) rfl hl.1 rfl (Nat.le_of_ble_eq_true rfl) dL_law_159 ⟨Nat.le_of_ble_eq_true rfl, Nat.le_of_ble_eq_true rfl⟩ (fun H locs hP hD hS => ?_)
        refine lv_icmp_eq (tgt := 666) X.1 X.2.1 dL_law_162 (by decide) (fun c14 => ?_) (fun c14 => ?_)
        · rw [if_pos c14] at h
          obtain ⟨x15, e16, h⟩ := lt_e h
          refine lv_iinc (v := x15) (lv' := [(3, .int x15), (0, .ref b), (1, .ref (a 0)), (2, .ref (a2 0))]) X.1 X.2.1 dL_law_666 hl (k := 3) rfl e16.symm (by decide) rfl (fun ls hl => ?_)
          refine lv_goto (tgt := 18) X.1 X.2.1 dL_law_669 (by decide) ?_
          exact ih x15 r7.2 r12.2 h _ _ _ hP hD hS (lv_sub hl [1, 2, 3, 0] rfl)
        · rw [if_neg c14] at h
          refine lv_iconst (v := (0 : Int32)) X.1 X.2.1 dL_law_165 (by decide) ?_
          exact absurd (sm_e h) (by decide)
      · rw [if_neg z3] at h
        by_cases z17 : ((xs v3.toNatClampNeg) &&& (31 : Int32)) = (1 : Int32)
        · rw [if_pos z17] at h
          refine lv_tableIn (off := 135) (tgt := 167) X.1 X.2.1 dL_law_32 (by rw [z17]; decide) (by rw [z17]; decide) (by rw [z17]; rfl) (by decide) ?_
          refine lv_aload_n X.1 X.2.1 dL_law_167 rfl (lv_at hl 1 rfl) ?_
          obtain ⟨r18, q19, h⟩ := bd_e h
          refine kl_1 (As := []) (rest := []) X (k_X3_drop σ _ q19) (cwV 0 X.2.2.2.2 gL_law_X3_drop rfl rfl rfl hd_X3_drop ⟨Nat.le_of_ble_eq_true rfl, Nat.le_of_ble_eq_true rfl⟩) hK1 hP hD hS hA (va_recv hK1 (kl_l hP) (ci := 2) (q0 := 0) rfl rfl) rfl hl.1 rfl (Nat.le_of_ble_eq_true rfl) dL_law_168 ⟨Nat.le_of_ble_eq_true rfl, Nat.le_of_ble_eq_true rfl⟩ (fun H locs hP hD hS => ?_)
          refine lv_aload_n X.1 X.2.1 dL_law_171 rfl (lv_at hl 2 rfl) ?_
          obtain ⟨r20, q21, h⟩ := bd_e h
          refine kl_2 (As := []) (rest := [.int r18.1]) X (k_X4_drop μ _ q21) (cwV 0 X.2.2.2.2 gL_law_X4_drop rfl rfl rfl hd_X4_drop ⟨Nat.le_of_ble_eq_true rfl, Nat.le_of_ble_eq_true rfl⟩) hK2 hP hD hS hA (va_recv hK2 (kl_r hP) (ci := 3) (q0 := 0) rfl rfl) rfl hl.1 rfl (Nat.le_of_ble_eq_true rfl) dL_law_172 ⟨Nat.le_of_ble_eq_true rfl, Nat.le_of_ble_eq_true rfl⟩ (fun H locs hP hD hS => ?_)
          refine lv_icmp_eq (tgt := 666) X.1 X.2.1 dL_law_175 (by decide) (fun c22 => ?_) (fun c22 => ?_)
          · rw [if_pos c22] at h
            obtain ⟨x23, e24, h⟩ := lt_e h
            refine lv_iinc (v := x23) (lv' := [(3, .int x23), (0, .ref b), (1, .ref (a 0)), (2, .ref (a2 0))]) X.1 X.2.1 dL_law_666 hl (k := 3) rfl e24.symm (by decide) rfl (fun ls hl => ?_)
            refine lv_goto (tgt := 18) X.1 X.2.1 dL_law_669 (by decide) ?_
            exact ih x23 r18.2 r20.2 h _ _ _ hP hD hS (lv_sub hl [1, 2, 3, 0] rfl)
          · rw [if_neg c22] at h
            refine lv_iconst (v := (0 : Int32)) X.1 X.2.1 dL_law_178 (by decide) ?_
            exact absurd (sm_e h) (by decide)
        · rw [if_neg z17] at h
          by_cases z25 : ((xs v3.toNatClampNeg) &&& (31 : Int32)) = (2 : Int32)
          · rw [if_pos z25] at h
            refine lv_tableIn (off := 148) (tgt := 180) X.1 X.2.1 dL_law_32 (by rw [z25]; decide) (by rw [z25]; decide) (by rw [z25]; rfl) (by decide) ?_
            refine lv_aload_n X.1 X.2.1 dL_law_180 rfl (lv_at hl 1 rfl) ?_
            refine lv_aload_n X.1 X.2.1 dL_law_181 rfl (lv_at hl 0 rfl) ?_
            refine lv_iload_n X.1 X.2.1 dL_law_182 rfl (lv_at hl 3 rfl) ?_
            refine lv_iconst (v := (1 : Int32)) X.1 X.2.1 dL_law_183 (by decide) ?_
            refine lv_iadd X.1 X.2.1 dL_law_184 ?_
            obtain ⟨g26, h⟩ := gd_e h
            refine va_sld X.1 X.2.1 hX hbl hbA hS (inB_in g26) dL_law_185 ?_
            obtain ⟨r27, q28, h⟩ := bd_e h
            refine kl_1 (As := [.int (xs (v3 + (1 : Int32)).toNatClampNeg)]) (rest := []) X (k_X3_degree (xs (v3 + (1 : Int32)).toNatClampNeg) σ _ q28) (cwV 1 X.2.2.2.2 gL_law_X3_degree rfl rfl rfl hd_X3_degree ⟨Nat.le_of_ble_eq_true rfl, Nat.le_of_ble_eq_true rfl⟩) hK1 hP hD hS hA (va_recv hK1 (kl_l hP) (ci := 2) (q0 := 0) rfl rfl) rfl hl.1 rfl (Nat.le_of_ble_eq_true rfl) dL_law_186 ⟨Nat.le_of_ble_eq_true rfl, Nat.le_of_ble_eq_true rfl⟩ (fun H locs hP hD hS => ?_)
            refine lv_aload_n X.1 X.2.1 dL_law_189 rfl (lv_at hl 2 rfl) ?_
            refine lv_aload_n X.1 X.2.1 dL_law_190 rfl (lv_at hl 0 rfl) ?_
            refine lv_iload_n X.1 X.2.1 dL_law_191 rfl (lv_at hl 3 rfl) ?_
            refine lv_iconst (v := (1 : Int32)) X.1 X.2.1 dL_law_192 (by decide) ?_
            refine lv_iadd X.1 X.2.1 dL_law_193 ?_
            obtain ⟨g29, h⟩ := gd_e h
            refine va_sld X.1 X.2.1 hX hbl hbA hS (inB_in g29) dL_law_194 ?_
            obtain ⟨r30, q31, h⟩ := bd_e h
            refine kl_2 (As := [.int (xs (v3 + (1 : Int32)).toNatClampNeg)]) (rest := [.int r27.1]) X (k_X4_degree (xs (v3 + (1 : Int32)).toNatClampNeg) μ _ q31) (cwV 1 X.2.2.2.2 gL_law_X4_degree rfl rfl rfl hd_X4_degree ⟨Nat.le_of_ble_eq_true rfl, Nat.le_of_ble_eq_true rfl⟩) hK2 hP hD hS hA (va_recv hK2 (kl_r hP) (ci := 3) (q0 := 0) rfl rfl) rfl hl.1 rfl (Nat.le_of_ble_eq_true rfl) dL_law_195 ⟨Nat.le_of_ble_eq_true rfl, Nat.le_of_ble_eq_true rfl⟩ (fun H locs hP hD hS => ?_)
            refine lv_icmp_eq (tgt := 666) X.1 X.2.1 dL_law_198 (by decide) (fun c32 => ?_) (fun c32 => ?_)
            · rw [if_pos c32] at h
              obtain ⟨x33, e34, h⟩ := lt_e h
              refine lv_iinc (v := x33) (lv' := [(3, .int x33), (0, .ref b), (1, .ref (a 0)), (2, .ref (a2 0))]) X.1 X.2.1 dL_law_666 hl (k := 3) rfl e34.symm (by decide) rfl (fun ls hl => ?_)
              refine lv_goto (tgt := 18) X.1 X.2.1 dL_law_669 (by decide) ?_
              exact ih x33 r27.2 r30.2 h _ _ _ hP hD hS (lv_sub hl [1, 2, 3, 0] rfl)
            · rw [if_neg c32] at h
              refine lv_iconst (v := (0 : Int32)) X.1 X.2.1 dL_law_201 (by decide) ?_
              exact absurd (sm_e h) (by decide)
          · rw [if_neg z25] at h
            by_cases z35 : ((xs v3.toNatClampNeg) &&& (31 : Int32)) = (3 : Int32)
            · rw [if_pos z35] at h
              refine lv_tableIn (off := 171) (tgt := 203) X.1 X.2.1 dL_law_32 (by rw [z35]; decide) (by rw [z35]; decide) (by rw [z35]; rfl) (by decide) ?_
              refine lv_aload_n X.1 X.2.1 dL_law_203 rfl (lv_at hl 1 rfl) ?_
              refine lv_aload_n X.1 X.2.1 dL_law_204 rfl (lv_at hl 0 rfl) ?_
              refine lv_iload_n X.1 X.2.1 dL_law_205 rfl (lv_at hl 3 rfl) ?_
              refine lv_iconst (v := (1 : Int32)) X.1 X.2.1 dL_law_206 (by decide) ?_
              refine lv_iadd X.1 X.2.1 dL_law_207 ?_
              obtain ⟨g36, h⟩ := gd_e h
              refine va_sld X.1 X.2.1 hX hbl hbA hS (inB_in g36) dL_law_208 ?_
              refine lv_aload_n X.1 X.2.1 dL_law_209 rfl (lv_at hl 0 rfl) ?_
              refine lv_iload_n X.1 X.2.1 dL_law_210 rfl (lv_at hl 3 rfl) ?_
              refine lv_iconst (v := (2 : Int32)) X.1 X.2.1 dL_law_211 (by decide) ?_
              refine lv_iadd X.1 X.2.1 dL_law_212 ?_
              obtain ⟨g37, h⟩ := gd_e h
              refine va_sld X.1 X.2.1 hX hbl hbA hS (inB_in g37) dL_law_213 ?_
              obtain ⟨r38, q39, h⟩ := bd_e h
              refine kl_1 (As := [.int (xs (v3 + (1 : Int32)).toNatClampNeg), .int (xs (v3 + (2 : Int32)).toNatClampNeg)]) (rest := []) X (k_X3_box (xs (v3 + (1 : Int32)).toNatClampNeg) (xs (v3 + (2 : Int32)).toNatClampNeg) σ _ q39) (cwV 2 X.2.2.2.2 gL_law_X3_box rfl rfl rfl hd_X3_box ⟨Nat.le_of_ble_eq_true rfl, Nat.le_of_ble_eq_true rfl⟩) hK1 hP hD hS hA (va_recv hK1 (kl_l hP) (ci := 2) (q0 := 0) rfl rfl) rfl hl.1 rfl (Nat.le_of_ble_eq_true rfl) dL_law_214 ⟨Nat.le_of_ble_eq_true rfl, Nat.le_of_ble_eq_true rfl⟩ (fun H locs hP hD hS => ?_)
              refine lv_aload_n X.1 X.2.1 dL_law_217 rfl (lv_at hl 2 rfl) ?_
              refine lv_aload_n X.1 X.2.1 dL_law_218 rfl (lv_at hl 0 rfl) ?_
              refine lv_iload_n X.1 X.2.1 dL_law_219 rfl (lv_at hl 3 rfl) ?_
              refine lv_iconst (v := (1 : Int32)) X.1 X.2.1 dL_law_220 (by decide) ?_
              refine lv_iadd X.1 X.2.1 dL_law_221 ?_
              obtain ⟨g40, h⟩ := gd_e h
              refine va_sld X.1 X.2.1 hX hbl hbA hS (inB_in g40) dL_law_222 ?_
              refine lv_aload_n X.1 X.2.1 dL_law_223 rfl (lv_at hl 0 rfl) ?_
              refine lv_iload_n X.1 X.2.1 dL_law_224 rfl (lv_at hl 3 rfl) ?_
              refine lv_iconst (v := (2 : Int32)) X.1 X.2.1 dL_law_225 (by decide) ?_
              refine lv_iadd X.1 X.2.1 dL_law_226 ?_
              obtain ⟨g41, h⟩ := gd_e h
              refine va_sld X.1 X.2.1 hX hbl hbA hS (inB_in g41) dL_law_227 ?_
              obtain ⟨r42, q43, h⟩ := bd_e h
              refine kl_2 (As := [.int (xs (v3 + (1 : Int32)).toNatClampNeg), .int (xs (v3 + (2 : Int32)).toNatClampNeg)]) (rest := [.int r38.1]) X (k_X4_box (xs (v3 + (1 : Int32)).toNatClampNeg) (xs (v3 + (2 : Int32)).toNatClampNeg) μ _ q43) (cwV 2 X.2.2.2.2 gL_law_X4_box rfl rfl rfl hd_X4_box ⟨Nat.le_of_ble_eq_true rfl, Nat.le_of_ble_eq_true rfl⟩) hK2 hP hD hS hA (va_recv hK2 (kl_r hP) (ci := 3) (q0 := 0) rfl rfl) rfl hl.1 rfl (Nat.le_of_ble_eq_true rfl) dL_law_228 ⟨Nat.le_of_ble_eq_true rfl, Nat.le_of_ble_eq_true rfl⟩ (fun H locs hP hD hS => ?_)
              refine lv_icmp_eq (tgt := 666) X.1 X.2.1 dL_law_231 (by decide) (fun c44 => ?_) (fun c44 => ?_)
              · rw [if_pos c44] at h
                obtain ⟨x45, e46, h⟩ := lt_e h
                refine lv_iinc (v := x45) (lv' := [(3, .int x45), (0, .ref b), (1, .ref (a 0)), (2, .ref (a2 0))]) X.1 X.2.1 dL_law_666 hl (k := 3) rfl e46.symm (by decide) rfl (fun ls hl => ?_)
                refine lv_goto (tgt := 18) X.1 X.2.1 dL_law_669 (by decide) ?_
                exact ih x45 r38.2 r42.2 h _ _ _ hP hD hS (lv_sub hl [1, 2, 3, 0] rfl)
              · rw [if_neg c44] at h
                refine lv_iconst (v := (0 : Int32)) X.1 X.2.1 dL_law_234 (by decide) ?_
                exact absurd (sm_e h) (by decide)
            · rw [if_neg z35] at h
              by_cases z47 : ((xs v3.toNatClampNeg) &&& (31 : Int32)) = (4 : Int32)
              · rw [if_pos z47] at h
                refine lv_tableIn (off := 204) (tgt := 236) X.1 X.2.1 dL_law_32 (by rw [z47]; decide) (by rw [z47]; decide) (by rw [z47]; rfl) (by decide) ?_
                refine lv_aload_n X.1 X.2.1 dL_law_236 rfl (lv_at hl 1 rfl) ?_
                refine lv_aload_n X.1 X.2.1 dL_law_237 rfl (lv_at hl 0 rfl) ?_
                refine lv_iload_n X.1 X.2.1 dL_law_238 rfl (lv_at hl 3 rfl) ?_
                refine lv_iconst (v := (1 : Int32)) X.1 X.2.1 dL_law_239 (by decide) ?_
                refine lv_iadd X.1 X.2.1 dL_law_240 ?_
                obtain ⟨g48, h⟩ := gd_e h
                refine va_sld X.1 X.2.1 hX hbl hbA hS (inB_in g48) dL_law_241 ?_
                refine lv_aload_n X.1 X.2.1 dL_law_242 rfl (lv_at hl 0 rfl) ?_
                refine lv_iload_n X.1 X.2.1 dL_law_243 rfl (lv_at hl 3 rfl) ?_
                refine lv_iconst (v := (2 : Int32)) X.1 X.2.1 dL_law_244 (by decide) ?_
                refine lv_iadd X.1 X.2.1 dL_law_245 ?_
                obtain ⟨g49, h⟩ := gd_e h
                refine va_sld X.1 X.2.1 hX hbl hbA hS (inB_in g49) dL_law_246 ?_
                obtain ⟨r50, q51, h⟩ := bd_e h
                refine kl_1 (As := [.int (xs (v3 + (1 : Int32)).toNatClampNeg), .int (xs (v3 + (2 : Int32)).toNatClampNeg)]) (rest := []) X (k_X3_q (xs (v3 + (1 : Int32)).toNatClampNeg) (xs (v3 + (2 : Int32)).toNatClampNeg) σ _ q51) (cwV 2 X.2.2.2.2 gL_law_X3_q rfl rfl rfl hd_X3_q ⟨Nat.le_of_ble_eq_true rfl, Nat.le_of_ble_eq_true rfl⟩) hK1 hP hD hS hA (va_recv hK1 (kl_l hP) (ci := 2) (q0 := 0) rfl rfl) rfl hl.1 rfl (Nat.le_of_ble_eq_true rfl) dL_law_247 ⟨Nat.le_of_ble_eq_true rfl, Nat.le_of_ble_eq_true rfl⟩ (fun H locs hP hD hS => ?_)
                refine lv_aload_n X.1 X.2.1 dL_law_250 rfl (lv_at hl 2 rfl) ?_
                refine lv_aload_n X.1 X.2.1 dL_law_251 rfl (lv_at hl 0 rfl) ?_
                refine lv_iload_n X.1 X.2.1 dL_law_252 rfl (lv_at hl 3 rfl) ?_
                refine lv_iconst (v := (1 : Int32)) X.1 X.2.1 dL_law_253 (by decide) ?_
                refine lv_iadd X.1 X.2.1 dL_law_254 ?_
                obtain ⟨g52, h⟩ := gd_e h
                refine va_sld X.1 X.2.1 hX hbl hbA hS (inB_in g52) dL_law_255 ?_
                refine lv_aload_n X.1 X.2.1 dL_law_256 rfl (lv_at hl 0 rfl) ?_
                refine lv_iload_n X.1 X.2.1 dL_law_257 rfl (lv_at hl 3 rfl) ?_
                refine lv_iconst (v := (2 : Int32)) X.1 X.2.1 dL_law_258 (by decide) ?_
                refine lv_iadd X.1 X.2.1 dL_law_259 ?_
                obtain ⟨g53, h⟩ := gd_e h
                refine va_sld X.1 X.2.1 hX hbl hbA hS (inB_in g53) dL_law_260 ?_
                obtain ⟨r54, q55, h⟩ := bd_e h
                refine kl_2 (As := [.int (xs (v3 + (1 : Int32)).toNatClampNeg), .int (xs (v3 + (2 : Int32)).toNatClampNeg)]) (rest := [.int r50]) X (k_X4_q (xs (v3 + (1 : Int32)).toNatClampNeg) (xs (v3 + (2 : Int32)).toNatClampNeg) μ _ q55) (cwV 2 X.2.2.2.2 gL_law_X4_q rfl rfl rfl hd_X4_q ⟨Nat.le_of_ble_eq_true rfl, Nat.le_of_ble_eq_true rfl⟩) hK2 hP hD hS hA (va_recv hK2 (kl_r hP) (ci := 3) (q0 := 0) rfl rfl) rfl hl.1 rfl (Nat.le_of_ble_eq_true rfl) dL_law_261 ⟨Nat.le_of_ble_eq_true rfl, Nat.le_of_ble_eq_true rfl⟩ (fun H locs hP hD hS => ?_)
                refine lv_icmp_eq (tgt := 666) X.1 X.2.1 dL_law_264 (by decide) (fun c56 => ?_) (fun c56 => ?_)
                · rw [if_pos c56] at h
                  obtain ⟨x57, e58, h⟩ := lt_e h
                  refine lv_iinc (v := x57) (lv' := [(3, .int x57), (0, .ref b), (1, .ref (a 0)), (2, .ref (a2 0))]) X.1 X.2.1 dL_law_666 hl (k := 3) rfl e58.symm (by decide) rfl (fun ls hl => ?_)
                  refine lv_goto (tgt := 18) X.1 X.2.1 dL_law_669 (by decide) ?_
                  exact ih x57 σ μ h _ _ _ hP hD hS (lv_sub hl [1, 2, 3, 0] rfl)
                · rw [if_neg c56] at h
                  refine lv_iconst (v := (0 : Int32)) X.1 X.2.1 dL_law_267 (by decide) ?_
                  exact absurd (sm_e h) (by decide)
              · rw [if_neg z47] at h
                by_cases z59 : ((xs v3.toNatClampNeg) &&& (31 : Int32)) = (5 : Int32)
                · rw [if_pos z59] at h
                  refine lv_tableIn (off := 237) (tgt := 269) X.1 X.2.1 dL_law_32 (by rw [z59]; decide) (by rw [z59]; decide) (by rw [z59]; rfl) (by decide) ?_
                  refine lv_aload_n X.1 X.2.1 dL_law_269 rfl (lv_at hl 1 rfl) ?_
                  obtain ⟨r60, q61, h⟩ := bd_e h
                  refine kl_1 (As := []) (rest := []) X (k_X3_begin N σ _ q61) (cwV 0 X.2.2.2.2 gL_law_X3_begin rfl rfl rfl hd_X3_begin ⟨Nat.le_of_ble_eq_true rfl, Nat.le_of_ble_eq_true rfl⟩) hK1 hP hD hS hA (va_recv hK1 (kl_l hP) (ci := 2) (q0 := 0) rfl rfl) rfl hl.1 rfl (Nat.le_of_ble_eq_true rfl) dL_law_270 ⟨Nat.le_of_ble_eq_true rfl, Nat.le_of_ble_eq_true rfl⟩ (fun H locs hP hD hS => ?_)
                  refine lv_aload_n X.1 X.2.1 dL_law_273 rfl (lv_at hl 2 rfl) ?_
                  obtain ⟨r62, q63, h⟩ := bd_e h
                  refine kl_2 (As := []) (rest := [.int r60.1]) X (k_X4_begin N μ _ q63) (cwV 0 X.2.2.2.2 gL_law_X4_begin rfl rfl rfl hd_X4_begin ⟨Nat.le_of_ble_eq_true rfl, Nat.le_of_ble_eq_true rfl⟩) hK2 hP hD hS hA (va_recv hK2 (kl_r hP) (ci := 3) (q0 := 0) rfl rfl) rfl hl.1 rfl (Nat.le_of_ble_eq_true rfl) dL_law_274 ⟨Nat.le_of_ble_eq_true rfl, Nat.le_of_ble_eq_true rfl⟩ (fun H locs hP hD hS => ?_)
                  refine lv_icmp_eq (tgt := 666) X.1 X.2.1 dL_law_277 (by decide) (fun c64 => ?_) (fun c64 => ?_)
                  · rw [if_pos c64] at h
                    obtain ⟨x65, e66, h⟩ := lt_e h
                    refine lv_iinc (v := x65) (lv' := [(3, .int x65), (0, .ref b), (1, .ref (a 0)), (2, .ref (a2 0))]) X.1 X.2.1 dL_law_666 hl (k := 3) rfl e66.symm (by decide) rfl (fun ls hl => ?_)
                    refine lv_goto (tgt := 18) X.1 X.2.1 dL_law_669 (by decide) ?_
                    exact ih x65 r60.2 r62.2 h _ _ _ hP hD hS (lv_sub hl [1, 2, 3, 0] rfl)
                  · rw [if_neg c64] at h
                    refine lv_iconst (v := (0 : Int32)) X.1 X.2.1 dL_law_280 (by decide) ?_
                    exact absurd (sm_e h) (by decide)
                · rw [if_neg z59] at h
                  by_cases z67 : ((xs v3.toNatClampNeg) &&& (31 : Int32)) = (6 : Int32)
                  · rw [if_pos z67] at h
                    refine lv_tableIn (off := 250) (tgt := 282) X.1 X.2.1 dL_law_32 (by rw [z67]; decide) (by rw [z67]; decide) (by rw [z67]; rfl) (by decide) ?_
                    refine lv_aload_n X.1 X.2.1 dL_law_282 rfl (lv_at hl 1 rfl) ?_
                    refine lv_aload_n X.1 X.2.1 dL_law_283 rfl (lv_at hl 0 rfl) ?_
                    refine lv_iload_n X.1 X.2.1 dL_law_284 rfl (lv_at hl 3 rfl) ?_
                    refine lv_iconst (v := (1 : Int32)) X.1 X.2.1 dL_law_285 (by decide) ?_
                    refine lv_iadd X.1 X.2.1 dL_law_286 ?_
                    obtain ⟨g68, h⟩ := gd_e h
                    refine va_sld X.1 X.2.1 hX hbl hbA hS (inB_in g68) dL_law_287 ?_
                    obtain ⟨r69, q70, h⟩ := bd_e h
                    refine kl_1 (As := [.int (xs (v3 + (1 : Int32)).toNatClampNeg)]) (rest := []) X (k_X3_go N (xs (v3 + (1 : Int32)).toNatClampNeg) σ _ q70) (cwV 1 X.2.2.2.2 gL_law_X3_go rfl rfl rfl hd_X3_go ⟨Nat.le_of_ble_eq_true rfl, Nat.le_of_ble_eq_true rfl⟩) hK1 hP hD hS hA (va_recv hK1 (kl_l hP) (ci := 2) (q0 := 0) rfl rfl) rfl hl.1 rfl (Nat.le_of_ble_eq_true rfl) dL_law_288 ⟨Nat.le_of_ble_eq_true rfl, Nat.le_of_ble_eq_true rfl⟩ (fun H locs hP hD hS => ?_)
                    refine lv_aload_n X.1 X.2.1 dL_law_291 rfl (lv_at hl 2 rfl) ?_
                    refine lv_aload_n X.1 X.2.1 dL_law_292 rfl (lv_at hl 0 rfl) ?_
                    refine lv_iload_n X.1 X.2.1 dL_law_293 rfl (lv_at hl 3 rfl) ?_
                    refine lv_iconst (v := (1 : Int32)) X.1 X.2.1 dL_law_294 (by decide) ?_
                    refine lv_iadd X.1 X.2.1 dL_law_295 ?_
                    obtain ⟨g71, h⟩ := gd_e h
                    refine va_sld X.1 X.2.1 hX hbl hbA hS (inB_in g71) dL_law_296 ?_
                    obtain ⟨r72, q73, h⟩ := bd_e h
                    refine kl_2 (As := [.int (xs (v3 + (1 : Int32)).toNatClampNeg)]) (rest := [.int r69.1]) X (k_X4_go N (xs (v3 + (1 : Int32)).toNatClampNeg) μ _ q73) (cwV 1 X.2.2.2.2 gL_law_X4_go rfl rfl rfl hd_X4_go ⟨Nat.le_of_ble_eq_true rfl, Nat.le_of_ble_eq_true rfl⟩) hK2 hP hD hS hA (va_recv hK2 (kl_r hP) (ci := 3) (q0 := 0) rfl rfl) rfl hl.1 rfl (Nat.le_of_ble_eq_true rfl) dL_law_297 ⟨Nat.le_of_ble_eq_true rfl, Nat.le_of_ble_eq_true rfl⟩ (fun H locs hP hD hS => ?_)
                    refine lv_icmp_eq (tgt := 666) X.1 X.2.1 dL_law_300 (by decide) (fun c74 => ?_) (fun c74 => ?_)
                    · rw [if_pos c74] at h
                      obtain ⟨x75, e76, h⟩ := lt_e h
                      refine lv_iinc (v := x75) (lv' := [(3, .int x75), (0, .ref b), (1, .ref (a 0)), (2, .ref (a2 0))]) X.1 X.2.1 dL_law_666 hl (k := 3) rfl e76.symm (by decide) rfl (fun ls hl => ?_)
                      refine lv_goto (tgt := 18) X.1 X.2.1 dL_law_669 (by decide) ?_
                      exact ih x75 r69.2 r72.2 h _ _ _ hP hD hS (lv_sub hl [1, 2, 3, 0] rfl)
                    · rw [if_neg c74] at h
                      refine lv_iconst (v := (0 : Int32)) X.1 X.2.1 dL_law_303 (by decide) ?_
                      exact absurd (sm_e h) (by decide)
                  · rw [if_neg z67] at h
                    by_cases z77 : ((xs v3.toNatClampNeg) &&& (31 : Int32)) = (7 : Int32)
                    · rw [if_pos z77] at h
                      refine lv_tableIn (off := 273) (tgt := 305) X.1 X.2.1 dL_law_32 (by rw [z77]; decide) (by rw [z77]; decide) (by rw [z77]; rfl) (by decide) ?_
                      refine lv_aload_n X.1 X.2.1 dL_law_305 rfl (lv_at hl 1 rfl) ?_
                      refine lv_aload_n X.1 X.2.1 dL_law_306 rfl (lv_at hl 0 rfl) ?_
                      refine lv_iload_n X.1 X.2.1 dL_law_307 rfl (lv_at hl 3 rfl) ?_
                      refine lv_iconst (v := (1 : Int32)) X.1 X.2.1 dL_law_308 (by decide) ?_
                      refine lv_iadd X.1 X.2.1 dL_law_309 ?_
                      obtain ⟨g78, h⟩ := gd_e h
                      refine va_sld X.1 X.2.1 hX hbl hbA hS (inB_in g78) dL_law_310 ?_
                      refine lv_aload_n X.1 X.2.1 dL_law_311 rfl (lv_at hl 0 rfl) ?_
                      refine lv_iload_n X.1 X.2.1 dL_law_312 rfl (lv_at hl 3 rfl) ?_
                      refine lv_iconst (v := (2 : Int32)) X.1 X.2.1 dL_law_313 (by decide) ?_
                      refine lv_iadd X.1 X.2.1 dL_law_314 ?_
                      obtain ⟨g79, h⟩ := gd_e h
                      refine va_sld X.1 X.2.1 hX hbl hbA hS (inB_in g79) dL_law_315 ?_
                      obtain ⟨r80, q81, h⟩ := bd_e h
                      refine kl_1 (As := [.int (xs (v3 + (1 : Int32)).toNatClampNeg), .int (xs (v3 + (2 : Int32)).toNatClampNeg)]) (rest := []) X (k_X3_step (xs (v3 + (1 : Int32)).toNatClampNeg) (xs (v3 + (2 : Int32)).toNatClampNeg) σ _ q81) (cwV 2 X.2.2.2.2 gL_law_X3_step rfl rfl rfl hd_X3_step ⟨Nat.le_of_ble_eq_true rfl, Nat.le_of_ble_eq_true rfl⟩) hK1 hP hD hS hA (va_recv hK1 (kl_l hP) (ci := 2) (q0 := 0) rfl rfl) rfl hl.1 rfl (Nat.le_of_ble_eq_true rfl) dL_law_316 ⟨Nat.le_of_ble_eq_true rfl, Nat.le_of_ble_eq_true rfl⟩ (fun H locs hP hD hS => ?_)
                      refine lv_aload_n X.1 X.2.1 dL_law_319 rfl (lv_at hl 2 rfl) ?_
                      refine lv_aload_n X.1 X.2.1 dL_law_320 rfl (lv_at hl 0 rfl) ?_
                      refine lv_iload_n X.1 X.2.1 dL_law_321 rfl (lv_at hl 3 rfl) ?_
                      refine lv_iconst (v := (1 : Int32)) X.1 X.2.1 dL_law_322 (by decide) ?_
                      refine lv_iadd X.1 X.2.1 dL_law_323 ?_
                      obtain ⟨g82, h⟩ := gd_e h
                      refine va_sld X.1 X.2.1 hX hbl hbA hS (inB_in g82) dL_law_324 ?_
                      refine lv_aload_n X.1 X.2.1 dL_law_325 rfl (lv_at hl 0 rfl) ?_
                      refine lv_iload_n X.1 X.2.1 dL_law_326 rfl (lv_at hl 3 rfl) ?_
                      refine lv_iconst (v := (2 : Int32)) X.1 X.2.1 dL_law_327 (by decide) ?_
                      refine lv_iadd X.1 X.2.1 dL_law_328 ?_
                      obtain ⟨g83, h⟩ := gd_e h
                      refine va_sld X.1 X.2.1 hX hbl hbA hS (inB_in g83) dL_law_329 ?_
                      obtain ⟨r84, q85, h⟩ := bd_e h
                      refine kl_2 (As := [.int (xs (v3 + (1 : Int32)).toNatClampNeg), .int (xs (v3 + (2 : Int32)).toNatClampNeg)]) (rest := [.int r80]) X (k_X4_step (xs (v3 + (1 : Int32)).toNatClampNeg) (xs (v3 + (2 : Int32)).toNatClampNeg) μ _ q85) (cwV 2 X.2.2.2.2 gL_law_X4_step rfl rfl rfl hd_X4_step ⟨Nat.le_of_ble_eq_true rfl, Nat.le_of_ble_eq_true rfl⟩) hK2 hP hD hS hA (va_recv hK2 (kl_r hP) (ci := 3) (q0 := 0) rfl rfl) rfl hl.1 rfl (Nat.le_of_ble_eq_true rfl) dL_law_330 ⟨Nat.le_of_ble_eq_true rfl, Nat.le_of_ble_eq_true rfl⟩ (fun H locs hP hD hS => ?_)
                      refine lv_icmp_eq (tgt := 666) X.1 X.2.1 dL_law_333 (by decide) (fun c86 => ?_) (fun c86 => ?_)
                      · rw [if_pos c86] at h
                        obtain ⟨x87, e88, h⟩ := lt_e h
                        refine lv_iinc (v := x87) (lv' := [(3, .int x87), (0, .ref b), (1, .ref (a 0)), (2, .ref (a2 0))]) X.1 X.2.1 dL_law_666 hl (k := 3) rfl e88.symm (by decide) rfl (fun ls hl => ?_)
                        refine lv_goto (tgt := 18) X.1 X.2.1 dL_law_669 (by decide) ?_
                        exact ih x87 σ μ h _ _ _ hP hD hS (lv_sub hl [1, 2, 3, 0] rfl)
                      · rw [if_neg c86] at h
                        refine lv_iconst (v := (0 : Int32)) X.1 X.2.1 dL_law_336 (by decide) ?_
                        exact absurd (sm_e h) (by decide)
                    · rw [if_neg z77] at h
                      by_cases z89 : ((xs v3.toNatClampNeg) &&& (31 : Int32)) = (8 : Int32)
                      · rw [if_pos z89] at h
                        refine lv_tableIn (off := 306) (tgt := 338) X.1 X.2.1 dL_law_32 (by rw [z89]; decide) (by rw [z89]; decide) (by rw [z89]; rfl) (by decide) ?_
                        refine lv_aload_n X.1 X.2.1 dL_law_338 rfl (lv_at hl 1 rfl) ?_
                        refine lv_aload_n X.1 X.2.1 dL_law_339 rfl (lv_at hl 0 rfl) ?_
                        refine lv_iload_n X.1 X.2.1 dL_law_340 rfl (lv_at hl 3 rfl) ?_
                        refine lv_iconst (v := (1 : Int32)) X.1 X.2.1 dL_law_341 (by decide) ?_
                        refine lv_iadd X.1 X.2.1 dL_law_342 ?_
                        obtain ⟨g90, h⟩ := gd_e h
                        refine va_sld X.1 X.2.1 hX hbl hbA hS (inB_in g90) dL_law_343 ?_
                        obtain ⟨r91, q92, h⟩ := bd_e h
                        refine kl_1 (As := [.int (xs (v3 + (1 : Int32)).toNatClampNeg)]) (rest := []) X (k_X3_told (xs (v3 + (1 : Int32)).toNatClampNeg) σ _ q92) (cwV 1 X.2.2.2.2 gL_law_X3_told rfl rfl rfl hd_X3_told ⟨Nat.le_of_ble_eq_true rfl, Nat.le_of_ble_eq_true rfl⟩) hK1 hP hD hS hA (va_recv hK1 (kl_l hP) (ci := 2) (q0 := 0) rfl rfl) rfl hl.1 rfl (Nat.le_of_ble_eq_true rfl) dL_law_344 ⟨Nat.le_of_ble_eq_true rfl, Nat.le_of_ble_eq_true rfl⟩ (fun H locs hP hD hS => ?_)
                        refine lv_aload_n X.1 X.2.1 dL_law_347 rfl (lv_at hl 2 rfl) ?_
                        refine lv_aload_n X.1 X.2.1 dL_law_348 rfl (lv_at hl 0 rfl) ?_
                        refine lv_iload_n X.1 X.2.1 dL_law_349 rfl (lv_at hl 3 rfl) ?_
                        refine lv_iconst (v := (1 : Int32)) X.1 X.2.1 dL_law_350 (by decide) ?_
                        refine lv_iadd X.1 X.2.1 dL_law_351 ?_
                        obtain ⟨g93, h⟩ := gd_e h
                        refine va_sld X.1 X.2.1 hX hbl hbA hS (inB_in g93) dL_law_352 ?_
                        obtain ⟨r94, q95, h⟩ := bd_e h
                        refine kl_2 (As := [.int (xs (v3 + (1 : Int32)).toNatClampNeg)]) (rest := [.int r91]) X (k_X4_told (xs (v3 + (1 : Int32)).toNatClampNeg) μ _ q95) (cwV 1 X.2.2.2.2 gL_law_X4_told rfl rfl rfl hd_X4_told ⟨Nat.le_of_ble_eq_true rfl, Nat.le_of_ble_eq_true rfl⟩) hK2 hP hD hS hA (va_recv hK2 (kl_r hP) (ci := 3) (q0 := 0) rfl rfl) rfl hl.1 rfl (Nat.le_of_ble_eq_true rfl) dL_law_353 ⟨Nat.le_of_ble_eq_true rfl, Nat.le_of_ble_eq_true rfl⟩ (fun H locs hP hD hS => ?_)
                        refine lv_icmp_eq (tgt := 666) X.1 X.2.1 dL_law_356 (by decide) (fun c96 => ?_) (fun c96 => ?_)
                        · rw [if_pos c96] at h
                          obtain ⟨x97, e98, h⟩ := lt_e h
                          refine lv_iinc (v := x97) (lv' := [(3, .int x97), (0, .ref b), (1, .ref (a 0)), (2, .ref (a2 0))]) X.1 X.2.1 dL_law_666 hl (k := 3) rfl e98.symm (by decide) rfl (fun ls hl => ?_)
                          refine lv_goto (tgt := 18) X.1 X.2.1 dL_law_669 (by decide) ?_
                          exact ih x97 σ μ h _ _ _ hP hD hS (lv_sub hl [1, 2, 3, 0] rfl)
                        · rw [if_neg c96] at h
                          refine lv_iconst (v := (0 : Int32)) X.1 X.2.1 dL_law_359 (by decide) ?_
                          exact absurd (sm_e h) (by decide)
                      · rw [if_neg z89] at h
                        by_cases z99 : ((xs v3.toNatClampNeg) &&& (31 : Int32)) = (9 : Int32)
                        · rw [if_pos z99] at h
                          refine lv_tableIn (off := 329) (tgt := 361) X.1 X.2.1 dL_law_32 (by rw [z99]; decide) (by rw [z99]; decide) (by rw [z99]; rfl) (by decide) ?_
                          refine lv_aload_n X.1 X.2.1 dL_law_361 rfl (lv_at hl 1 rfl) ?_
                          refine lv_aload_n X.1 X.2.1 dL_law_362 rfl (lv_at hl 0 rfl) ?_
                          refine lv_iload_n X.1 X.2.1 dL_law_363 rfl (lv_at hl 3 rfl) ?_
                          refine lv_iconst (v := (1 : Int32)) X.1 X.2.1 dL_law_364 (by decide) ?_
                          refine lv_iadd X.1 X.2.1 dL_law_365 ?_
                          obtain ⟨g100, h⟩ := gd_e h
                          refine va_sld X.1 X.2.1 hX hbl hbA hS (inB_in g100) dL_law_366 ?_
                          refine lv_aload_n X.1 X.2.1 dL_law_367 rfl (lv_at hl 0 rfl) ?_
                          refine lv_iload_n X.1 X.2.1 dL_law_368 rfl (lv_at hl 3 rfl) ?_
                          refine lv_iconst (v := (2 : Int32)) X.1 X.2.1 dL_law_369 (by decide) ?_
                          refine lv_iadd X.1 X.2.1 dL_law_370 ?_
                          obtain ⟨g101, h⟩ := gd_e h
                          refine va_sld X.1 X.2.1 hX hbl hbA hS (inB_in g101) dL_law_371 ?_
                          refine lv_aload_n X.1 X.2.1 dL_law_372 rfl (lv_at hl 0 rfl) ?_
                          refine lv_iload_n X.1 X.2.1 dL_law_373 rfl (lv_at hl 3 rfl) ?_
                          refine lv_iconst (v := (3 : Int32)) X.1 X.2.1 dL_law_374 (by decide) ?_
                          refine lv_iadd X.1 X.2.1 dL_law_375 ?_
                          obtain ⟨g102, h⟩ := gd_e h
                          refine va_sld X.1 X.2.1 hX hbl hbA hS (inB_in g102) dL_law_376 ?_
                          obtain ⟨r103, q104, h⟩ := bd_e h
                          refine kl_1 (As := [.int (xs (v3 + (1 : Int32)).toNatClampNeg), .int (xs (v3 + (2 : Int32)).toNatClampNeg), .int (xs (v3 + (3 : Int32)).toNatClampNeg)]) (rest := []) X (k_X3_at N (xs (v3 + (1 : Int32)).toNatClampNeg) (xs (v3 + (2 : Int32)).toNatClampNeg) (xs (v3 + (3 : Int32)).toNatClampNeg) σ _ q104) (cwV 3 X.2.2.2.2 gL_law_X3_at rfl rfl rfl hd_X3_at ⟨Nat.le_of_ble_eq_true rfl, Nat.le_of_ble_eq_true rfl⟩) hK1 hP hD hS hA (va_recv hK1 (kl_l hP) (ci := 2) (q0 := 0) rfl rfl) rfl hl.1 rfl (Nat.le_of_ble_eq_true rfl) dL_law_377 ⟨Nat.le_of_ble_eq_true rfl, Nat.le_of_ble_eq_true rfl⟩ (fun H locs hP hD hS => ?_)
                          refine lv_aload_n X.1 X.2.1 dL_law_380 rfl (lv_at hl 2 rfl) ?_
                          refine lv_aload_n X.1 X.2.1 dL_law_381 rfl (lv_at hl 0 rfl) ?_
                          refine lv_iload_n X.1 X.2.1 dL_law_382 rfl (lv_at hl 3 rfl) ?_
                          refine lv_iconst (v := (1 : Int32)) X.1 X.2.1 dL_law_383 (by decide) ?_
                          refine lv_iadd X.1 X.2.1 dL_law_384 ?_
                          obtain ⟨g105, h⟩ := gd_e h
                          refine va_sld X.1 X.2.1 hX hbl hbA hS (inB_in g105) dL_law_385 ?_
                          refine lv_aload_n X.1 X.2.1 dL_law_386 rfl (lv_at hl 0 rfl) ?_
                          refine lv_iload_n X.1 X.2.1 dL_law_387 rfl (lv_at hl 3 rfl) ?_
                          refine lv_iconst (v := (2 : Int32)) X.1 X.2.1 dL_law_388 (by decide) ?_
                          refine lv_iadd X.1 X.2.1 dL_law_389 ?_
                          obtain ⟨g106, h⟩ := gd_e h
                          refine va_sld X.1 X.2.1 hX hbl hbA hS (inB_in g106) dL_law_390 ?_
                          refine lv_aload_n X.1 X.2.1 dL_law_391 rfl (lv_at hl 0 rfl) ?_
                          refine lv_iload_n X.1 X.2.1 dL_law_392 rfl (lv_at hl 3 rfl) ?_
                          refine lv_iconst (v := (3 : Int32)) X.1 X.2.1 dL_law_393 (by decide) ?_
                          refine lv_iadd X.1 X.2.1 dL_law_394 ?_
                          obtain ⟨g107, h⟩ := gd_e h
                          refine va_sld X.1 X.2.1 hX hbl hbA hS (inB_in g107) dL_law_395 ?_
                          obtain ⟨r108, q109, h⟩ := bd_e h
                          refine kl_2 (As := [.int (xs (v3 + (1 : Int32)).toNatClampNeg), .int (xs (v3 + (2 : Int32)).toNatClampNeg), .int (xs (v3 + (3 : Int32)).toNatClampNeg)]) (rest := [.long r103]) X (k_X4_at N (xs (v3 + (1 : Int32)).toNatClampNeg) (xs (v3 + (2 : Int32)).toNatClampNeg) (xs (v3 + (3 : Int32)).toNatClampNeg) μ _ q109) (cwV 3 X.2.2.2.2 gL_law_X4_at rfl rfl rfl hd_X4_at ⟨Nat.le_of_ble_eq_true rfl, Nat.le_of_ble_eq_true rfl⟩) hK2 hP hD hS hA (va_recv hK2 (kl_r hP) (ci := 3) (q0 := 0) rfl rfl) rfl hl.1 rfl (Nat.le_of_ble_eq_true rfl) dL_law_396 ⟨Nat.le_of_ble_eq_true rfl, Nat.le_of_ble_eq_true rfl⟩ (fun H locs hP hD hS => ?_)
                          refine W.lcmp X.1 X.2.1 dL_law_399 ?_
                          refine lv_if_eq (tgt := 666) X.1 X.2.1 dL_law_400 (by decide) (fun c110 => ?_) (fun c110 => ?_)
                          · rw [if_pos c110] at h
                            obtain ⟨x111, e112, h⟩ := lt_e h
                            refine lv_iinc (v := x111) (lv' := [(3, .int x111), (0, .ref b), (1, .ref (a 0)), (2, .ref (a2 0))]) X.1 X.2.1 dL_law_666 hl (k := 3) rfl e112.symm (by decide) rfl (fun ls hl => ?_)
                            refine lv_goto (tgt := 18) X.1 X.2.1 dL_law_669 (by decide) ?_
                            exact ih x111 σ μ h _ _ _ hP hD hS (lv_sub hl [1, 2, 3, 0] rfl)
                          · rw [if_neg c110] at h
                            refine lv_iconst (v := (0 : Int32)) X.1 X.2.1 dL_law_403 (by decide) ?_
                            exact absurd (sm_e h) (by decide)
                        · rw [if_neg z99] at h
                          by_cases z113 : ((xs v3.toNatClampNeg) &&& (31 : Int32)) = (10 : Int32)
                          · rw [if_pos z113] at h
                            refine lv_tableIn (off := 373) (tgt := 405) X.1 X.2.1 dL_law_32 (by rw [z113]; decide) (by rw [z113]; decide) (by rw [z113]; rfl) (by decide) ?_
                            refine lv_aload_n X.1 X.2.1 dL_law_405 rfl (lv_at hl 1 rfl) ?_
                            refine lv_aload_n X.1 X.2.1 dL_law_406 rfl (lv_at hl 0 rfl) ?_
                            refine lv_iload_n X.1 X.2.1 dL_law_407 rfl (lv_at hl 3 rfl) ?_
                            refine lv_iconst (v := (1 : Int32)) X.1 X.2.1 dL_law_408 (by decide) ?_
                            refine lv_iadd X.1 X.2.1 dL_law_409 ?_
                            obtain ⟨g114, h⟩ := gd_e h
                            refine va_sld X.1 X.2.1 hX hbl hbA hS (inB_in g114) dL_law_410 ?_
                            refine lv_aload_n X.1 X.2.1 dL_law_411 rfl (lv_at hl 0 rfl) ?_
                            refine lv_iload_n X.1 X.2.1 dL_law_412 rfl (lv_at hl 3 rfl) ?_
                            refine lv_iconst (v := (2 : Int32)) X.1 X.2.1 dL_law_413 (by decide) ?_
                            refine lv_iadd X.1 X.2.1 dL_law_414 ?_
                            obtain ⟨g115, h⟩ := gd_e h
                            refine va_sld X.1 X.2.1 hX hbl hbA hS (inB_in g115) dL_law_415 ?_
                            obtain ⟨r116, q117, h⟩ := bd_e h
                            refine kl_1 (As := [.int (xs (v3 + (1 : Int32)).toNatClampNeg), .int (xs (v3 + (2 : Int32)).toNatClampNeg)]) (rest := []) X (k_X3_multiplier N (xs (v3 + (1 : Int32)).toNatClampNeg) (xs (v3 + (2 : Int32)).toNatClampNeg) σ _ q117) (cwV 2 X.2.2.2.2 gL_law_X3_multiplier rfl rfl rfl hd_X3_multiplier ⟨Nat.le_of_ble_eq_true rfl, Nat.le_of_ble_eq_true rfl⟩) hK1 hP hD hS hA (va_recv hK1 (kl_l hP) (ci := 2) (q0 := 0) rfl rfl) rfl hl.1 rfl (Nat.le_of_ble_eq_true rfl) dL_law_416 ⟨Nat.le_of_ble_eq_true rfl, Nat.le_of_ble_eq_true rfl⟩ (fun H locs hP hD hS => ?_)
                            refine lv_aload_n X.1 X.2.1 dL_law_419 rfl (lv_at hl 2 rfl) ?_
                            refine lv_aload_n X.1 X.2.1 dL_law_420 rfl (lv_at hl 0 rfl) ?_
                            refine lv_iload_n X.1 X.2.1 dL_law_421 rfl (lv_at hl 3 rfl) ?_
                            refine lv_iconst (v := (1 : Int32)) X.1 X.2.1 dL_law_422 (by decide) ?_
                            refine lv_iadd X.1 X.2.1 dL_law_423 ?_
                            obtain ⟨g118, h⟩ := gd_e h
                            refine va_sld X.1 X.2.1 hX hbl hbA hS (inB_in g118) dL_law_424 ?_
                            refine lv_aload_n X.1 X.2.1 dL_law_425 rfl (lv_at hl 0 rfl) ?_
                            refine lv_iload_n X.1 X.2.1 dL_law_426 rfl (lv_at hl 3 rfl) ?_
                            refine lv_iconst (v := (2 : Int32)) X.1 X.2.1 dL_law_427 (by decide) ?_
                            refine lv_iadd X.1 X.2.1 dL_law_428 ?_
                            obtain ⟨g119, h⟩ := gd_e h
                            refine va_sld X.1 X.2.1 hX hbl hbA hS (inB_in g119) dL_law_429 ?_
                            obtain ⟨r120, q121, h⟩ := bd_e h
                            refine kl_2 (As := [.int (xs (v3 + (1 : Int32)).toNatClampNeg), .int (xs (v3 + (2 : Int32)).toNatClampNeg)]) (rest := [.long r116]) X (k_X4_multiplier N (xs (v3 + (1 : Int32)).toNatClampNeg) (xs (v3 + (2 : Int32)).toNatClampNeg) μ _ q121) (cwV 2 X.2.2.2.2 gL_law_X4_multiplier rfl rfl rfl hd_X4_multiplier ⟨Nat.le_of_ble_eq_true rfl, Nat.le_of_ble_eq_true rfl⟩) hK2 hP hD hS hA (va_recv hK2 (kl_r hP) (ci := 3) (q0 := 0) rfl rfl) rfl hl.1 rfl (Nat.le_of_ble_eq_true rfl) dL_law_430 ⟨Nat.le_of_ble_eq_true rfl, Nat.le_of_ble_eq_true rfl⟩ (fun H locs hP hD hS => ?_)
                            refine W.lcmp X.1 X.2.1 dL_law_433 ?_
                            refine lv_if_eq (tgt := 666) X.1 X.2.1 dL_law_434 (by decide) (fun c122 => ?_) (fun c122 => ?_)
                            · rw [if_pos c122] at h
                              obtain ⟨x123, e124, h⟩ := lt_e h
                              refine lv_iinc (v := x123) (lv' := [(3, .int x123), (0, .ref b), (1, .ref (a 0)), (2, .ref (a2 0))]) X.1 X.2.1 dL_law_666 hl (k := 3) rfl e124.symm (by decide) rfl (fun ls hl => ?_)
                              refine lv_goto (tgt := 18) X.1 X.2.1 dL_law_669 (by decide) ?_
                              exact ih x123 σ μ h _ _ _ hP hD hS (lv_sub hl [1, 2, 3, 0] rfl)
                            · rw [if_neg c122] at h
                              refine lv_iconst (v := (0 : Int32)) X.1 X.2.1 dL_law_437 (by decide) ?_
                              exact absurd (sm_e h) (by decide)
                          · rw [if_neg z113] at h
                            by_cases z125 : ((xs v3.toNatClampNeg) &&& (31 : Int32)) = (11 : Int32)
                            · rw [if_pos z125] at h
                              refine lv_tableIn (off := 407) (tgt := 439) X.1 X.2.1 dL_law_32 (by rw [z125]; decide) (by rw [z125]; decide) (by rw [z125]; rfl) (by decide) ?_
                              refine lv_aload_n X.1 X.2.1 dL_law_439 rfl (lv_at hl 1 rfl) ?_
                              refine lv_aload_n X.1 X.2.1 dL_law_440 rfl (lv_at hl 0 rfl) ?_
                              refine lv_iload_n X.1 X.2.1 dL_law_441 rfl (lv_at hl 3 rfl) ?_
                              refine lv_iconst (v := (1 : Int32)) X.1 X.2.1 dL_law_442 (by decide) ?_
                              refine lv_iadd X.1 X.2.1 dL_law_443 ?_
                              obtain ⟨g126, h⟩ := gd_e h
                              refine va_sld X.1 X.2.1 hX hbl hbA hS (inB_in g126) dL_law_444 ?_
                              obtain ⟨r127, q128, h⟩ := bd_e h
                              refine kl_1 (As := [.int (xs (v3 + (1 : Int32)).toNatClampNeg)]) (rest := []) X (k_X3_lies N (xs (v3 + (1 : Int32)).toNatClampNeg) σ _ q128) (cwV 1 X.2.2.2.2 gL_law_X3_lies rfl rfl rfl hd_X3_lies ⟨Nat.le_of_ble_eq_true rfl, Nat.le_of_ble_eq_true rfl⟩) hK1 hP hD hS hA (va_recv hK1 (kl_l hP) (ci := 2) (q0 := 0) rfl rfl) rfl hl.1 rfl (Nat.le_of_ble_eq_true rfl) dL_law_445 ⟨Nat.le_of_ble_eq_true rfl, Nat.le_of_ble_eq_true rfl⟩ (fun H locs hP hD hS => ?_)
                              refine lv_aload_n X.1 X.2.1 dL_law_448 rfl (lv_at hl 2 rfl) ?_
                              refine lv_aload_n X.1 X.2.1 dL_law_449 rfl (lv_at hl 0 rfl) ?_
                              refine lv_iload_n X.1 X.2.1 dL_law_450 rfl (lv_at hl 3 rfl) ?_
                              refine lv_iconst (v := (1 : Int32)) X.1 X.2.1 dL_law_451 (by decide) ?_
                              refine lv_iadd X.1 X.2.1 dL_law_452 ?_
                              obtain ⟨g129, h⟩ := gd_e h
                              refine va_sld X.1 X.2.1 hX hbl hbA hS (inB_in g129) dL_law_453 ?_
                              obtain ⟨r130, q131, h⟩ := bd_e h
                              refine kl_2 (As := [.int (xs (v3 + (1 : Int32)).toNatClampNeg)]) (rest := [.int r127]) X (k_X4_lies N (xs (v3 + (1 : Int32)).toNatClampNeg) μ _ q131) (cwV 1 X.2.2.2.2 gL_law_X4_lies rfl rfl rfl hd_X4_lies ⟨Nat.le_of_ble_eq_true rfl, Nat.le_of_ble_eq_true rfl⟩) hK2 hP hD hS hA (va_recv hK2 (kl_r hP) (ci := 3) (q0 := 0) rfl rfl) rfl hl.1 rfl (Nat.le_of_ble_eq_true rfl) dL_law_454 ⟨Nat.le_of_ble_eq_true rfl, Nat.le_of_ble_eq_true rfl⟩ (fun H locs hP hD hS => ?_)
                              refine lv_icmp_eq (tgt := 666) X.1 X.2.1 dL_law_457 (by decide) (fun c132 => ?_) (fun c132 => ?_)
                              · rw [if_pos c132] at h
                                obtain ⟨x133, e134, h⟩ := lt_e h
                                refine lv_iinc (v := x133) (lv' := [(3, .int x133), (0, .ref b), (1, .ref (a 0)), (2, .ref (a2 0))]) X.1 X.2.1 dL_law_666 hl (k := 3) rfl e134.symm (by decide) rfl (fun ls hl => ?_)
                                refine lv_goto (tgt := 18) X.1 X.2.1 dL_law_669 (by decide) ?_
                                exact ih x133 σ μ h _ _ _ hP hD hS (lv_sub hl [1, 2, 3, 0] rfl)
                              · rw [if_neg c132] at h
                                refine lv_iconst (v := (0 : Int32)) X.1 X.2.1 dL_law_460 (by decide) ?_
                                exact absurd (sm_e h) (by decide)
                            · rw [if_neg z125] at h
                              by_cases z135 : ((xs v3.toNatClampNeg) &&& (31 : Int32)) = (12 : Int32)
                              · rw [if_pos z135] at h
                                refine lv_tableIn (off := 430) (tgt := 462) X.1 X.2.1 dL_law_32 (by rw [z135]; decide) (by rw [z135]; decide) (by rw [z135]; rfl) (by decide) ?_
                                refine lv_aload_n X.1 X.2.1 dL_law_462 rfl (lv_at hl 1 rfl) ?_
                                refine lv_aload_n X.1 X.2.1 dL_law_463 rfl (lv_at hl 0 rfl) ?_
                                refine lv_iload_n X.1 X.2.1 dL_law_464 rfl (lv_at hl 3 rfl) ?_
                                refine lv_iconst (v := (1 : Int32)) X.1 X.2.1 dL_law_465 (by decide) ?_
                                refine lv_iadd X.1 X.2.1 dL_law_466 ?_
                                obtain ⟨g136, h⟩ := gd_e h
                                refine va_sld X.1 X.2.1 hX hbl hbA hS (inB_in g136) dL_law_467 ?_
                                refine lv_aload_n X.1 X.2.1 dL_law_468 rfl (lv_at hl 0 rfl) ?_
                                refine lv_iload_n X.1 X.2.1 dL_law_469 rfl (lv_at hl 3 rfl) ?_
                                refine lv_iconst (v := (2 : Int32)) X.1 X.2.1 dL_law_470 (by decide) ?_
                                refine lv_iadd X.1 X.2.1 dL_law_471 ?_
                                obtain ⟨g137, h⟩ := gd_e h
                                refine va_sld X.1 X.2.1 hX hbl hbA hS (inB_in g137) dL_law_472 ?_
                                obtain ⟨r138, q139, h⟩ := bd_e h
                                refine kl_1 (As := [.int (xs (v3 + (1 : Int32)).toNatClampNeg), .int (xs (v3 + (2 : Int32)).toNatClampNeg)]) (rest := []) X (k_X3_slope N (xs (v3 + (1 : Int32)).toNatClampNeg) (xs (v3 + (2 : Int32)).toNatClampNeg) σ _ q139) (cwV 2 X.2.2.2.2 gL_law_X3_slope rfl rfl rfl hd_X3_slope ⟨Nat.le_of_ble_eq_true rfl, Nat.le_of_ble_eq_true rfl⟩) hK1 hP hD hS hA (va_recv hK1 (kl_l hP) (ci := 2) (q0 := 0) rfl rfl) rfl hl.1 rfl (Nat.le_of_ble_eq_true rfl) dL_law_473 ⟨Nat.le_of_ble_eq_true rfl, Nat.le_of_ble_eq_true rfl⟩ (fun H locs hP hD hS => ?_)
                                refine lv_aload_n X.1 X.2.1 dL_law_476 rfl (lv_at hl 2 rfl) ?_
                                refine lv_aload_n X.1 X.2.1 dL_law_477 rfl (lv_at hl 0 rfl) ?_
                                refine lv_iload_n X.1 X.2.1 dL_law_478 rfl (lv_at hl 3 rfl) ?_
                                refine lv_iconst (v := (1 : Int32)) X.1 X.2.1 dL_law_479 (by decide) ?_
                                refine lv_iadd X.1 X.2.1 dL_law_480 ?_
                                obtain ⟨g140, h⟩ := gd_e h
                                refine va_sld X.1 X.2.1 hX hbl hbA hS (inB_in g140) dL_law_481 ?_
                                refine lv_aload_n X.1 X.2.1 dL_law_482 rfl (lv_at hl 0 rfl) ?_
                                refine lv_iload_n X.1 X.2.1 dL_law_483 rfl (lv_at hl 3 rfl) ?_
                                refine lv_iconst (v := (2 : Int32)) X.1 X.2.1 dL_law_484 (by decide) ?_
                                refine lv_iadd X.1 X.2.1 dL_law_485 ?_
                                obtain ⟨g141, h⟩ := gd_e h
                                refine va_sld X.1 X.2.1 hX hbl hbA hS (inB_in g141) dL_law_486 ?_
                                obtain ⟨r142, q143, h⟩ := bd_e h
                                refine kl_2 (As := [.int (xs (v3 + (1 : Int32)).toNatClampNeg), .int (xs (v3 + (2 : Int32)).toNatClampNeg)]) (rest := [.long r138]) X (k_X4_slope N (xs (v3 + (1 : Int32)).toNatClampNeg) (xs (v3 + (2 : Int32)).toNatClampNeg) μ _ q143) (cwV 2 X.2.2.2.2 gL_law_X4_slope rfl rfl rfl hd_X4_slope ⟨Nat.le_of_ble_eq_true rfl, Nat.le_of_ble_eq_true rfl⟩) hK2 hP hD hS hA (va_recv hK2 (kl_r hP) (ci := 3) (q0 := 0) rfl rfl) rfl hl.1 rfl (Nat.le_of_ble_eq_true rfl) dL_law_487 ⟨Nat.le_of_ble_eq_true rfl, Nat.le_of_ble_eq_true rfl⟩ (fun H locs hP hD hS => ?_)
                                refine W.lcmp X.1 X.2.1 dL_law_490 ?_
                                refine lv_if_eq (tgt := 666) X.1 X.2.1 dL_law_491 (by decide) (fun c144 => ?_) (fun c144 => ?_)
                                · rw [if_pos c144] at h
                                  obtain ⟨x145, e146, h⟩ := lt_e h
                                  refine lv_iinc (v := x145) (lv' := [(3, .int x145), (0, .ref b), (1, .ref (a 0)), (2, .ref (a2 0))]) X.1 X.2.1 dL_law_666 hl (k := 3) rfl e146.symm (by decide) rfl (fun ls hl => ?_)
                                  refine lv_goto (tgt := 18) X.1 X.2.1 dL_law_669 (by decide) ?_
                                  exact ih x145 σ μ h _ _ _ hP hD hS (lv_sub hl [1, 2, 3, 0] rfl)
                                · rw [if_neg c144] at h
                                  refine lv_iconst (v := (0 : Int32)) X.1 X.2.1 dL_law_494 (by decide) ?_
                                  exact absurd (sm_e h) (by decide)
                              · rw [if_neg z135] at h
                                by_cases z147 : ((xs v3.toNatClampNeg) &&& (31 : Int32)) = (13 : Int32)
                                · rw [if_pos z147] at h
                                  refine lv_tableIn (off := 464) (tgt := 496) X.1 X.2.1 dL_law_32 (by rw [z147]; decide) (by rw [z147]; decide) (by rw [z147]; rfl) (by decide) ?_
                                  refine lv_aload_n X.1 X.2.1 dL_law_496 rfl (lv_at hl 1 rfl) ?_
                                  obtain ⟨r148, q149, h⟩ := bd_e h
                                  refine kl_1 (As := []) (rest := []) X (k_X3_check N σ _ q149) (cwV 0 X.2.2.2.2 gL_law_X3_check rfl rfl rfl hd_X3_check ⟨Nat.le_of_ble_eq_true rfl, Nat.le_of_ble_eq_true rfl⟩) hK1 hP hD hS hA (va_recv hK1 (kl_l hP) (ci := 2) (q0 := 0) rfl rfl) rfl hl.1 rfl (Nat.le_of_ble_eq_true rfl) dL_law_497 ⟨Nat.le_of_ble_eq_true rfl, Nat.le_of_ble_eq_true rfl⟩ (fun H locs hP hD hS => ?_)
                                  refine lv_aload_n X.1 X.2.1 dL_law_500 rfl (lv_at hl 2 rfl) ?_
                                  obtain ⟨r150, q151, h⟩ := bd_e h
                                  refine kl_2 (As := []) (rest := [.int r148]) X (k_X4_check N μ _ q151) (cwV 0 X.2.2.2.2 gL_law_X4_check rfl rfl rfl hd_X4_check ⟨Nat.le_of_ble_eq_true rfl, Nat.le_of_ble_eq_true rfl⟩) hK2 hP hD hS hA (va_recv hK2 (kl_r hP) (ci := 3) (q0 := 0) rfl rfl) rfl hl.1 rfl (Nat.le_of_ble_eq_true rfl) dL_law_501 ⟨Nat.le_of_ble_eq_true rfl, Nat.le_of_ble_eq_true rfl⟩ (fun H locs hP hD hS => ?_)
                                  refine lv_icmp_eq (tgt := 666) X.1 X.2.1 dL_law_504 (by decide) (fun c152 => ?_) (fun c152 => ?_)
                                  · rw [if_pos c152] at h
                                    obtain ⟨x153, e154, h⟩ := lt_e h
                                    refine lv_iinc (v := x153) (lv' := [(3, .int x153), (0, .ref b), (1, .ref (a 0)), (2, .ref (a2 0))]) X.1 X.2.1 dL_law_666 hl (k := 3) rfl e154.symm (by decide) rfl (fun ls hl => ?_)
                                    refine lv_goto (tgt := 18) X.1 X.2.1 dL_law_669 (by decide) ?_
                                    exact ih x153 σ μ h _ _ _ hP hD hS (lv_sub hl [1, 2, 3, 0] rfl)
                                  · rw [if_neg c152] at h
                                    refine lv_iconst (v := (0 : Int32)) X.1 X.2.1 dL_law_507 (by decide) ?_
                                    exact absurd (sm_e h) (by decide)
                                · rw [if_neg z147] at h
                                  by_cases z155 : ((xs v3.toNatClampNeg) &&& (31 : Int32)) = (14 : Int32)
                                  · rw [if_pos z155] at h
                                    refine lv_tableIn (off := 477) (tgt := 509) X.1 X.2.1 dL_law_32 (by rw [z155]; decide) (by rw [z155]; decide) (by rw [z155]; rfl) (by decide) ?_
                                    refine lv_aload_n X.1 X.2.1 dL_law_509 rfl (lv_at hl 1 rfl) ?_
                                    refine lv_aload_n X.1 X.2.1 dL_law_510 rfl (lv_at hl 0 rfl) ?_
                                    refine lv_iload_n X.1 X.2.1 dL_law_511 rfl (lv_at hl 3 rfl) ?_
                                    refine lv_iconst (v := (1 : Int32)) X.1 X.2.1 dL_law_512 (by decide) ?_
                                    refine lv_iadd X.1 X.2.1 dL_law_513 ?_
                                    obtain ⟨g156, h⟩ := gd_e h
                                    refine va_sld X.1 X.2.1 hX hbl hbA hS (inB_in g156) dL_law_514 ?_
                                    refine lv_aload_n X.1 X.2.1 dL_law_515 rfl (lv_at hl 0 rfl) ?_
                                    refine lv_iload_n X.1 X.2.1 dL_law_516 rfl (lv_at hl 3 rfl) ?_
                                    refine lv_iconst (v := (2 : Int32)) X.1 X.2.1 dL_law_517 (by decide) ?_
                                    refine lv_iadd X.1 X.2.1 dL_law_518 ?_
                                    obtain ⟨g157, h⟩ := gd_e h
                                    refine va_sld X.1 X.2.1 hX hbl hbA hS (inB_in g157) dL_law_519 ?_
                                    refine lv_aload_n X.1 X.2.1 dL_law_520 rfl (lv_at hl 0 rfl) ?_
                                    refine lv_iload_n X.1 X.2.1 dL_law_521 rfl (lv_at hl 3 rfl) ?_
                                    refine lv_iconst (v := (3 : Int32)) X.1 X.2.1 dL_law_522 (by decide) ?_
                                    refine lv_iadd X.1 X.2.1 dL_law_523 ?_
                                    obtain ⟨g158, h⟩ := gd_e h
                                    refine va_sld X.1 X.2.1 hX hbl hbA hS (inB_in g158) dL_law_524 ?_
                                    obtain ⟨r159, q160, h⟩ := bd_e h
                                    refine kl_1 (As := [.int (xs (v3 + (1 : Int32)).toNatClampNeg), .int (xs (v3 + (2 : Int32)).toNatClampNeg), .int (xs (v3 + (3 : Int32)).toNatClampNeg)]) (rest := []) X (k_X3_change N (xs (v3 + (1 : Int32)).toNatClampNeg) (xs (v3 + (2 : Int32)).toNatClampNeg) (xs (v3 + (3 : Int32)).toNatClampNeg) σ _ q160) (cwV 3 X.2.2.2.2 gL_law_X3_change rfl rfl rfl hd_X3_change ⟨Nat.le_of_ble_eq_true rfl, Nat.le_of_ble_eq_true rfl⟩) hK1 hP hD hS hA (va_recv hK1 (kl_l hP) (ci := 2) (q0 := 0) rfl rfl) rfl hl.1 rfl (Nat.le_of_ble_eq_true rfl) dL_law_525 ⟨Nat.le_of_ble_eq_true rfl, Nat.le_of_ble_eq_true rfl⟩ (fun H locs hP hD hS => ?_)
                                    refine lv_aload_n X.1 X.2.1 dL_law_528 rfl (lv_at hl 2 rfl) ?_
                                    refine lv_aload_n X.1 X.2.1 dL_law_529 rfl (lv_at hl 0 rfl) ?_
                                    refine lv_iload_n X.1 X.2.1 dL_law_530 rfl (lv_at hl 3 rfl) ?_
                                    refine lv_iconst (v := (1 : Int32)) X.1 X.2.1 dL_law_531 (by decide) ?_
                                    refine lv_iadd X.1 X.2.1 dL_law_532 ?_
                                    obtain ⟨g161, h⟩ := gd_e h
                                    refine va_sld X.1 X.2.1 hX hbl hbA hS (inB_in g161) dL_law_533 ?_
                                    refine lv_aload_n X.1 X.2.1 dL_law_534 rfl (lv_at hl 0 rfl) ?_
                                    refine lv_iload_n X.1 X.2.1 dL_law_535 rfl (lv_at hl 3 rfl) ?_
                                    refine lv_iconst (v := (2 : Int32)) X.1 X.2.1 dL_law_536 (by decide) ?_
                                    refine lv_iadd X.1 X.2.1 dL_law_537 ?_
                                    obtain ⟨g162, h⟩ := gd_e h
                                    refine va_sld X.1 X.2.1 hX hbl hbA hS (inB_in g162) dL_law_538 ?_
                                    refine lv_aload_n X.1 X.2.1 dL_law_539 rfl (lv_at hl 0 rfl) ?_
                                    refine lv_iload_n X.1 X.2.1 dL_law_540 rfl (lv_at hl 3 rfl) ?_
                                    refine lv_iconst (v := (3 : Int32)) X.1 X.2.1 dL_law_541 (by decide) ?_
                                    refine lv_iadd X.1 X.2.1 dL_law_542 ?_
                                    obtain ⟨g163, h⟩ := gd_e h
                                    refine va_sld X.1 X.2.1 hX hbl hbA hS (inB_in g163) dL_law_543 ?_
                                    obtain ⟨r164, q165, h⟩ := bd_e h
                                    refine kl_2 (As := [.int (xs (v3 + (1 : Int32)).toNatClampNeg), .int (xs (v3 + (2 : Int32)).toNatClampNeg), .int (xs (v3 + (3 : Int32)).toNatClampNeg)]) (rest := [.int r159]) X (k_X4_change N (xs (v3 + (1 : Int32)).toNatClampNeg) (xs (v3 + (2 : Int32)).toNatClampNeg) (xs (v3 + (3 : Int32)).toNatClampNeg) μ _ q165) (cwV 3 X.2.2.2.2 gL_law_X4_change rfl rfl rfl hd_X4_change ⟨Nat.le_of_ble_eq_true rfl, Nat.le_of_ble_eq_true rfl⟩) hK2 hP hD hS hA (va_recv hK2 (kl_r hP) (ci := 3) (q0 := 0) rfl rfl) rfl hl.1 rfl (Nat.le_of_ble_eq_true rfl) dL_law_544 ⟨Nat.le_of_ble_eq_true rfl, Nat.le_of_ble_eq_true rfl⟩ (fun H locs hP hD hS => ?_)
                                    refine lv_icmp_eq (tgt := 666) X.1 X.2.1 dL_law_547 (by decide) (fun c166 => ?_) (fun c166 => ?_)
                                    · rw [if_pos c166] at h
                                      obtain ⟨x167, e168, h⟩ := lt_e h
                                      refine lv_iinc (v := x167) (lv' := [(3, .int x167), (0, .ref b), (1, .ref (a 0)), (2, .ref (a2 0))]) X.1 X.2.1 dL_law_666 hl (k := 3) rfl e168.symm (by decide) rfl (fun ls hl => ?_)
                                      refine lv_goto (tgt := 18) X.1 X.2.1 dL_law_669 (by decide) ?_
                                      exact ih x167 σ r164.2 h _ _ _ hP hD hS (lv_sub hl [1, 2, 3, 0] rfl)
                                    · rw [if_neg c166] at h
                                      refine lv_iconst (v := (0 : Int32)) X.1 X.2.1 dL_law_550 (by decide) ?_
                                      exact absurd (sm_e h) (by decide)
                                  · rw [if_neg z155] at h
                                    by_cases z169 : ((xs v3.toNatClampNeg) &&& (31 : Int32)) = (15 : Int32)
                                    · rw [if_pos z169] at h
                                      refine lv_tableIn (off := 520) (tgt := 552) X.1 X.2.1 dL_law_32 (by rw [z169]; decide) (by rw [z169]; decide) (by rw [z169]; rfl) (by decide) ?_
                                      refine lv_aload_n X.1 X.2.1 dL_law_552 rfl (lv_at hl 1 rfl) ?_
                                      refine lv_aload_n X.1 X.2.1 dL_law_553 rfl (lv_at hl 0 rfl) ?_
                                      refine lv_iload_n X.1 X.2.1 dL_law_554 rfl (lv_at hl 3 rfl) ?_
                                      refine lv_iconst (v := (1 : Int32)) X.1 X.2.1 dL_law_555 (by decide) ?_
                                      refine lv_iadd X.1 X.2.1 dL_law_556 ?_
                                      obtain ⟨g170, h⟩ := gd_e h
                                      refine va_sld X.1 X.2.1 hX hbl hbA hS (inB_in g170) dL_law_557 ?_
                                      refine lv_aload_n X.1 X.2.1 dL_law_558 rfl (lv_at hl 0 rfl) ?_
                                      refine lv_iload_n X.1 X.2.1 dL_law_559 rfl (lv_at hl 3 rfl) ?_
                                      refine lv_iconst (v := (2 : Int32)) X.1 X.2.1 dL_law_560 (by decide) ?_
                                      refine lv_iadd X.1 X.2.1 dL_law_561 ?_
                                      obtain ⟨g171, h⟩ := gd_e h
                                      refine va_sld X.1 X.2.1 hX hbl hbA hS (inB_in g171) dL_law_562 ?_
                                      refine lv_aload_n X.1 X.2.1 dL_law_563 rfl (lv_at hl 0 rfl) ?_
                                      refine lv_iload_n X.1 X.2.1 dL_law_564 rfl (lv_at hl 3 rfl) ?_
                                      refine lv_iconst (v := (3 : Int32)) X.1 X.2.1 dL_law_565 (by decide) ?_
                                      refine lv_iadd X.1 X.2.1 dL_law_566 ?_
                                      obtain ⟨g172, h⟩ := gd_e h
                                      refine va_sld X.1 X.2.1 hX hbl hbA hS (inB_in g172) dL_law_567 ?_
                                      obtain ⟨r173, q174, h⟩ := bd_e h
                                      refine kl_1 (As := [.int (xs (v3 + (1 : Int32)).toNatClampNeg), .int (xs (v3 + (2 : Int32)).toNatClampNeg), .int (xs (v3 + (3 : Int32)).toNatClampNeg)]) (rest := []) X (k_X3_decision N (xs (v3 + (1 : Int32)).toNatClampNeg) (xs (v3 + (2 : Int32)).toNatClampNeg) (xs (v3 + (3 : Int32)).toNatClampNeg) σ _ q174) (cwV 3 X.2.2.2.2 gL_law_X3_decision rfl rfl rfl hd_X3_decision ⟨Nat.le_of_ble_eq_true rfl, Nat.le_of_ble_eq_true rfl⟩) hK1 hP hD hS hA (va_recv hK1 (kl_l hP) (ci := 2) (q0 := 0) rfl rfl) rfl hl.1 rfl (Nat.le_of_ble_eq_true rfl) dL_law_568 ⟨Nat.le_of_ble_eq_true rfl, Nat.le_of_ble_eq_true rfl⟩ (fun H locs hP hD hS => ?_)
                                      refine lv_aload_n X.1 X.2.1 dL_law_571 rfl (lv_at hl 2 rfl) ?_
                                      refine lv_aload_n X.1 X.2.1 dL_law_572 rfl (lv_at hl 0 rfl) ?_
                                      refine lv_iload_n X.1 X.2.1 dL_law_573 rfl (lv_at hl 3 rfl) ?_
                                      refine lv_iconst (v := (1 : Int32)) X.1 X.2.1 dL_law_574 (by decide) ?_
                                      refine lv_iadd X.1 X.2.1 dL_law_575 ?_
                                      obtain ⟨g175, h⟩ := gd_e h
                                      refine va_sld X.1 X.2.1 hX hbl hbA hS (inB_in g175) dL_law_576 ?_
                                      refine lv_aload_n X.1 X.2.1 dL_law_577 rfl (lv_at hl 0 rfl) ?_
                                      refine lv_iload_n X.1 X.2.1 dL_law_578 rfl (lv_at hl 3 rfl) ?_
                                      refine lv_iconst (v := (2 : Int32)) X.1 X.2.1 dL_law_579 (by decide) ?_
                                      refine lv_iadd X.1 X.2.1 dL_law_580 ?_
                                      obtain ⟨g176, h⟩ := gd_e h
                                      refine va_sld X.1 X.2.1 hX hbl hbA hS (inB_in g176) dL_law_581 ?_
                                      refine lv_aload_n X.1 X.2.1 dL_law_582 rfl (lv_at hl 0 rfl) ?_
                                      refine lv_iload_n X.1 X.2.1 dL_law_583 rfl (lv_at hl 3 rfl) ?_
                                      refine lv_iconst (v := (3 : Int32)) X.1 X.2.1 dL_law_584 (by decide) ?_
                                      refine lv_iadd X.1 X.2.1 dL_law_585 ?_
                                      obtain ⟨g177, h⟩ := gd_e h
                                      refine va_sld X.1 X.2.1 hX hbl hbA hS (inB_in g177) dL_law_586 ?_
                                      obtain ⟨r178, q179, h⟩ := bd_e h
                                      refine kl_2 (As := [.int (xs (v3 + (1 : Int32)).toNatClampNeg), .int (xs (v3 + (2 : Int32)).toNatClampNeg), .int (xs (v3 + (3 : Int32)).toNatClampNeg)]) (rest := [.long r173]) X (k_X4_decision N (xs (v3 + (1 : Int32)).toNatClampNeg) (xs (v3 + (2 : Int32)).toNatClampNeg) (xs (v3 + (3 : Int32)).toNatClampNeg) μ _ q179) (cwV 3 X.2.2.2.2 gL_law_X4_decision rfl rfl rfl hd_X4_decision ⟨Nat.le_of_ble_eq_true rfl, Nat.le_of_ble_eq_true rfl⟩) hK2 hP hD hS hA (va_recv hK2 (kl_r hP) (ci := 3) (q0 := 0) rfl rfl) rfl hl.1 rfl (Nat.le_of_ble_eq_true rfl) dL_law_587 ⟨Nat.le_of_ble_eq_true rfl, Nat.le_of_ble_eq_true rfl⟩ (fun H locs hP hD hS => ?_)
                                      refine W.lcmp X.1 X.2.1 dL_law_590 ?_
                                      refine lv_if_eq (tgt := 666) X.1 X.2.1 dL_law_591 (by decide) (fun c180 => ?_) (fun c180 => ?_)
                                      · rw [if_pos c180] at h
                                        obtain ⟨x181, e182, h⟩ := lt_e h
                                        refine lv_iinc (v := x181) (lv' := [(3, .int x181), (0, .ref b), (1, .ref (a 0)), (2, .ref (a2 0))]) X.1 X.2.1 dL_law_666 hl (k := 3) rfl e182.symm (by decide) rfl (fun ls hl => ?_)
                                        refine lv_goto (tgt := 18) X.1 X.2.1 dL_law_669 (by decide) ?_
                                        exact ih x181 σ μ h _ _ _ hP hD hS (lv_sub hl [1, 2, 3, 0] rfl)
                                      · rw [if_neg c180] at h
                                        refine lv_iconst (v := (0 : Int32)) X.1 X.2.1 dL_law_594 (by decide) ?_
                                        exact absurd (sm_e h) (by decide)
                                    · rw [if_neg z169] at h
                                      by_cases z183 : ((xs v3.toNatClampNeg) &&& (31 : Int32)) = (16 : Int32)
                                      · rw [if_pos z183] at h
                                        refine lv_tableIn (off := 564) (tgt := 596) X.1 X.2.1 dL_law_32 (by rw [z183]; decide) (by rw [z183]; decide) (by rw [z183]; rfl) (by decide) ?_
                                        refine lv_aload_n X.1 X.2.1 dL_law_596 rfl (lv_at hl 1 rfl) ?_
                                        refine lv_aload_n X.1 X.2.1 dL_law_597 rfl (lv_at hl 0 rfl) ?_
                                        refine lv_iload_n X.1 X.2.1 dL_law_598 rfl (lv_at hl 3 rfl) ?_
                                        refine lv_iconst (v := (1 : Int32)) X.1 X.2.1 dL_law_599 (by decide) ?_
                                        refine lv_iadd X.1 X.2.1 dL_law_600 ?_
                                        obtain ⟨g184, h⟩ := gd_e h
                                        refine va_sld X.1 X.2.1 hX hbl hbA hS (inB_in g184) dL_law_601 ?_
                                        refine lv_aload_n X.1 X.2.1 dL_law_602 rfl (lv_at hl 0 rfl) ?_
                                        refine lv_iload_n X.1 X.2.1 dL_law_603 rfl (lv_at hl 3 rfl) ?_
                                        refine lv_iconst (v := (2 : Int32)) X.1 X.2.1 dL_law_604 (by decide) ?_
                                        refine lv_iadd X.1 X.2.1 dL_law_605 ?_
                                        obtain ⟨g185, h⟩ := gd_e h
                                        refine va_sld X.1 X.2.1 hX hbl hbA hS (inB_in g185) dL_law_606 ?_
                                        obtain ⟨r186, q187, h⟩ := bd_e h
                                        refine kl_1 (As := [.int (xs (v3 + (1 : Int32)).toNatClampNeg), .int (xs (v3 + (2 : Int32)).toNatClampNeg)]) (rest := []) X (k_X3_predict N (xs (v3 + (1 : Int32)).toNatClampNeg) (xs (v3 + (2 : Int32)).toNatClampNeg) σ _ q187) (cwV 2 X.2.2.2.2 gL_law_X3_predict rfl rfl rfl hd_X3_predict ⟨Nat.le_of_ble_eq_true rfl, Nat.le_of_ble_eq_true rfl⟩) hK1 hP hD hS hA (va_recv hK1 (kl_l hP) (ci := 2) (q0 := 0) rfl rfl) rfl hl.1 rfl (Nat.le_of_ble_eq_true rfl) dL_law_607 ⟨Nat.le_of_ble_eq_true rfl, Nat.le_of_ble_eq_true rfl⟩ (fun H locs hP hD hS => ?_)
                                        refine lv_aload_n X.1 X.2.1 dL_law_610 rfl (lv_at hl 2 rfl) ?_
                                        refine lv_aload_n X.1 X.2.1 dL_law_611 rfl (lv_at hl 0 rfl) ?_
                                        refine lv_iload_n X.1 X.2.1 dL_law_612 rfl (lv_at hl 3 rfl) ?_
                                        refine lv_iconst (v := (1 : Int32)) X.1 X.2.1 dL_law_613 (by decide) ?_
                                        refine lv_iadd X.1 X.2.1 dL_law_614 ?_
                                        obtain ⟨g188, h⟩ := gd_e h
                                        refine va_sld X.1 X.2.1 hX hbl hbA hS (inB_in g188) dL_law_615 ?_
                                        refine lv_aload_n X.1 X.2.1 dL_law_616 rfl (lv_at hl 0 rfl) ?_
                                        refine lv_iload_n X.1 X.2.1 dL_law_617 rfl (lv_at hl 3 rfl) ?_
                                        refine lv_iconst (v := (2 : Int32)) X.1 X.2.1 dL_law_618 (by decide) ?_
                                        refine lv_iadd X.1 X.2.1 dL_law_619 ?_
                                        obtain ⟨g189, h⟩ := gd_e h
                                        refine va_sld X.1 X.2.1 hX hbl hbA hS (inB_in g189) dL_law_620 ?_
                                        obtain ⟨r190, q191, h⟩ := bd_e h
                                        refine kl_2 (As := [.int (xs (v3 + (1 : Int32)).toNatClampNeg), .int (xs (v3 + (2 : Int32)).toNatClampNeg)]) (rest := [.int r186]) X (k_X4_predict N (xs (v3 + (1 : Int32)).toNatClampNeg) (xs (v3 + (2 : Int32)).toNatClampNeg) μ _ q191) (cwV 2 X.2.2.2.2 gL_law_X4_predict rfl rfl rfl hd_X4_predict ⟨Nat.le_of_ble_eq_true rfl, Nat.le_of_ble_eq_true rfl⟩) hK2 hP hD hS hA (va_recv hK2 (kl_r hP) (ci := 3) (q0 := 0) rfl rfl) rfl hl.1 rfl (Nat.le_of_ble_eq_true rfl) dL_law_621 ⟨Nat.le_of_ble_eq_true rfl, Nat.le_of_ble_eq_true rfl⟩ (fun H locs hP hD hS => ?_)
                                        refine lv_icmp_eq (tgt := 666) X.1 X.2.1 dL_law_624 (by decide) (fun c192 => ?_) (fun c192 => ?_)
                                        · rw [if_pos c192] at h
                                          obtain ⟨x193, e194, h⟩ := lt_e h
                                          refine lv_iinc (v := x193) (lv' := [(3, .int x193), (0, .ref b), (1, .ref (a 0)), (2, .ref (a2 0))]) X.1 X.2.1 dL_law_666 hl (k := 3) rfl e194.symm (by decide) rfl (fun ls hl => ?_)
                                          refine lv_goto (tgt := 18) X.1 X.2.1 dL_law_669 (by decide) ?_
                                          exact ih x193 σ μ h _ _ _ hP hD hS (lv_sub hl [1, 2, 3, 0] rfl)
                                        · rw [if_neg c192] at h
                                          refine lv_iconst (v := (0 : Int32)) X.1 X.2.1 dL_law_627 (by decide) ?_
                                          exact absurd (sm_e h) (by decide)
                                      · rw [if_neg z183] at h
                                        by_cases z195 : ((xs v3.toNatClampNeg) &&& (31 : Int32)) = (17 : Int32)
                                        · rw [if_pos z195] at h
                                          refine lv_tableIn (off := 597) (tgt := 629) X.1 X.2.1 dL_law_32 (by rw [z195]; decide) (by rw [z195]; decide) (by rw [z195]; rfl) (by decide) ?_
                                          refine lv_aload_n X.1 X.2.1 dL_law_629 rfl (lv_at hl 1 rfl) ?_
                                          refine lv_aload_n X.1 X.2.1 dL_law_630 rfl (lv_at hl 0 rfl) ?_
                                          refine lv_iload_n X.1 X.2.1 dL_law_631 rfl (lv_at hl 3 rfl) ?_
                                          refine lv_iconst (v := (1 : Int32)) X.1 X.2.1 dL_law_632 (by decide) ?_
                                          refine lv_iadd X.1 X.2.1 dL_law_633 ?_
                                          obtain ⟨g196, h⟩ := gd_e h
                                          refine va_sld X.1 X.2.1 hX hbl hbA hS (inB_in g196) dL_law_634 ?_
                                          obtain ⟨r197, q198, h⟩ := bd_e h
                                          refine kl_1 (As := [.int (xs (v3 + (1 : Int32)).toNatClampNeg)]) (rest := []) X (k_X3_count N (xs (v3 + (1 : Int32)).toNatClampNeg) σ _ q198) (cwV 1 X.2.2.2.2 gL_law_X3_count rfl rfl rfl hd_X3_count ⟨Nat.le_of_ble_eq_true rfl, Nat.le_of_ble_eq_true rfl⟩) hK1 hP hD hS hA (va_recv hK1 (kl_l hP) (ci := 2) (q0 := 0) rfl rfl) rfl hl.1 rfl (Nat.le_of_ble_eq_true rfl) dL_law_635 ⟨Nat.le_of_ble_eq_true rfl, Nat.le_of_ble_eq_true rfl⟩ (fun H locs hP hD hS => ?_)
                                          refine lv_aload_n X.1 X.2.1 dL_law_638 rfl (lv_at hl 2 rfl) ?_
                                          refine lv_aload_n X.1 X.2.1 dL_law_639 rfl (lv_at hl 0 rfl) ?_
                                          refine lv_iload_n X.1 X.2.1 dL_law_640 rfl (lv_at hl 3 rfl) ?_
                                          refine lv_iconst (v := (1 : Int32)) X.1 X.2.1 dL_law_641 (by decide) ?_
                                          refine lv_iadd X.1 X.2.1 dL_law_642 ?_
                                          obtain ⟨g199, h⟩ := gd_e h
                                          refine va_sld X.1 X.2.1 hX hbl hbA hS (inB_in g199) dL_law_643 ?_
                                          obtain ⟨r200, q201, h⟩ := bd_e h
                                          refine kl_2 (As := [.int (xs (v3 + (1 : Int32)).toNatClampNeg)]) (rest := [.int r197]) X (k_X4_count N (xs (v3 + (1 : Int32)).toNatClampNeg) μ _ q201) (cwV 1 X.2.2.2.2 gL_law_X4_count rfl rfl rfl hd_X4_count ⟨Nat.le_of_ble_eq_true rfl, Nat.le_of_ble_eq_true rfl⟩) hK2 hP hD hS hA (va_recv hK2 (kl_r hP) (ci := 3) (q0 := 0) rfl rfl) rfl hl.1 rfl (Nat.le_of_ble_eq_true rfl) dL_law_644 ⟨Nat.le_of_ble_eq_true rfl, Nat.le_of_ble_eq_true rfl⟩ (fun H locs hP hD hS => ?_)
                                          refine lv_icmp_eq (tgt := 666) X.1 X.2.1 dL_law_647 (by decide) (fun c202 => ?_) (fun c202 => ?_)
                                          · rw [if_pos c202] at h
                                            obtain ⟨x203, e204, h⟩ := lt_e h
                                            refine lv_iinc (v := x203) (lv' := [(3, .int x203), (0, .ref b), (1, .ref (a 0)), (2, .ref (a2 0))]) X.1 X.2.1 dL_law_666 hl (k := 3) rfl e204.symm (by decide) rfl (fun ls hl => ?_)
                                            refine lv_goto (tgt := 18) X.1 X.2.1 dL_law_669 (by decide) ?_
                                            exact ih x203 σ μ h _ _ _ hP hD hS (lv_sub hl [1, 2, 3, 0] rfl)
                                          · rw [if_neg c202] at h
                                            refine lv_iconst (v := (0 : Int32)) X.1 X.2.1 dL_law_650 (by decide) ?_
                                            exact absurd (sm_e h) (by decide)
                                        · rw [if_neg z195] at h
                                          by_cases z205 : ((xs v3.toNatClampNeg) &&& (31 : Int32)) = (18 : Int32)
                                          · rw [if_pos z205] at h
                                            refine lv_tableIn (off := 620) (tgt := 652) X.1 X.2.1 dL_law_32 (by rw [z205]; decide) (by rw [z205]; decide) (by rw [z205]; rfl) (by decide) ?_
                                            refine lv_aload_n X.1 X.2.1 dL_law_652 rfl (lv_at hl 1 rfl) ?_
                                            obtain ⟨r206, q207, h⟩ := bd_e h
                                            refine kl_1 (As := []) (rest := []) X (k_X3_digest N σ _ q207) (cwV 0 X.2.2.2.2 gL_law_X3_digest rfl rfl rfl hd_X3_digest ⟨Nat.le_of_ble_eq_true rfl, Nat.le_of_ble_eq_true rfl⟩) hK1 hP hD hS hA (va_recv hK1 (kl_l hP) (ci := 2) (q0 := 0) rfl rfl) rfl hl.1 rfl (Nat.le_of_ble_eq_true rfl) dL_law_653 ⟨Nat.le_of_ble_eq_true rfl, Nat.le_of_ble_eq_true rfl⟩ (fun H locs hP hD hS => ?_)
                                            refine lv_aload_n X.1 X.2.1 dL_law_656 rfl (lv_at hl 2 rfl) ?_
                                            obtain ⟨r208, q209, h⟩ := bd_e h
                                            refine kl_2 (As := []) (rest := [.long r206]) X (k_X4_digest N μ _ q209) (cwV 0 X.2.2.2.2 gL_law_X4_digest rfl rfl rfl hd_X4_digest ⟨Nat.le_of_ble_eq_true rfl, Nat.le_of_ble_eq_true rfl⟩) hK2 hP hD hS hA (va_recv hK2 (kl_r hP) (ci := 3) (q0 := 0) rfl rfl) rfl hl.1 rfl (Nat.le_of_ble_eq_true rfl) dL_law_657 ⟨Nat.le_of_ble_eq_true rfl, Nat.le_of_ble_eq_true rfl⟩ (fun H locs hP hD hS => ?_)
                                            refine W.lcmp X.1 X.2.1 dL_law_660 ?_
                                            refine lv_if_eq (tgt := 666) X.1 X.2.1 dL_law_661 (by decide) (fun c210 => ?_) (fun c210 => ?_)
                                            · rw [if_pos c210] at h
                                              obtain ⟨x211, e212, h⟩ := lt_e h
                                              refine lv_iinc (v := x211) (lv' := [(3, .int x211), (0, .ref b), (1, .ref (a 0)), (2, .ref (a2 0))]) X.1 X.2.1 dL_law_666 hl (k := 3) rfl e212.symm (by decide) rfl (fun ls hl => ?_)
                                              refine lv_goto (tgt := 18) X.1 X.2.1 dL_law_669 (by decide) ?_
                                              exact ih x211 σ μ h _ _ _ hP hD hS (lv_sub hl [1, 2, 3, 0] rfl)
                                            · rw [if_neg c210] at h
                                              refine lv_iconst (v := (0 : Int32)) X.1 X.2.1 dL_law_664 (by decide) ?_
                                              exact absurd (sm_e h) (by decide)
                                          · rw [if_neg z205] at h
                                            refine lv_tableOut (tgt := 666) X.1 X.2.1 dL_law_32 (by have z3 := ne_i z3 (n := 0) (by decide); have z17 := ne_i z17 (n := 1) (by decide); have z25 := ne_i z25 (n := 2) (by decide); have z35 := ne_i z35 (n := 3) (by decide); have z47 := ne_i z47 (n := 4) (by decide); have z59 := ne_i z59 (n := 5) (by decide); have z67 := ne_i z67 (n := 6) (by decide); have z77 := ne_i z77 (n := 7) (by decide); have z89 := ne_i z89 (n := 8) (by decide); have z99 := ne_i z99 (n := 9) (by decide); have z113 := ne_i z113 (n := 10) (by decide); have z125 := ne_i z125 (n := 11) (by decide); have z135 := ne_i z135 (n := 12) (by decide); have z147 := ne_i z147 (n := 13) (by decide); have z155 := ne_i z155 (n := 14) (by decide); have z169 := ne_i z169 (n := 15) (by decide); have z183 := ne_i z183 (n := 16) (by decide); have z195 := ne_i z195 (n := 17) (by decide); have z205 := ne_i z205 (n := 18) (by decide); omega) (by decide) ?_
                                            obtain ⟨x213, e214, h⟩ := lt_e h
                                            refine lv_iinc (v := x213) (lv' := [(3, .int x213), (0, .ref b), (1, .ref (a 0)), (2, .ref (a2 0))]) X.1 X.2.1 dL_law_666 hl (k := 3) rfl e214.symm (by decide) rfl (fun ls hl => ?_)
                                            refine lv_goto (tgt := 18) X.1 X.2.1 dL_law_669 (by decide) ?_
                                            exact ih x213 σ μ h _ _ _ hP hD hS (lv_sub hl [1, 2, 3, 0] rfl)

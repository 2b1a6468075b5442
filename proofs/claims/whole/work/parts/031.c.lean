def f_X1_mayStep (σ : CS) : Option Int32 := if (c_sa σ) = 0 then if (200 : Int32) ≤ (c_st σ) then some (0 : Int32) else some (1 : Int32) else some (0 : Int32)
theorem hd_X1_mayStep : yX1_mayStep.cls = RX1 ∧ yX1_mayStep.cls ≠ "java/lang/invoke/MethodHandle" ∧ yX1_mayStep.cls ≠ "java/lang/invoke/VarHandle" ∧ (parseMethodDescriptor yX1_mayStep.desc).map (fun d => d.parameters.length) = some 0 := by decide +kernel
set_option maxHeartbeats 4000000 in
set_option maxRecDepth 100000 in
theorem k_X1_mayStep {l : Launch} {D : va_G} {k : Nat → ClassId} {a : Nat → Nat} {ρ : Nat → Nat}  (σ : CS) (R : Int32) (h : f_X1_mayStep σ = some R) : Ct l yX1_mayStep wsX1_mayStep ({ frames := 0, cells := 0, slots := 0, locals := 0 } : Room) D (cT k) (cW k a ρ σ) (cW k a ρ σ) [.ref (a 2)] (some (.int R)) := by
  refine ct_of (cc := cX1_mayStep) (maxL := 1) (ret := (some .boolean)) (by decide) rfl (Nat.le_of_ble_eq_true rfl) ?_
  intro p e s m args below meth c A ls X hr hlk hK hA hP hD hS hl
  have X : CallFix p m c cX1_mayStep 1 s args wsX1_mayStep RX1 := X
  have hl : lv_has ls 1 [(0, .ref (a 2))] := hl
  rw [f_X1_mayStep] at h
  refine lv_aload_n X.1 X.2.1 dX1_mayStep_0 rfl (lv_at hl 0 rfl) ?_
  refine gX1_state X (fun w h => (List.mem_cons_of_mem _ (List.mem_append_right _ h))) hK hP (List.mem_cons_of_mem _ (List.mem_append_left _ (List.mem_of_getElem? (i := 0) rfl))) dX1_mayStep_1 ?_
  refine lv_if_ne (tgt := 21) X.1 X.2.1 dX1_mayStep_4 (by decide) (fun c1 => ?_) (fun c1 => ?_)
  · rw [if_neg c1] at h
    refine lv_iconst (v := (0 : Int32)) X.1 X.2.1 dX1_mayStep_21 (by decide) ?_
    have h := sm_e h
    subst h
    exact rt_z X hr hlk rfl hK hP hD hS dX1_mayStep_22
  · rw [if_pos c1] at h
    refine lv_aload_n X.1 X.2.1 dX1_mayStep_7 rfl (lv_at hl 0 rfl) ?_
    refine gX1_steps X (fun w h => (List.mem_cons_of_mem _ (List.mem_append_right _ h))) hK hP (List.mem_cons_of_mem _ (List.mem_append_left _ (List.mem_of_getElem? (i := 1) rfl))) dX1_mayStep_8 ?_
    refine lv_sipush (v := (200 : Int32)) X.1 X.2.1 dX1_mayStep_11 (by decide) ?_
    refine lv_icmp_ge (tgt := 21) X.1 X.2.1 dX1_mayStep_14 (by decide) (fun c2 => ?_) (fun c2 => ?_)
    · rw [if_pos c2] at h
      refine lv_iconst (v := (0 : Int32)) X.1 X.2.1 dX1_mayStep_21 (by decide) ?_
      have h := sm_e h
      subst h
      exact rt_z X hr hlk rfl hK hP hD hS dX1_mayStep_22
    · rw [if_neg c2] at h
      refine lv_iconst (v := (1 : Int32)) X.1 X.2.1 dX1_mayStep_17 (by decide) ?_
      refine lv_goto (tgt := 22) X.1 X.2.1 dX1_mayStep_18 (by decide) ?_
      have h := sm_e h
      subst h
      exact rt_z X hr hlk rfl hK hP hD hS dX1_mayStep_22
def f_X1_weight (p0 : Int32) (p1 : Int32) (σ : CS) : Option Int64 := if (c_st σ) = 0 then some (1 : Int64) else gd (inB p0 12) (gd (inB p0 12) (gd (inB p1 26) (some (c_gg σ p0.toNatClampNeg p1.toNatClampNeg))))
theorem hd_X1_weight : yX1_weight.cls = RX1 ∧ yX1_weight.cls ≠ "java/lang/invoke/MethodHandle" ∧ yX1_weight.cls ≠ "java/lang/invoke/VarHandle" ∧ (parseMethodDescriptor yX1_weight.desc).map (fun d => d.parameters.length) = some 2 := by decide +kernel
set_option maxHeartbeats 4000000 in
set_option maxRecDepth 100000 in
theorem k_X1_weight {l : Launch} {D : va_G} {k : Nat → ClassId} {a : Nat → Nat} {ρ : Nat → Nat} (p0 : Int32) (p1 : Int32) (σ : CS) (R : Int64) (h : f_X1_weight p0 p1 σ = some R) : Ct l yX1_weight wsX1_weight ({ frames := 0, cells := 0, slots := 0, locals := 0 } : Room) D (cT k) (cW k a ρ σ) (cW k a ρ σ) [.ref (a 2), .int p0, .int p1] (some (.long R)) := by
  refine ct_of (cc := cX1_weight) (maxL := 3) (ret := (some .long)) (by decide) rfl (Nat.le_of_ble_eq_true rfl) ?_
  intro p e s m args below meth c A ls X hr hlk hK hA hP hD hS hl
  have X : CallFix p m c cX1_weight 3 s args wsX1_weight RX1 := X
  have hl : lv_has ls 3 [(0, .ref (a 2)), (1, .int p0), (2, .int p1)] := hl
  rw [f_X1_weight] at h
  refine lv_aload_n X.1 X.2.1 dX1_weight_0 rfl (lv_at hl 0 rfl) ?_
  refine gX1_steps X (fun w h => (List.mem_cons_of_mem _ (List.mem_append_right _ h))) hK hP (List.mem_cons_of_mem _ (List.mem_append_left _ (List.mem_of_getElem? (i := 0) rfl))) dX1_weight_1 ?_
  refine lv_if_ne (tgt := 11) X.1 X.2.1 dX1_weight_4 (by decide) (fun c1 => ?_) (fun c1 => ?_)
  · rw [if_neg c1] at h
    refine lv_aload_n X.1 X.2.1 dX1_weight_11 rfl (lv_at hl 0 rfl) ?_
    refine gX1_cell X (fun w h => (List.mem_cons_of_mem _ (List.mem_append_right _ h))) hK hP (List.mem_cons_of_mem _ (List.mem_append_left _ (List.mem_of_getElem? (i := 1) rfl))) dX1_weight_12 ?_
    refine lv_iload_n X.1 X.2.1 dX1_weight_15 rfl (lv_at hl 1 rfl) ?_
    obtain ⟨g2, h⟩ := gd_e h
    refine lc_cell X hK hP g2 dX1_weight_16 ?_
    refine lv_iload_n X.1 X.2.1 dX1_weight_17 rfl (lv_at hl 2 rfl) ?_
    obtain ⟨g3, h⟩ := gd_e h
    obtain ⟨g4, h⟩ := gd_e h
    refine lc_row X hK hP g3 g4 dX1_weight_18 ?_
    have h := sm_e h
    subst h
    exact rt_l X hr hlk hK hP hD hS dX1_weight_19
  · rw [if_pos c1] at h
    refine lv_lconst (v := (1 : Int64)) X.1 X.2.1 dX1_weight_7 (by decide) ?_
    refine lv_goto (tgt := 19) X.1 X.2.1 dX1_weight_8 (by decide) ?_
    have h := sm_e h
    subst h
    exact rt_l X hr hlk hK hP hD hS dX1_weight_19
def f_J13_compare_74951 (p0 : Int64) (p1 : Int64) : Option Int32 := if 0 ≤ (lg_cmp p0 p1) then if (lg_cmp p0 p1) = 0 then some (0 : Int32) else some (1 : Int32) else some (-1 : Int32)
theorem hd_J13_compare_74951 : yJ13_compare_74951.cls ≠ "java/lang/invoke/MethodHandle" ∧ yJ13_compare_74951.cls ≠ "java/lang/invoke/VarHandle" ∧ (parseMethodDescriptor yJ13_compare_74951.desc).map (fun d => d.parameters.length) = some 2 := by decide +kernel
set_option maxHeartbeats 4000000 in
set_option maxRecDepth 100000 in
theorem k_J13_compare_74951 {l : Launch} {D : va_G} (p0 : Int64) (p1 : Int64) (R : Int32) (h : f_J13_compare_74951 p0 p1 = some R) : Ct l yJ13_compare_74951 wsJ13_compare_74951 ({ frames := 0, cells := 0, slots := 0, locals := 0 } : Room) D ([]) ([]) ([]) [.long p0, .long p1] (some (.int R)) := by
  refine ct_of (cc := cJ13_compare_74951) (maxL := 4) (ret := (some .int)) (by decide) rfl (Nat.le_of_ble_eq_true rfl) ?_
  intro p e s m args below meth c A ls X hr hlk hK hA hP hD hS hl
  have X : CallFix p m c cJ13_compare_74951 4 s args wsJ13_compare_74951 RJ13 := X
  have hl : lv_has ls 4 [(0, .long p0), (2, .long p1)] := hl
  rw [f_J13_compare_74951] at h
  refine lv_lload_n X.1 X.2.1 dJ13_compare_74951_0 rfl (lv_at hl 0 rfl) ?_
  refine lv_lload_n X.1 X.2.1 dJ13_compare_74951_1 rfl (lv_at hl 1 rfl) ?_
  refine W.lcmp X.1 X.2.1 dJ13_compare_74951_2 ?_
  refine lv_if_ge (tgt := 10) X.1 X.2.1 dJ13_compare_74951_3 (by decide) (fun c1 => ?_) (fun c1 => ?_)
  · rw [if_pos c1] at h
    refine lv_lload_n X.1 X.2.1 dJ13_compare_74951_10 rfl (lv_at hl 0 rfl) ?_
    refine lv_lload_n X.1 X.2.1 dJ13_compare_74951_11 rfl (lv_at hl 1 rfl) ?_
    refine W.lcmp X.1 X.2.1 dJ13_compare_74951_12 ?_
    refine lv_if_ne (tgt := 20) X.1 X.2.1 dJ13_compare_74951_13 (by decide) (fun c2 => ?_) (fun c2 => ?_)
    · rw [if_neg c2] at h
      refine lv_iconst (v := (1 : Int32)) X.1 X.2.1 dJ13_compare_74951_20 (by decide) ?_
      have h := sm_e h
      subst h
      exact rt_i X hr hlk hK hP hD hS dJ13_compare_74951_21
    · rw [if_pos c2] at h
      refine lv_iconst (v := (0 : Int32)) X.1 X.2.1 dJ13_compare_74951_16 (by decide) ?_
      refine lv_goto (tgt := 21) X.1 X.2.1 dJ13_compare_74951_17 (by decide) ?_
      have h := sm_e h
      subst h
      exact rt_i X hr hlk hK hP hD hS dJ13_compare_74951_21
  · rw [if_neg c1] at h
    refine lv_iconst (v := (-1 : Int32)) X.1 X.2.1 dJ13_compare_74951_6 (by decide) ?_
    refine lv_goto (tgt := 21) X.1 X.2.1 dJ13_compare_74951_7 (by decide) ?_
    have h := sm_e h
    subst h
    exact rt_i X hr hlk hK hP hD hS dJ13_compare_74951_21
def f_J13_compareUnsigned_74951 (p0 : Int64) (p1 : Int64) : Option Int32 := (f_J13_compare_74951 (p0 + (-9223372036854775808 : Int64)) (p1 + (-9223372036854775808 : Int64)) ).bind (fun r1 => some r1)
theorem hd_J13_compareUnsigned_74951 : yJ13_compareUnsigned_74951.cls ≠ "java/lang/invoke/MethodHandle" ∧ yJ13_compareUnsigned_74951.cls ≠ "java/lang/invoke/VarHandle" ∧ (parseMethodDescriptor yJ13_compareUnsigned_74951.desc).map (fun d => d.parameters.length) = some 2 := by decide +kernel
set_option maxHeartbeats 4000000 in
set_option maxRecDepth 100000 in
theorem k_J13_compareUnsigned_74951 {l : Launch} {D : va_G} (p0 : Int64) (p1 : Int64) (R : Int32) (h : f_J13_compareUnsigned_74951 p0 p1 = some R) : Ct l yJ13_compareUnsigned_74951 wsJ13_compareUnsigned_74951 ({ frames := 1, cells := 0, slots := 0, locals := 23 } : Room) D ([]) ([]) ([]) [.long p0, .long p1] (some (.int R)) := by
  refine ct_of (cc := cJ13_compareUnsigned_74951) (maxL := 4) (ret := (some .int)) (by decide) rfl (Nat.le_of_ble_eq_true rfl) ?_
  intro p e s m args below meth c A ls X hr hlk hK hA hP hD hS hl
  have X : CallFix p m c cJ13_compareUnsigned_74951 4 s args wsJ13_compareUnsigned_74951 RJ13 := X
  have hl : lv_has ls 4 [(0, .long p0), (2, .long p1)] := hl
  rw [f_J13_compareUnsigned_74951] at h
  refine lv_lload_n X.1 X.2.1 dJ13_compareUnsigned_74951_0 rfl (lv_at hl 0 rfl) ?_
  refine lv_ldc2 (v := (-9223372036854775808 : Int64)) X.1 X.2.1 X.2.2.2.1 (X.2.2.2.2 _ (List.mem_cons_of_mem _ (List.mem_of_getElem? (i := 0) rfl))) dJ13_compareUnsigned_74951_1 ?_
  refine lv_ladd X.1 X.2.1 dJ13_compareUnsigned_74951_4 ?_
  refine lv_lload_n X.1 X.2.1 dJ13_compareUnsigned_74951_5 rfl (lv_at hl 1 rfl) ?_
  refine lv_ldc2 (v := (-9223372036854775808 : Int64)) X.1 X.2.1 X.2.2.2.1 (X.2.2.2.2 _ (List.mem_cons_of_mem _ (List.mem_of_getElem? (i := 0) rfl))) dJ13_compareUnsigned_74951_6 ?_
  refine lv_ladd X.1 X.2.1 dJ13_compareUnsigned_74951_9 ?_
  obtain ⟨r1, q2, h⟩ := bd_e h
  refine kc_s (As := [.long (p0 + (-9223372036854775808 : Int64)), .long (p1 + (-9223372036854775808 : Int64))]) (rest := []) X (k_J13_compare_74951 (p0 + (-9223372036854775808 : Int64)) (p1 + (-9223372036854775808 : Int64)) _ q2) (va_cwS 2 X.2.2.2.2 gJ13_compareUnsigned_74951_J13_compare_74951 rfl rfl rfl hd_J13_compare_74951 ⟨Nat.le_of_ble_eq_true rfl, Nat.le_of_ble_eq_true rfl⟩) hK hP hS hA rfl hl.1 rfl (Nat.le_of_ble_eq_true rfl) dJ13_compareUnsigned_74951_10 ⟨Nat.le_of_ble_eq_true rfl, Nat.le_of_ble_eq_true rfl⟩ (fun H locs hP hS => ?_)
  have h := sm_e h
  subst h
  exact rt_i X hr hlk hK hP hD hS dJ13_compareUnsigned_74951_13
def f_X2_highOfProduct (p0 : Int64) (p1 : Int64) : Option Int64 := lt_ (p0 &&& (4294967295 : Int64)) (fun x1 => lt_ (p0 >>> ((32 : Int32).toInt64 &&& 63)) (fun x3 => lt_ (p1 &&& (4294967295 : Int64)) (fun x5 => lt_ (p1 >>> ((32 : Int32).toInt64 &&& 63)) (fun x7 => lt_ ((x3 * x5) + (((x1 * x5).toUInt64 >>> ((32 : Int32).toInt64.toUInt64 &&& Int64.toUInt64 63)).toInt64)) (fun x9 => lt_ ((x1 * x7) + (x9 &&& (4294967295 : Int64))) (fun x11 => some (((x3 * x7) + (x9 >>> ((32 : Int32).toInt64 &&& 63))) + (x11 >>> ((32 : Int32).toInt64 &&& 63)))))))))
theorem hd_X2_highOfProduct : yX2_highOfProduct.cls ≠ "java/lang/invoke/MethodHandle" ∧ yX2_highOfProduct.cls ≠ "java/lang/invoke/VarHandle" ∧ (parseMethodDescriptor yX2_highOfProduct.desc).map (fun d => d.parameters.length) = some 2 := by decide +kernel
set_option maxHeartbeats 4000000 in
set_option maxRecDepth 100000 in
theorem k_X2_highOfProduct {l : Launch} {D : va_G} (p0 : Int64) (p1 : Int64) (R : Int64) (h : f_X2_highOfProduct p0 p1 = some R) : Ct l yX2_highOfProduct wsX2_highOfProduct ({ frames := 0, cells := 0, slots := 0, locals := 0 } : Room) D ([]) ([]) ([]) [.long p0, .long p1] (some (.long R)) := by
  refine ct_of (cc := cX2_highOfProduct) (maxL := 16) (ret := (some .long)) (by decide) rfl (Nat.le_of_ble_eq_true rfl) ?_
  intro p e s m args below meth c A ls X hr hlk hK hA hP hD hS hl
  have X : CallFix p m c cX2_highOfProduct 16 s args wsX2_highOfProduct RX2 := X
  have hl : lv_has ls 16 [(0, .long p0), (2, .long p1)] := hl
  rw [f_X2_highOfProduct] at h
  refine lv_lload_n X.1 X.2.1 dX2_highOfProduct_0 rfl (lv_at hl 0 rfl) ?_
  refine lv_ldc2 (v := (4294967295 : Int64)) X.1 X.2.1 X.2.2.2.1 (X.2.2.2.2 _ (List.mem_cons_of_mem _ (List.mem_of_getElem? (i := 0) rfl))) dX2_highOfProduct_1 ?_
  refine lv_land X.1 X.2.1 dX2_highOfProduct_4 ?_
  obtain ⟨x1, e2, h⟩ := lt_e h
  refine nm_l e2 ?_
  refine lv_lstore (lv' := [(4, .long x1), (0, .long p0), (2, .long p1)]) X.1 X.2.1 dX2_highOfProduct_5 hl (by decide) rfl (fun ls hl => ?_)
  refine lv_lload_n X.1 X.2.1 dX2_highOfProduct_7 rfl (lv_at hl 1 rfl) ?_
  refine lv_bipush (v := (32 : Int32)) X.1 X.2.1 dX2_highOfProduct_8 (by decide) ?_
  refine lv_lshr (v := (p0 >>> ((32 : Int32).toInt64 &&& 63))) X.1 X.2.1 dX2_highOfProduct_10 rfl ?_
  obtain ⟨x3, e4, h⟩ := lt_e h
  refine nm_l e4 ?_
  refine lv_lstore (lv' := [(6, .long x3), (4, .long x1), (0, .long p0), (2, .long p1)]) X.1 X.2.1 dX2_highOfProduct_11 hl (by decide) rfl (fun ls hl => ?_)
  refine lv_lload_n X.1 X.2.1 dX2_highOfProduct_13 rfl (lv_at hl 3 rfl) ?_
  refine lv_ldc2 (v := (4294967295 : Int64)) X.1 X.2.1 X.2.2.2.1 (X.2.2.2.2 _ (List.mem_cons_of_mem _ (List.mem_of_getElem? (i := 0) rfl))) dX2_highOfProduct_14 ?_
  refine lv_land X.1 X.2.1 dX2_highOfProduct_17 ?_
  obtain ⟨x5, e6, h⟩ := lt_e h
  refine nm_l e6 ?_
  refine lv_lstore (lv' := [(8, .long x5), (6, .long x3), (4, .long x1), (0, .long p0), (2, .long p1)]) X.1 X.2.1 dX2_highOfProduct_18 hl (by decide) rfl (fun ls hl => ?_)
  refine lv_lload_n X.1 X.2.1 dX2_highOfProduct_20 rfl (lv_at hl 4 rfl) ?_
  refine lv_bipush (v := (32 : Int32)) X.1 X.2.1 dX2_highOfProduct_21 (by decide) ?_
  refine lv_lshr (v := (p1 >>> ((32 : Int32).toInt64 &&& 63))) X.1 X.2.1 dX2_highOfProduct_23 rfl ?_
  obtain ⟨x7, e8, h⟩ := lt_e h
  refine nm_l e8 ?_
  refine lv_lstore (lv' := [(10, .long x7), (8, .long x5), (6, .long x3), (4, .long x1), (0, .long p0), (2, .long p1)]) X.1 X.2.1 dX2_highOfProduct_24 hl (by decide) rfl (fun ls hl => ?_)
  refine lv_lload X.1 X.2.1 dX2_highOfProduct_26 (lv_at hl 2 rfl) ?_
  refine lv_lload X.1 X.2.1 dX2_highOfProduct_28 (lv_at hl 1 rfl) ?_
  refine lv_lmul X.1 X.2.1 dX2_highOfProduct_30 ?_
  refine lv_lload X.1 X.2.1 dX2_highOfProduct_31 (lv_at hl 3 rfl) ?_
  refine lv_lload X.1 X.2.1 dX2_highOfProduct_33 (lv_at hl 1 rfl) ?_
  refine lv_lmul X.1 X.2.1 dX2_highOfProduct_35 ?_
  refine lv_bipush (v := (32 : Int32)) X.1 X.2.1 dX2_highOfProduct_36 (by decide) ?_
  refine lv_lushr (v := (((x1 * x5).toUInt64 >>> ((32 : Int32).toInt64.toUInt64 &&& Int64.toUInt64 63)).toInt64)) X.1 X.2.1 dX2_highOfProduct_38 rfl ?_
  refine lv_ladd X.1 X.2.1 dX2_highOfProduct_39 ?_
  obtain ⟨x9, e10, h⟩ := lt_e h
  refine nm_l e10 ?_
  refine lv_lstore (lv' := [(12, .long x9), (10, .long x7), (8, .long x5), (6, .long x3), (4, .long x1), (0, .long p0), (2, .long p1)]) X.1 X.2.1 dX2_highOfProduct_40 hl (by decide) rfl (fun ls hl => ?_)
  refine lv_lload X.1 X.2.1 dX2_highOfProduct_42 (lv_at hl 4 rfl) ?_
  refine lv_lload X.1 X.2.1 dX2_highOfProduct_44 (lv_at hl 1 rfl) ?_
  refine lv_lmul X.1 X.2.1 dX2_highOfProduct_46 ?_
  refine lv_lload X.1 X.2.1 dX2_highOfProduct_47 (lv_at hl 0 rfl) ?_
  refine lv_ldc2 (v := (4294967295 : Int64)) X.1 X.2.1 X.2.2.2.1 (X.2.2.2.2 _ (List.mem_cons_of_mem _ (List.mem_of_getElem? (i := 0) rfl))) dX2_highOfProduct_49 ?_
  refine lv_land X.1 X.2.1 dX2_highOfProduct_52 ?_
  refine lv_ladd X.1 X.2.1 dX2_highOfProduct_53 ?_
  obtain ⟨x11, e12, h⟩ := lt_e h
  refine nm_l e12 ?_
  refine lv_lstore (lv' := [(14, .long x11), (12, .long x9), (10, .long x7), (8, .long x5), (6, .long x3), (4, .long x1), (0, .long p0), (2, .long p1)]) X.1 X.2.1 dX2_highOfProduct_54 hl (by decide) rfl (fun ls hl => ?_)
  refine lv_lload X.1 X.2.1 dX2_highOfProduct_56 (lv_at hl 4 rfl) ?_
  refine lv_lload X.1 X.2.1 dX2_highOfProduct_58 (lv_at hl 2 rfl) ?_
  refine lv_lmul X.1 X.2.1 dX2_highOfProduct_60 ?_
  refine lv_lload X.1 X.2.1 dX2_highOfProduct_61 (lv_at hl 1 rfl) ?_
  refine lv_bipush (v := (32 : Int32)) X.1 X.2.1 dX2_highOfProduct_63 (by decide) ?_
  refine lv_lshr (v := (x9 >>> ((32 : Int32).toInt64 &&& 63))) X.1 X.2.1 dX2_highOfProduct_65 rfl ?_
  refine lv_ladd X.1 X.2.1 dX2_highOfProduct_66 ?_
  refine lv_lload X.1 X.2.1 dX2_highOfProduct_67 (lv_at hl 0 rfl) ?_
  refine lv_bipush (v := (32 : Int32)) X.1 X.2.1 dX2_highOfProduct_69 (by decide) ?_
  refine lv_lshr (v := (x11 >>> ((32 : Int32).toInt64 &&& 63))) X.1 X.2.1 dX2_highOfProduct_71 rfl ?_
  refine lv_ladd X.1 X.2.1 dX2_highOfProduct_72 ?_
  have h := sm_e h
  subst h
  exact rt_l X hr hlk hK hP hD hS dX2_highOfProduct_73
def f_X2_crossHigh (p0 : Int64) (p1 : Int64) (p2 : Int64) (p3 : Int64) : Option Int64 := (f_J13_compareUnsigned_74951 (p0 * p1) (p2 * p3) ).bind (fun r1 => if 0 ≤ r1 then (f_X2_highOfProduct p0 p1 ).bind (fun r4 => (f_X2_highOfProduct p2 p3 ).bind (fun r6 => some ((r4 - r6) - (0 : Int64)))) else (f_X2_highOfProduct p0 p1 ).bind (fun r8 => (f_X2_highOfProduct p2 p3 ).bind (fun r10 => some ((r8 - r10) - (1 : Int64)))))
theorem hd_X2_crossHigh : yX2_crossHigh.cls ≠ "java/lang/invoke/MethodHandle" ∧ yX2_crossHigh.cls ≠ "java/lang/invoke/VarHandle" ∧ (parseMethodDescriptor yX2_crossHigh.desc).map (fun d => d.parameters.length) = some 4 := by decide +kernel
set_option maxHeartbeats 4000000 in
set_option maxRecDepth 100000 in
theorem k_X2_crossHigh {l : Launch} {D : va_G} (p0 : Int64) (p1 : Int64) (p2 : Int64) (p3 : Int64) (R : Int64) (h : f_X2_crossHigh p0 p1 p2 p3 = some R) : Ct l yX2_crossHigh wsX2_crossHigh ({ frames := 2, cells := 0, slots := 0, locals := 46 } : Room) D ([]) ([]) ([]) [.long p0, .long p1, .long p2, .long p3] (some (.long R)) := by
  refine ct_of (cc := cX2_crossHigh) (maxL := 10) (ret := (some .long)) (by decide) rfl (Nat.le_of_ble_eq_true rfl) ?_
  intro p e s m args below meth c A ls X hr hlk hK hA hP hD hS hl
  have X : CallFix p m c cX2_crossHigh 10 s args wsX2_crossHigh RX2 := X
  have hl : lv_has ls 10 [(0, .long p0), (2, .long p1), (4, .long p2), (6, .long p3)] := hl
  rw [f_X2_crossHigh] at h
  refine lv_lload_n X.1 X.2.1 dX2_crossHigh_0 rfl (lv_at hl 0 rfl) ?_
  refine lv_lload_n X.1 X.2.1 dX2_crossHigh_1 rfl (lv_at hl 1 rfl) ?_
  refine lv_lmul X.1 X.2.1 dX2_crossHigh_2 ?_
  refine lv_lload X.1 X.2.1 dX2_crossHigh_3 (lv_at hl 2 rfl) ?_
  refine lv_lload X.1 X.2.1 dX2_crossHigh_5 (lv_at hl 3 rfl) ?_
  refine lv_lmul X.1 X.2.1 dX2_crossHigh_7 ?_
  obtain ⟨r1, q2, h⟩ := bd_e h
  refine kc_s (As := [.long (p0 * p1), .long (p2 * p3)]) (rest := []) X (k_J13_compareUnsigned_74951 (p0 * p1) (p2 * p3) _ q2) (va_cwS 2 X.2.2.2.2 gX2_crossHigh_J13_compareUnsigned_74951 rfl rfl rfl hd_J13_compareUnsigned_74951 ⟨Nat.le_of_ble_eq_true rfl, Nat.le_of_ble_eq_true rfl⟩) hK hP hS hA rfl hl.1 rfl (Nat.le_of_ble_eq_true rfl) dX2_crossHigh_8 ⟨Nat.le_of_ble_eq_true rfl, Nat.le_of_ble_eq_true rfl⟩ (fun H locs hP hS => ?_)
  refine lv_if_ge (tgt := 18) X.1 X.2.1 dX2_crossHigh_11 (by decide) (fun c3 => ?_) (fun c3 => ?_)
  · rw [if_pos c3] at h
    refine lv_lconst (v := (0 : Int64)) X.1 X.2.1 dX2_crossHigh_18 (by decide) ?_
    refine lv_lstore (lv' := [(8, .long (0 : Int64)), (0, .long p0), (2, .long p1), (4, .long p2), (6, .long p3)]) X.1 X.2.1 dX2_crossHigh_19 hl (by decide) rfl (fun ls hl => ?_)
    refine lv_lload_n X.1 X.2.1 dX2_crossHigh_21 rfl (lv_at hl 1 rfl) ?_
    refine lv_lload_n X.1 X.2.1 dX2_crossHigh_22 rfl (lv_at hl 2 rfl) ?_
    obtain ⟨r4, q5, h⟩ := bd_e h
    refine kc_s (As := [.long p0, .long p1]) (rest := []) X (k_X2_highOfProduct p0 p1 _ q5) (va_cwS 2 X.2.2.2.2 gX2_crossHigh_X2_highOfProduct rfl rfl rfl hd_X2_highOfProduct ⟨Nat.le_of_ble_eq_true rfl, Nat.le_of_ble_eq_true rfl⟩) hK hP hS hA rfl hl.1 rfl (Nat.le_of_ble_eq_true rfl) dX2_crossHigh_23 ⟨Nat.le_of_ble_eq_true rfl, Nat.le_of_ble_eq_true rfl⟩ (fun H locs hP hS => ?_)
    refine lv_lload X.1 X.2.1 dX2_crossHigh_26 (lv_at hl 3 rfl) ?_
    refine lv_lload X.1 X.2.1 dX2_crossHigh_28 (lv_at hl 4 rfl) ?_
    obtain ⟨r6, q7, h⟩ := bd_e h
    refine kc_s (As := [.long p2, .long p3]) (rest := [.long r4]) X (k_X2_highOfProduct p2 p3 _ q7) (va_cwS 2 X.2.2.2.2 gX2_crossHigh_X2_highOfProduct rfl rfl rfl hd_X2_highOfProduct ⟨Nat.le_of_ble_eq_true rfl, Nat.le_of_ble_eq_true rfl⟩) hK hP hS hA rfl hl.1 rfl (Nat.le_of_ble_eq_true rfl) dX2_crossHigh_30 ⟨Nat.le_of_ble_eq_true rfl, Nat.le_of_ble_eq_true rfl⟩ (fun H locs hP hS => ?_)
    refine lv_lsub X.1 X.2.1 dX2_crossHigh_33 ?_
    refine lv_lload X.1 X.2.1 dX2_crossHigh_34 (lv_at hl 0 rfl) ?_
    refine lv_lsub X.1 X.2.1 dX2_crossHigh_36 ?_
    have h := sm_e h
    subst h
    exact rt_l X hr hlk hK hP hD hS dX2_crossHigh_37
  · rw [if_neg c3] at h
    refine lv_lconst (v := (1 : Int64)) X.1 X.2.1 dX2_crossHigh_14 (by decide) ?_
    refine lv_goto (tgt := 19) X.1 X.2.1 dX2_crossHigh_15 (by decide) ?_
    refine lv_lstore (lv' := [(8, .long (1 : Int64)), (0, .long p0), (2, .long p1), (4, .long p2), (6, .long p3)]) X.1 X.2.1 dX2_crossHigh_19 hl (by decide) rfl (fun ls hl => ?_)
    refine lv_lload_n X.1 X.2.1 dX2_crossHigh_21 rfl (lv_at hl 1 rfl) ?_
    refine lv_lload_n X.1 X.2.1 dX2_crossHigh_22 rfl (lv_at hl 2 rfl) ?_
    obtain ⟨r8, q9, h⟩ := bd_e h
    refine kc_s (As := [.long p0, .long p1]) (rest := []) X (k_X2_highOfProduct p0 p1 _ q9) (va_cwS 2 X.2.2.2.2 gX2_crossHigh_X2_highOfProduct rfl rfl rfl hd_X2_highOfProduct ⟨Nat.le_of_ble_eq_true rfl, Nat.le_of_ble_eq_true rfl⟩) hK hP hS hA rfl hl.1 rfl (Nat.le_of_ble_eq_true rfl) dX2_crossHigh_23 ⟨Nat.le_of_ble_eq_true rfl, Nat.le_of_ble_eq_true rfl⟩ (fun H locs hP hS => ?_)
    refine lv_lload X.1 X.2.1 dX2_crossHigh_26 (lv_at hl 3 rfl) ?_
    refine lv_lload X.1 X.2.1 dX2_crossHigh_28 (lv_at hl 4 rfl) ?_
    obtain ⟨r10, q11, h⟩ := bd_e h
    refine kc_s (As := [.long p2, .long p3]) (rest := [.long r8]) X (k_X2_highOfProduct p2 p3 _ q11) (va_cwS 2 X.2.2.2.2 gX2_crossHigh_X2_highOfProduct rfl rfl rfl hd_X2_highOfProduct ⟨Nat.le_of_ble_eq_true rfl, Nat.le_of_ble_eq_true rfl⟩) hK hP hS hA rfl hl.1 rfl (Nat.le_of_ble_eq_true rfl) dX2_crossHigh_30 ⟨Nat.le_of_ble_eq_true rfl, Nat.le_of_ble_eq_true rfl⟩ (fun H locs hP hS => ?_)
    refine lv_lsub X.1 X.2.1 dX2_crossHigh_33 ?_
    refine lv_lload X.1 X.2.1 dX2_crossHigh_34 (lv_at hl 0 rfl) ?_
    refine lv_lsub X.1 X.2.1 dX2_crossHigh_36 ?_
    have h := sm_e h
    subst h
    exact rt_l X hr hlk hK hP hD hS dX2_crossHigh_37
def f_J13_signum_95d88 (p0 : Int64) : Option Int32 := some (((p0 >>> ((63 : Int32).toInt64 &&& 63)) ||| (((-p0).toUInt64 >>> ((63 : Int32).toInt64.toUInt64 &&& Int64.toUInt64 63)).toInt64)).toInt32)
theorem hd_J13_signum_95d88 : yJ13_signum_95d88.cls ≠ "java/lang/invoke/MethodHandle" ∧ yJ13_signum_95d88.cls ≠ "java/lang/invoke/VarHandle" ∧ (parseMethodDescriptor yJ13_signum_95d88.desc).map (fun d => d.parameters.length) = some 1 := by decide +kernel
set_option maxHeartbeats 4000000 in
set_option maxRecDepth 100000 in
theorem k_J13_signum_95d88 {l : Launch} {D : va_G} (p0 : Int64) (R : Int32) (h : f_J13_signum_95d88 p0 = some R) : Ct l yJ13_signum_95d88 wsJ13_signum_95d88 ({ frames := 0, cells := 0, slots := 0, locals := 0 } : Room) D ([]) ([]) ([]) [.long p0] (some (.int R)) := by
  refine ct_of (cc := cJ13_signum_95d88) (maxL := 2) (ret := (some .int)) (by decide) rfl (Nat.le_of_ble_eq_true rfl) ?_
  intro p e s m args below meth c A ls X hr hlk hK hA hP hD hS hl
  have X : CallFix p m c cJ13_signum_95d88 2 s args wsJ13_signum_95d88 RJ13 := X
  have hl : lv_has ls 2 [(0, .long p0)] := hl
  rw [f_J13_signum_95d88] at h
  refine lv_lload_n X.1 X.2.1 dJ13_signum_95d88_0 rfl (lv_at hl 0 rfl) ?_
  refine lv_bipush (v := (63 : Int32)) X.1 X.2.1 dJ13_signum_95d88_1 (by decide) ?_
  refine lv_lshr (v := (p0 >>> ((63 : Int32).toInt64 &&& 63))) X.1 X.2.1 dJ13_signum_95d88_3 rfl ?_
  refine lv_lload_n X.1 X.2.1 dJ13_signum_95d88_4 rfl (lv_at hl 0 rfl) ?_
  refine lv_lneg X.1 X.2.1 dJ13_signum_95d88_5 ?_
  refine lv_bipush (v := (63 : Int32)) X.1 X.2.1 dJ13_signum_95d88_6 (by decide) ?_
  refine lv_lushr (v := (((-p0).toUInt64 >>> ((63 : Int32).toInt64.toUInt64 &&& Int64.toUInt64 63)).toInt64)) X.1 X.2.1 dJ13_signum_95d88_8 rfl ?_
  refine lv_lor X.1 X.2.1 dJ13_signum_95d88_9 ?_
  refine lv_l2i (v := ((p0 >>> ((63 : Int32).toInt64 &&& 63)) ||| (((-p0).toUInt64 >>> ((63 : Int32).toInt64.toUInt64 &&& Int64.toUInt64 63)).toInt64)).toInt32) X.1 X.2.1 dJ13_signum_95d88_10 rfl ?_
  have h := sm_e h
  subst h
  exact rt_i X hr hlk hK hP hD hS dJ13_signum_95d88_11
def f_X2_crossSign (p0 : Int64) (p1 : Int64) (p2 : Int64) (p3 : Int64) : Option Int32 := (f_X2_crossHigh p0 p1 p2 p3 ).bind (fun r1 => if (lg_cmp r1 (0 : Int64)) = 0 then if (lg_cmp (p0 * p1) (p2 * p3)) = 0 then some (0 : Int32) else some (1 : Int32) else (f_J13_signum_95d88 r1 ).bind (fun r5 => some r5))
theorem hd_X2_crossSign : yX2_crossSign.cls ≠ "java/lang/invoke/MethodHandle" ∧ yX2_crossSign.cls ≠ "java/lang/invoke/VarHandle" ∧ (parseMethodDescriptor yX2_crossSign.desc).map (fun d => d.parameters.length) = some 4 := by decide +kernel
set_option maxHeartbeats 4000000 in
set_option maxRecDepth 100000 in
theorem k_X2_crossSign {l : Launch} {D : va_G} (p0 : Int64) (p1 : Int64) (p2 : Int64) (p3 : Int64) (R : Int32) (h : f_X2_crossSign p0 p1 p2 p3 = some R) : Ct l yX2_crossSign wsX2_crossSign ({ frames := 3, cells := 0, slots := 0, locals := 75 } : Room) D ([]) ([]) ([]) [.long p0, .long p1, .long p2, .long p3] (some (.int R)) := by
  refine ct_of (cc := cX2_crossSign) (maxL := 10) (ret := (some .int)) (by decide) rfl (Nat.le_of_ble_eq_true rfl) ?_
  intro p e s m args below meth c A ls X hr hlk hK hA hP hD hS hl
  have X : CallFix p m c cX2_crossSign 10 s args wsX2_crossSign RX2 := X
  have hl : lv_has ls 10 [(0, .long p0), (2, .long p1), (4, .long p2), (6, .long p3)] := hl
  rw [f_X2_crossSign] at h
  refine lv_lload_n X.1 X.2.1 dX2_crossSign_0 rfl (lv_at hl 0 rfl) ?_
  refine lv_lload_n X.1 X.2.1 dX2_crossSign_1 rfl (lv_at hl 1 rfl) ?_
  refine lv_lload X.1 X.2.1 dX2_crossSign_2 (lv_at hl 2 rfl) ?_
  refine lv_lload X.1 X.2.1 dX2_crossSign_4 (lv_at hl 3 rfl) ?_
  obtain ⟨r1, q2, h⟩ := bd_e h
  refine kc_s (As := [.long p0, .long p1, .long p2, .long p3]) (rest := []) X (k_X2_crossHigh p0 p1 p2 p3 _ q2) (va_cwS 4 X.2.2.2.2 gX2_crossSign_X2_crossHigh rfl rfl rfl hd_X2_crossHigh ⟨Nat.le_of_ble_eq_true rfl, Nat.le_of_ble_eq_true rfl⟩) hK hP hS hA rfl hl.1 rfl (Nat.le_of_ble_eq_true rfl) dX2_crossSign_6 ⟨Nat.le_of_ble_eq_true rfl, Nat.le_of_ble_eq_true rfl⟩ (fun H locs hP hS => ?_)
  refine lv_lstore (lv' := [(8, .long r1), (0, .long p0), (2, .long p1), (4, .long p2), (6, .long p3)]) X.1 X.2.1 dX2_crossSign_9 hl (by decide) rfl (fun ls hl => ?_)
  refine lv_lload X.1 X.2.1 dX2_crossSign_11 (lv_at hl 0 rfl) ?_
  refine lv_lconst (v := (0 : Int64)) X.1 X.2.1 dX2_crossSign_13 (by decide) ?_
  refine W.lcmp X.1 X.2.1 dX2_crossSign_14 ?_
  refine lv_if_eq (tgt := 24) X.1 X.2.1 dX2_crossSign_15 (by decide) (fun c3 => ?_) (fun c3 => ?_)
  · rw [if_pos c3] at h
    refine lv_lload_n X.1 X.2.1 dX2_crossSign_24 rfl (lv_at hl 1 rfl) ?_
    refine lv_lload_n X.1 X.2.1 dX2_crossSign_25 rfl (lv_at hl 2 rfl) ?_
    refine lv_lmul X.1 X.2.1 dX2_crossSign_26 ?_
    refine lv_lload X.1 X.2.1 dX2_crossSign_27 (lv_at hl 3 rfl) ?_
    refine lv_lload X.1 X.2.1 dX2_crossSign_29 (lv_at hl 4 rfl) ?_
    refine lv_lmul X.1 X.2.1 dX2_crossSign_31 ?_
    refine W.lcmp X.1 X.2.1 dX2_crossSign_32 ?_
    refine lv_if_ne (tgt := 40) X.1 X.2.1 dX2_crossSign_33 (by decide) (fun c4 => ?_) (fun c4 => ?_)
    · rw [if_neg c4] at h
      refine lv_iconst (v := (1 : Int32)) X.1 X.2.1 dX2_crossSign_40 (by decide) ?_
      have h := sm_e h
      subst h
      exact rt_i X hr hlk hK hP hD hS dX2_crossSign_41
    · rw [if_pos c4] at h
      refine lv_iconst (v := (0 : Int32)) X.1 X.2.1 dX2_crossSign_36 (by decide) ?_
      refine lv_goto (tgt := 41) X.1 X.2.1 dX2_crossSign_37 (by decide) ?_
      have h := sm_e h
      subst h
      exact rt_i X hr hlk hK hP hD hS dX2_crossSign_41
  · rw [if_neg c3] at h
    refine lv_lload X.1 X.2.1 dX2_crossSign_18 (lv_at hl 0 rfl) ?_
    obtain ⟨r5, q6, h⟩ := bd_e h
    refine kc_s (As := [.long r1]) (rest := []) X (k_J13_signum_95d88 r1 _ q6) (va_cwS 1 X.2.2.2.2 gX2_crossSign_J13_signum_95d88 rfl rfl rfl hd_J13_signum_95d88 ⟨Nat.le_of_ble_eq_true rfl, Nat.le_of_ble_eq_true rfl⟩) hK hP hS hA rfl hl.1 rfl (Nat.le_of_ble_eq_true rfl) dX2_crossSign_20 ⟨Nat.le_of_ble_eq_true rfl, Nat.le_of_ble_eq_true rfl⟩ (fun H locs hP hS => ?_)
    have h := sm_e h
    subst h
    exact rt_i X hr hlk hK hP hD hS dX2_crossSign_23
def f_X1_isLess_L50 (N : Nat) : Nat → Int32 → Int32 → Int64 → Int64 → Int32 → Int32 → CS → Option Int32
  | 0, _, _, _, _, _, _, _ => none
  | n + 1, v1, v2, v4, v6, v8, v9, σ => if (c_rw σ) ≤ v9 then if 0 ≤ v8 then some (0 : Int32) else some (1 : Int32) else if v8 = 0 then gd (inB v1 12) (gd (inB v1 12) (gd (inB v9 26) (gd (inB v2 12) (gd (inB v2 12) (gd (inB v9 26) ((f_X2_crossSign (c_gg σ v1.toNatClampNeg v9.toNatClampNeg) v6 (c_gg σ v2.toNatClampNeg v9.toNatClampNeg) v4 ).bind (fun r11 => lt_ (v9 + (1 : Int32)) (fun x13 => f_X1_isLess_L50 N n v1 v2 v4 v6 r11 x13 σ)))))))) else if 0 ≤ v8 then some (0 : Int32) else some (1 : Int32)
set_option maxHeartbeats 4000000 in
set_option maxRecDepth 100000 in
theorem t_X1_isLess_L50 {p : Program} {l : Launch} {e : Env} {s : State} {m : MethodId} {args : Array Value} {below : List Frame} {meth : Method} {c : Code} {D : va_G} {A : Nat → Prop} {k : Nat → ClassId} {a : Nat → Nat} {ρ : Nat → Nat} (X : CallFix p m c cX1_isLess 10 s args wsX1_isLess RX1) (hr : meth.sig.returnType = some .boolean) (hlk : meth.locks = false) (hK : va_K D vwCl (cT k) s) (hA : ∀ q : Nat, s.heap.size ≤ q → A q) (N : Nat) : ∀ (n : Nat) (v1 : Int32) (v2 : Int32) (v4 : Int64) (v6 : Int64) (v8 : Int32) (v9 : Int32) (σ : CS) (R : Int32), f_X1_isLess_L50 N n v1 v2 v4 v6 v8 v9 σ = some R → ∀ (H : Heap) (locs : List Loc) (ls : Array Slot), va_P D vwCl (cW k a ρ σ) H → va_D A (cW k a ρ σ) → va_S A s.heap H locs → lv_has ls 10 [(0, .ref (a 2)), (1, .int v1), (2, .int v2), (4, .long v4), (6, .long v6), (8, .int v8), (9, .int v9)] → W p l e ({ frames := 4, cells := 0, slots := 0, locals := 104 } : Room) s m args below meth c H locs 0 0 (MQ below (cQ D (cT k) A (cW k a ρ σ) (some (.int R))) args s 0 0 A) (F0 m 50 ls []) := by
  intro n
  induction n with
  | zero =>
    intro v1 v2 v4 v6 v8 v9 σ R h
    exact absurd h (by simp [f_X1_isLess_L50])
  | succ n ih =>
    intro v1 v2 v4 v6 v8 v9 σ R h H locs ls hP hD hS hl
    rw [f_X1_isLess_L50] at h
    refine lv_iload X.1 X.2.1 dX1_isLess_50 (lv_at hl 6 rfl) ?_
    refine lv_aload_n X.1 X.2.1 dX1_isLess_52 rfl (lv_at hl 0 rfl) ?_
    refine gX1_rows X (fun w h => (List.mem_cons_of_mem _ (List.mem_append_right _ h))) hK hP (List.mem_cons_of_mem _ (List.mem_append_left _ (List.mem_append_left _ (List.mem_of_getElem? (i := 1) rfl)))) dX1_isLess_53 ?_
    refine lv_icmp_ge (tgt := 97) X.1 X.2.1 dX1_isLess_56 (by decide) (fun c1 => ?_) (fun c1 => ?_)
    · rw [if_pos c1] at h
      refine lv_iload X.1 X.2.1 dX1_isLess_97 (lv_at hl 5 rfl) ?_
      refine lv_if_ge (tgt := 106) X.1 X.2.1 dX1_isLess_99 (by decide) (fun c2 => ?_) (fun c2 => ?_)
      · rw [if_pos c2] at h
        refine lv_iconst (v := (0 : Int32)) X.1 X.2.1 dX1_isLess_106 (by decide) ?_
        have h := sm_e h
        subst h
        exact rt_z X hr hlk rfl hK hP hD hS dX1_isLess_107
      · rw [if_neg c2] at h
        refine lv_iconst (v := (1 : Int32)) X.1 X.2.1 dX1_isLess_102 (by decide) ?_
        refine lv_goto (tgt := 107) X.1 X.2.1 dX1_isLess_103 (by decide) ?_
        have h := sm_e h
        subst h
        exact rt_z X hr hlk rfl hK hP hD hS dX1_isLess_107
    · rw [if_neg c1] at h
      refine lv_iload X.1 X.2.1 dX1_isLess_59 (lv_at hl 5 rfl) ?_
      refine lv_if_ne (tgt := 97) X.1 X.2.1 dX1_isLess_61 (by decide) (fun c3 => ?_) (fun c3 => ?_)
      · rw [if_neg c3] at h
        refine lv_iload X.1 X.2.1 dX1_isLess_97 (lv_at hl 5 rfl) ?_
        refine lv_if_ge (tgt := 106) X.1 X.2.1 dX1_isLess_99 (by decide) (fun c4 => ?_) (fun c4 => ?_)
        · rw [if_pos c4] at h
          refine lv_iconst (v := (0 : Int32)) X.1 X.2.1 dX1_isLess_106 (by decide) ?_
          have h := sm_e h
          subst h
          exact rt_z X hr hlk rfl hK hP hD hS dX1_isLess_107
        · rw [if_neg c4] at h
          refine lv_iconst (v := (1 : Int32)) X.1 X.2.1 dX1_isLess_102 (by decide) ?_
          refine lv_goto (tgt := 107) X.1 X.2.1 dX1_isLess_103 (by decide) ?_
          have h := sm_e h
          subst h
          exact rt_z X hr hlk rfl hK hP hD hS dX1_isLess_107
      · rw [if_pos c3] at h
        refine lv_aload_n X.1 X.2.1 dX1_isLess_64 rfl (lv_at hl 0 rfl) ?_
        refine gX1_cell X (fun w h => (List.mem_cons_of_mem _ (List.mem_append_right _ h))) hK hP (List.mem_cons_of_mem _ (List.mem_append_left _ (List.mem_append_left _ (List.mem_of_getElem? (i := 0) rfl)))) dX1_isLess_65 ?_
        refine lv_iload_n X.1 X.2.1 dX1_isLess_68 rfl (lv_at hl 1 rfl) ?_
        obtain ⟨g5, h⟩ := gd_e h
        refine lc_cell X hK hP g5 dX1_isLess_69 ?_
        refine lv_iload X.1 X.2.1 dX1_isLess_70 (lv_at hl 6 rfl) ?_
        obtain ⟨g6, h⟩ := gd_e h
        obtain ⟨g7, h⟩ := gd_e h
        refine lc_row X hK hP g6 g7 dX1_isLess_72 ?_
        refine lv_lload X.1 X.2.1 dX1_isLess_73 (lv_at hl 4 rfl) ?_
        refine lv_aload_n X.1 X.2.1 dX1_isLess_75 rfl (lv_at hl 0 rfl) ?_
        refine gX1_cell X (fun w h => (List.mem_cons_of_mem _ (List.mem_append_right _ h))) hK hP (List.mem_cons_of_mem _ (List.mem_append_left _ (List.mem_append_left _ (List.mem_of_getElem? (i := 0) rfl)))) dX1_isLess_76 ?_
        refine lv_iload_n X.1 X.2.1 dX1_isLess_79 rfl (lv_at hl 2 rfl) ?_
        obtain ⟨g8, h⟩ := gd_e h
        refine lc_cell X hK hP g8 dX1_isLess_80 ?_
        refine lv_iload X.1 X.2.1 dX1_isLess_81 (lv_at hl 6 rfl) ?_
        obtain ⟨g9, h⟩ := gd_e h
        obtain ⟨g10, h⟩ := gd_e h
        refine lc_row X hK hP g9 g10 dX1_isLess_83 ?_
        refine lv_lload X.1 X.2.1 dX1_isLess_84 (lv_at hl 3 rfl) ?_
        obtain ⟨r11, q12, h⟩ := bd_e h
        refine kc_s (As := [.long (c_gg σ v1.toNatClampNeg v9.toNatClampNeg), .long v6, .long (c_gg σ v2.toNatClampNeg v9.toNatClampNeg), .long v4]) (rest := []) X (k_X2_crossSign (c_gg σ v1.toNatClampNeg v9.toNatClampNeg) v6 (c_gg σ v2.toNatClampNeg v9.toNatClampNeg) v4 _ q12) (va_cwS 4 X.2.2.2.2 gX1_isLess_X2_crossSign rfl rfl rfl hd_X2_crossSign ⟨Nat.le_of_ble_eq_true rfl, Nat.le_of_ble_eq_true rfl⟩) hK hP hS hA rfl hl.1 rfl (Nat.le_of_ble_eq_true rfl) dX1_isLess_86 ⟨Nat.le_of_ble_eq_true rfl, Nat.le_of_ble_eq_true rfl⟩ (fun H locs hP hS => ?_)
        refine lv_istore (lv' := [(8, .int r11), (0, .ref (a 2)), (1, .int v1), (2, .int v2), (4, .long v4), (6, .long v6), (9, .int v9)]) X.1 X.2.1 dX1_isLess_89 hl (by decide) rfl (fun ls hl => ?_)
        obtain ⟨x13, e14, h⟩ := lt_e h
        refine lv_iinc (v := x13) (lv' := [(9, .int x13), (8, .int r11), (0, .ref (a 2)), (1, .int v1), (2, .int v2), (4, .long v4), (6, .long v6)]) X.1 X.2.1 dX1_isLess_91 hl (k := 6) rfl e14.symm (by decide) rfl (fun ls hl => ?_)
        refine lv_goto (tgt := 50) X.1 X.2.1 dX1_isLess_94 (by decide) ?_
        exact ih v1 v2 v4 v6 r11 x13 σ _ h _ _ _ hP hD hS (lv_sub hl [2, 3, 4, 5, 6, 1, 0] rfl)
def f_X1_isLess (N : Nat) (p0 : Int32) (p1 : Int32) (p2 : Int32) (σ : CS) : Option Int32 := (f_X1_weight p0 p2 σ).bind (fun r1 => (f_X1_weight p1 p2 σ).bind (fun r3 => gd (inB p0 12) ((f_X1_columnOfQ σ).bind (fun r6 => gd (inB p0 12) (gd (inB r6 26) (gd (inB p1 12) ((f_X1_columnOfQ σ).bind (fun r11 => gd (inB p1 12) (gd (inB r11 26) ((f_X2_crossSign (c_gg σ p0.toNatClampNeg r6.toNatClampNeg) r3 (c_gg σ p1.toNatClampNeg r11.toNatClampNeg) r1 ).bind (fun r15 => f_X1_isLess_L50 N N p0 p1 r1 r3 r15 (0 : Int32) σ)))))))))))
theorem hd_X1_isLess : yX1_isLess.cls = RX1 ∧ yX1_isLess.cls ≠ "java/lang/invoke/MethodHandle" ∧ yX1_isLess.cls ≠ "java/lang/invoke/VarHandle" ∧ (parseMethodDescriptor yX1_isLess.desc).map (fun d => d.parameters.length) = some 3 := by decide +kernel
set_option maxHeartbeats 4000000 in
set_option maxRecDepth 100000 in
theorem k_X1_isLess {l : Launch} {D : va_G} {k : Nat → ClassId} {a : Nat → Nat} {ρ : Nat → Nat} (N : Nat) (p0 : Int32) (p1 : Int32) (p2 : Int32) (σ : CS) (R : Int32) (h : f_X1_isLess N p0 p1 p2 σ = some R) : Ct l yX1_isLess wsX1_isLess ({ frames := 4, cells := 0, slots := 0, locals := 104 } : Room) D (cT k) (cW k a ρ σ) (cW k a ρ σ) [.ref (a 2), .int p0, .int p1, .int p2] (some (.int R)) := by
  refine ct_of (cc := cX1_isLess) (maxL := 10) (ret := (some .boolean)) (by decide) rfl (Nat.le_of_ble_eq_true rfl) ?_
  intro p e s m args below meth c A ls X hr hlk hK hA hP hD hS hl
  have X : CallFix p m c cX1_isLess 10 s args wsX1_isLess RX1 := X
  have hl : lv_has ls 10 [(0, .ref (a 2)), (1, .int p0), (2, .int p1), (3, .int p2)] := hl
  rw [f_X1_isLess] at h
  refine lv_aload_n X.1 X.2.1 dX1_isLess_0 rfl (lv_at hl 0 rfl) ?_
  refine lv_iload_n X.1 X.2.1 dX1_isLess_1 rfl (lv_at hl 1 rfl) ?_
  refine lv_iload_n X.1 X.2.1 dX1_isLess_2 rfl (lv_at hl 3 rfl) ?_
  obtain ⟨r1, q2, h⟩ := bd_e h
  refine kc_v (As := [.int p0, .int p2]) (rest := []) X (k_X1_weight p0 p2 σ _ q2) (cwV 2 X.2.2.2.2 gX1_isLess_X1_weight rfl rfl rfl hd_X1_weight ⟨Nat.le_of_ble_eq_true rfl, Nat.le_of_ble_eq_true rfl⟩) hK hP hD hS hA (va_recv hK hP (ci := 1) (q0 := 2) rfl rfl) rfl hl.1 rfl (Nat.le_of_ble_eq_true rfl) dX1_isLess_3 ⟨Nat.le_of_ble_eq_true rfl, Nat.le_of_ble_eq_true rfl⟩ (fun H locs hP hD hS => ?_)
  refine lv_lstore (lv' := [(4, .long r1), (0, .ref (a 2)), (1, .int p0), (2, .int p1), (3, .int p2)]) X.1 X.2.1 dX1_isLess_6 hl (by decide) rfl (fun ls hl => ?_)
  refine lv_aload_n X.1 X.2.1 dX1_isLess_8 rfl (lv_at hl 1 rfl) ?_
  refine lv_iload_n X.1 X.2.1 dX1_isLess_9 rfl (lv_at hl 3 rfl) ?_
  refine lv_iload_n X.1 X.2.1 dX1_isLess_10 rfl (lv_at hl 4 rfl) ?_
  obtain ⟨r3, q4, h⟩ := bd_e h
  refine kc_v (As := [.int p1, .int p2]) (rest := []) X (k_X1_weight p1 p2 σ _ q4) (cwV 2 X.2.2.2.2 gX1_isLess_X1_weight rfl rfl rfl hd_X1_weight ⟨Nat.le_of_ble_eq_true rfl, Nat.le_of_ble_eq_true rfl⟩) hK hP hD hS hA (va_recv hK hP (ci := 1) (q0 := 2) rfl rfl) rfl hl.1 rfl (Nat.le_of_ble_eq_true rfl) dX1_isLess_11 ⟨Nat.le_of_ble_eq_true rfl, Nat.le_of_ble_eq_true rfl⟩ (fun H locs hP hD hS => ?_)
  refine lv_lstore (lv' := [(6, .long r3), (4, .long r1), (0, .ref (a 2)), (1, .int p0), (2, .int p1), (3, .int p2)]) X.1 X.2.1 dX1_isLess_14 hl (by decide) rfl (fun ls hl => ?_)
  refine lv_aload_n X.1 X.2.1 dX1_isLess_16 rfl (lv_at hl 2 rfl) ?_
  refine gX1_cell X (fun w h => (List.mem_cons_of_mem _ (List.mem_append_right _ h))) hK hP (List.mem_cons_of_mem _ (List.mem_append_left _ (List.mem_append_left _ (List.mem_of_getElem? (i := 0) rfl)))) dX1_isLess_17 ?_
  refine lv_iload_n X.1 X.2.1 dX1_isLess_20 rfl (lv_at hl 3 rfl) ?_
  obtain ⟨g5, h⟩ := gd_e h
  refine lc_cell X hK hP g5 dX1_isLess_21 ?_
  refine lv_aload_n X.1 X.2.1 dX1_isLess_22 rfl (lv_at hl 2 rfl) ?_
  obtain ⟨r6, q7, h⟩ := bd_e h
  refine kc_v (As := []) (rest := [.ref (ρ (p0).toNatClampNeg)]) X (k_X1_columnOfQ σ _ q7) (cwV 0 X.2.2.2.2 gX1_isLess_X1_columnOfQ rfl rfl rfl hd_X1_columnOfQ ⟨Nat.le_of_ble_eq_true rfl, Nat.le_of_ble_eq_true rfl⟩) hK hP hD hS hA (va_recv hK hP (ci := 1) (q0 := 2) rfl rfl) rfl hl.1 rfl (Nat.le_of_ble_eq_true rfl) dX1_isLess_23 ⟨Nat.le_of_ble_eq_true rfl, Nat.le_of_ble_eq_true rfl⟩ (fun H locs hP hD hS => ?_)
  obtain ⟨g8, h⟩ := gd_e h
  obtain ⟨g9, h⟩ := gd_e h
  refine lc_row X hK hP g8 g9 dX1_isLess_26 ?_
  refine lv_lload X.1 X.2.1 dX1_isLess_27 (lv_at hl 0 rfl) ?_
  refine lv_aload_n X.1 X.2.1 dX1_isLess_29 rfl (lv_at hl 2 rfl) ?_
  refine gX1_cell X (fun w h => (List.mem_cons_of_mem _ (List.mem_append_right _ h))) hK hP (List.mem_cons_of_mem _ (List.mem_append_left _ (List.mem_append_left _ (List.mem_of_getElem? (i := 0) rfl)))) dX1_isLess_30 ?_
  refine lv_iload_n X.1 X.2.1 dX1_isLess_33 rfl (lv_at hl 4 rfl) ?_
  obtain ⟨g10, h⟩ := gd_e h
  refine lc_cell X hK hP g10 dX1_isLess_34 ?_
  refine lv_aload_n X.1 X.2.1 dX1_isLess_35 rfl (lv_at hl 2 rfl) ?_
  obtain ⟨r11, q12, h⟩ := bd_e h
  refine kc_v (As := []) (rest := [.ref (ρ (p1).toNatClampNeg), .long r3, .long (c_gg σ p0.toNatClampNeg r6.toNatClampNeg)]) X (k_X1_columnOfQ σ _ q12) (cwV 0 X.2.2.2.2 gX1_isLess_X1_columnOfQ rfl rfl rfl hd_X1_columnOfQ ⟨Nat.le_of_ble_eq_true rfl, Nat.le_of_ble_eq_true rfl⟩) hK hP hD hS hA (va_recv hK hP (ci := 1) (q0 := 2) rfl rfl) rfl hl.1 rfl (Nat.le_of_ble_eq_true rfl) dX1_isLess_36 ⟨Nat.le_of_ble_eq_true rfl, Nat.le_of_ble_eq_true rfl⟩ (fun H locs hP hD hS => ?_)
  obtain ⟨g13, h⟩ := gd_e h
  obtain ⟨g14, h⟩ := gd_e h
  refine lc_row X hK hP g13 g14 dX1_isLess_39 ?_
  refine lv_lload X.1 X.2.1 dX1_isLess_40 (lv_at hl 1 rfl) ?_
  obtain ⟨r15, q16, h⟩ := bd_e h
  refine kc_s (As := [.long (c_gg σ p0.toNatClampNeg r6.toNatClampNeg), .long r3, .long (c_gg σ p1.toNatClampNeg r11.toNatClampNeg), .long r1]) (rest := []) X (k_X2_crossSign (c_gg σ p0.toNatClampNeg r6.toNatClampNeg) r3 (c_gg σ p1.toNatClampNeg r11.toNatClampNeg) r1 _ q16) (va_cwS 4 X.2.2.2.2 gX1_isLess_X2_crossSign rfl rfl rfl hd_X2_crossSign ⟨Nat.le_of_ble_eq_true rfl, Nat.le_of_ble_eq_true rfl⟩) hK hP hS hA rfl hl.1 rfl (Nat.le_of_ble_eq_true rfl) dX1_isLess_42 ⟨Nat.le_of_ble_eq_true rfl, Nat.le_of_ble_eq_true rfl⟩ (fun H locs hP hS => ?_)
  refine lv_istore (lv' := [(8, .int r15), (6, .long r3), (4, .long r1), (0, .ref (a 2)), (1, .int p0), (2, .int p1), (3, .int p2)]) X.1 X.2.1 dX1_isLess_45 hl (by decide) rfl (fun ls hl => ?_)
  refine lv_iconst (v := (0 : Int32)) X.1 X.2.1 dX1_isLess_47 (by decide) ?_
  refine lv_istore (lv' := [(9, .int (0 : Int32)), (8, .int r15), (6, .long r3), (4, .long r1), (0, .ref (a 2)), (1, .int p0), (2, .int p1), (3, .int p2)]) X.1 X.2.1 dX1_isLess_48 hl (by decide) rfl (fun ls hl => ?_)
  exact t_X1_isLess_L50 X hr hlk hK hA N N p0 p1 r1 r3 r15 (0 : Int32) σ _ h _ _ _ hP hD hS (lv_sub hl [4, 5, 6, 3, 2, 1, 0] rfl)
def f_X1_leastRow_L4 (N : Nat) : Nat → Int32 → Int32 → Int32 → CS → Option Int32
  | 0, _, _, _, _ => none
  | n + 1, v1, v2, v3, σ => if (c_rw σ) ≤ v3 then some v2 else (f_X1_weight v3 v1 σ).bind (fun r2 => if (lg_cmp r2 (0 : Int64)) ≤ 0 then lt_ (v3 + (1 : Int32)) (fun x5 => f_X1_leastRow_L4 N n v1 v2 x5 σ) else if v2 = (-1 : Int32) then lt_ (v3 + (1 : Int32)) (fun x8 => f_X1_leastRow_L4 N n v1 v3 x8 σ) else (f_X1_isLess N v3 v2 v1 σ).bind (fun r10 => if r10 = 0 then lt_ (v3 + (1 : Int32)) (fun x13 => f_X1_leastRow_L4 N n v1 v2 x13 σ) else lt_ (v3 + (1 : Int32)) (fun x15 => f_X1_leastRow_L4 N n v1 v3 x15 σ)))
set_option maxHeartbeats 4000000 in
set_option maxRecDepth 100000 in
theorem t_X1_leastRow_L4 {p : Program} {l : Launch} {e : Env} {s : State} {m : MethodId} {args : Array Value} {below : List Frame} {meth : Method} {c : Code} {D : va_G} {A : Nat → Prop} {k : Nat → ClassId} {a : Nat → Nat} {ρ : Nat → Nat} (X : CallFix p m c cX1_leastRow 4 s args wsX1_leastRow RX1) (hr : meth.sig.returnType = some .int) (hlk : meth.locks = false) (hK : va_K D vwCl (cT k) s) (hA : ∀ q : Nat, s.heap.size ≤ q → A q) (N : Nat) : ∀ (n : Nat) (v1 : Int32) (v2 : Int32) (v3 : Int32) (σ : CS) (R : Int32), f_X1_leastRow_L4 N n v1 v2 v3 σ = some R → ∀ (H : Heap) (locs : List Loc) (ls : Array Slot), va_P D vwCl (cW k a ρ σ) H → va_D A (cW k a ρ σ) → va_S A s.heap H locs → lv_has ls 4 [(0, .ref (a 2)), (1, .int v1), (2, .int v2), (3, .int v3)] → W p l e ({ frames := 5, cells := 0, slots := 0, locals := 133 } : Room) s m args below meth c H locs 0 0 (MQ below (cQ D (cT k) A (cW k a ρ σ) (some (.int R))) args s 0 0 A) (F0 m 4 ls []) := by
  intro n
  induction n with
  | zero =>
    intro v1 v2 v3 σ R h
    exact absurd h (by simp [f_X1_leastRow_L4])
  | succ n ih =>
    intro v1 v2 v3 σ R h H locs ls hP hD hS hl
    rw [f_X1_leastRow_L4] at h
    refine lv_iload_n X.1 X.2.1 dX1_leastRow_4 rfl (lv_at hl 3 rfl) ?_
    refine lv_aload_n X.1 X.2.1 dX1_leastRow_5 rfl (lv_at hl 0 rfl) ?_
    refine gX1_rows X (fun w h => (List.mem_cons_of_mem _ (List.mem_append_right _ h))) hK hP (List.mem_cons_of_mem _ (List.mem_append_left _ (List.mem_append_left _ (List.mem_of_getElem? (i := 0) rfl)))) dX1_leastRow_6 ?_
    refine lv_icmp_ge (tgt := 46) X.1 X.2.1 dX1_leastRow_9 (by decide) (fun c1 => ?_) (fun c1 => ?_)
    · rw [if_pos c1] at h
      refine lv_iload_n X.1 X.2.1 dX1_leastRow_46 rfl (lv_at hl 2 rfl) ?_
      have h := sm_e h
      subst h
      exact rt_i X hr hlk hK hP hD hS dX1_leastRow_47
    · rw [if_neg c1] at h
      refine lv_aload_n X.1 X.2.1 dX1_leastRow_12 rfl (lv_at hl 0 rfl) ?_
      refine lv_iload_n X.1 X.2.1 dX1_leastRow_13 rfl (lv_at hl 3 rfl) ?_
      refine lv_iload_n X.1 X.2.1 dX1_leastRow_14 rfl (lv_at hl 1 rfl) ?_
      obtain ⟨r2, q3, h⟩ := bd_e h
      refine kc_v (As := [.int v3, .int v1]) (rest := []) X (k_X1_weight v3 v1 σ _ q3) (cwV 2 X.2.2.2.2 gX1_leastRow_X1_weight rfl rfl rfl hd_X1_weight ⟨Nat.le_of_ble_eq_true rfl, Nat.le_of_ble_eq_true rfl⟩) hK hP hD hS hA (va_recv hK hP (ci := 1) (q0 := 2) rfl rfl) rfl hl.1 rfl (Nat.le_of_ble_eq_true rfl) dX1_leastRow_15 ⟨Nat.le_of_ble_eq_true rfl, Nat.le_of_ble_eq_true rfl⟩ (fun H locs hP hD hS => ?_)
      refine lv_lconst (v := (0 : Int64)) X.1 X.2.1 dX1_leastRow_18 (by decide) ?_
      refine W.lcmp X.1 X.2.1 dX1_leastRow_19 ?_
      refine lv_if_le (tgt := 40) X.1 X.2.1 dX1_leastRow_20 (by decide) (fun c4 => ?_) (fun c4 => ?_)
      · rw [if_pos c4] at h
        obtain ⟨x5, e6, h⟩ := lt_e h
        refine lv_iinc (v := x5) (lv' := [(3, .int x5), (0, .ref (a 2)), (1, .int v1), (2, .int v2)]) X.1 X.2.1 dX1_leastRow_40 hl (k := 3) rfl e6.symm (by decide) rfl (fun ls hl => ?_)
        refine lv_goto (tgt := 4) X.1 X.2.1 dX1_leastRow_43 (by decide) ?_
        exact ih v1 v2 x5 σ _ h _ _ _ hP hD hS (lv_sub hl [1, 2, 3, 0] rfl)
      · rw [if_neg c4] at h
        refine lv_iload_n X.1 X.2.1 dX1_leastRow_23 rfl (lv_at hl 2 rfl) ?_
        refine lv_iconst (v := (-1 : Int32)) X.1 X.2.1 dX1_leastRow_24 (by decide) ?_
        refine lv_icmp_eq (tgt := 38) X.1 X.2.1 dX1_leastRow_25 (by decide) (fun c7 => ?_) (fun c7 => ?_)
        · rw [if_pos c7] at h
          refine lv_iload_n X.1 X.2.1 dX1_leastRow_38 rfl (lv_at hl 3 rfl) ?_
          refine lv_istore_n (lv' := [(2, .int v3), (0, .ref (a 2)), (1, .int v1), (3, .int v3)]) X.1 X.2.1 dX1_leastRow_39 rfl hl (by decide) rfl (fun ls hl => ?_)
          obtain ⟨x8, e9, h⟩ := lt_e h
          refine lv_iinc (v := x8) (lv' := [(3, .int x8), (2, .int v3), (0, .ref (a 2)), (1, .int v1)]) X.1 X.2.1 dX1_leastRow_40 hl (k := 3) rfl e9.symm (by decide) rfl (fun ls hl => ?_)
          refine lv_goto (tgt := 4) X.1 X.2.1 dX1_leastRow_43 (by decide) ?_
          exact ih v1 v3 x8 σ _ h _ _ _ hP hD hS (lv_sub hl [2, 3, 1, 0] rfl)
        · rw [if_neg c7] at h
          refine lv_aload_n X.1 X.2.1 dX1_leastRow_28 rfl (lv_at hl 0 rfl) ?_
          refine lv_iload_n X.1 X.2.1 dX1_leastRow_29 rfl (lv_at hl 3 rfl) ?_
          refine lv_iload_n X.1 X.2.1 dX1_leastRow_30 rfl (lv_at hl 2 rfl) ?_
          refine lv_iload_n X.1 X.2.1 dX1_leastRow_31 rfl (lv_at hl 1 rfl) ?_
          obtain ⟨r10, q11, h⟩ := bd_e h
          refine kc_v (As := [.int v3, .int v2, .int v1]) (rest := []) X (k_X1_isLess N v3 v2 v1 σ _ q11) (cwV 3 X.2.2.2.2 gX1_leastRow_X1_isLess rfl rfl rfl hd_X1_isLess ⟨Nat.le_of_ble_eq_true rfl, Nat.le_of_ble_eq_true rfl⟩) hK hP hD hS hA (va_recv hK hP (ci := 1) (q0 := 2) rfl rfl) rfl hl.1 rfl (Nat.le_of_ble_eq_true rfl) dX1_leastRow_32 ⟨Nat.le_of_ble_eq_true rfl, Nat.le_of_ble_eq_true rfl⟩ (fun H locs hP hD hS => ?_)
          refine lv_if_eq (tgt := 40) X.1 X.2.1 dX1_leastRow_35 (by decide) (fun c12 => ?_) (fun c12 => ?_)
          · rw [if_pos c12] at h
            obtain ⟨x13, e14, h⟩ := lt_e h
            refine lv_iinc (v := x13) (lv' := [(3, .int x13), (0, .ref (a 2)), (1, .int v1), (2, .int v2)]) X.1 X.2.1 dX1_leastRow_40 hl (k := 3) rfl e14.symm (by decide) rfl (fun ls hl => ?_)
            refine lv_goto (tgt := 4) X.1 X.2.1 dX1_leastRow_43 (by decide) ?_
            exact ih v1 v2 x13 σ _ h _ _ _ hP hD hS (lv_sub hl [1, 2, 3, 0] rfl)
          · rw [if_neg c12] at h
            refine lv_iload_n X.1 X.2.1 dX1_leastRow_38 rfl (lv_at hl 3 rfl) ?_
            refine lv_istore_n (lv' := [(2, .int v3), (0, .ref (a 2)), (1, .int v1), (3, .int v3)]) X.1 X.2.1 dX1_leastRow_39 rfl hl (by decide) rfl (fun ls hl => ?_)
            obtain ⟨x15, e16, h⟩ := lt_e h
            refine lv_iinc (v := x15) (lv' := [(3, .int x15), (2, .int v3), (0, .ref (a 2)), (1, .int v1)]) X.1 X.2.1 dX1_leastRow_40 hl (k := 3) rfl e16.symm (by decide) rfl (fun ls hl => ?_)
            refine lv_goto (tgt := 4) X.1 X.2.1 dX1_leastRow_43 (by decide) ?_
            exact ih v1 v3 x15 σ _ h _ _ _ hP hD hS (lv_sub hl [2, 3, 1, 0] rfl)
def f_X1_leastRow (N : Nat) (p0 : Int32) (σ : CS) : Option Int32 := f_X1_leastRow_L4 N N p0 (-1 : Int32) (0 : Int32) σ
theorem hd_X1_leastRow : yX1_leastRow.cls = RX1 ∧ yX1_leastRow.cls ≠ "java/lang/invoke/MethodHandle" ∧ yX1_leastRow.cls ≠ "java/lang/invoke/VarHandle" ∧ (parseMethodDescriptor yX1_leastRow.desc).map (fun d => d.parameters.length) = some 1 := by decide +kernel
set_option maxHeartbeats 4000000 in
set_option maxRecDepth 100000 in
theorem k_X1_leastRow {l : Launch} {D : va_G} {k : Nat → ClassId} {a : Nat → Nat} {ρ : Nat → Nat} (N : Nat) (p0 : Int32) (σ : CS) (R : Int32) (h : f_X1_leastRow N p0 σ = some R) : Ct l yX1_leastRow wsX1_leastRow ({ frames := 5, cells := 0, slots := 0, locals := 133 } : Room) D (cT k) (cW k a ρ σ) (cW k a ρ σ) [.ref (a 2), .int p0] (some (.int R)) := by
  refine ct_of (cc := cX1_leastRow) (maxL := 4) (ret := (some .int)) (by decide) rfl (Nat.le_of_ble_eq_true rfl) ?_
  intro p e s m args below meth c A ls X hr hlk hK hA hP hD hS hl
  have X : CallFix p m c cX1_leastRow 4 s args wsX1_leastRow RX1 := X
  have hl : lv_has ls 4 [(0, .ref (a 2)), (1, .int p0)] := hl
  rw [f_X1_leastRow] at h
  refine lv_iconst (v := (-1 : Int32)) X.1 X.2.1 dX1_leastRow_0 (by decide) ?_
  refine lv_istore_n (lv' := [(2, .int (-1 : Int32)), (0, .ref (a 2)), (1, .int p0)]) X.1 X.2.1 dX1_leastRow_1 rfl hl (by decide) rfl (fun ls hl => ?_)
  refine lv_iconst (v := (0 : Int32)) X.1 X.2.1 dX1_leastRow_2 (by decide) ?_
  refine lv_istore_n (lv' := [(3, .int (0 : Int32)), (2, .int (-1 : Int32)), (0, .ref (a 2)), (1, .int p0)]) X.1 X.2.1 dX1_leastRow_3 rfl hl (by decide) rfl (fun ls hl => ?_)
  exact t_X1_leastRow_L4 X hr hlk hK hA N N p0 (-1 : Int32) (0 : Int32) σ _ h _ _ _ hP hD hS (lv_sub hl [2, 3, 1, 0] rfl)
def f_X1_negate_L2 (N : Nat) : Nat → Int32 → Int32 → CS → Option CS
  | 0, _, _, _ => none
  | n + 1, v1, v2, σ => (f_X1_columnOfQ σ).bind (fun r1 => if r1 < v2 then some σ else gd (inB v1 12) (gd (inB v1 12) (gd (inB v1 12) (gd (inB v2 26) (gd (inB v1 12) (gd (inB v2 26) (lt_ (s_gg σ (upG (c_gg σ) v1.toNatClampNeg v2.toNatClampNeg (-(c_gg σ v1.toNatClampNeg v2.toNatClampNeg)))) (fun σ10 => lt_ (v2 + (1 : Int32)) (fun x12 => f_X1_negate_L2 N n v1 x12 σ10)))))))))
set_option maxHeartbeats 4000000 in
set_option maxRecDepth 100000 in
theorem t_X1_negate_L2 {p : Program} {l : Launch} {e : Env} {s : State} {m : MethodId} {args : Array Value} {below : List Frame} {meth : Method} {c : Code} {D : va_G} {A : Nat → Prop} {k : Nat → ClassId} {a : Nat → Nat} {ρ : Nat → Nat} (X : CallFix p m c cX1_negate 3 s args wsX1_negate RX1) (hr : meth.sig.returnType = none) (hlk : meth.locks = false) (hK : va_K D vwCl (cT k) s) (hA : ∀ q : Nat, s.heap.size ≤ q → A q) (N : Nat) : ∀ (n : Nat) (v1 : Int32) (v2 : Int32) (σ : CS) (R : CS), f_X1_negate_L2 N n v1 v2 σ = some R → ∀ (H : Heap) (locs : List Loc) (ls : Array Slot), va_P D vwCl (cW k a ρ σ) H → va_D A (cW k a ρ σ) → va_S A s.heap H locs → lv_has ls 3 [(0, .ref (a 2)), (1, .int v1), (2, .int v2)] → W p l e ({ frames := 1, cells := 0, slots := 0, locals := 20 } : Room) s m args below meth c H locs 0 0 (MQ below (cQ D (cT k) A (cW k a ρ R) none) args s 0 0 A) (F0 m 2 ls []) := by
  intro n
  induction n with
  | zero =>
    intro v1 v2 σ R h
    exact absurd h (by simp [f_X1_negate_L2])
  | succ n ih =>
    intro v1 v2 σ R h H locs ls hP hD hS hl
    rw [f_X1_negate_L2] at h
    refine lv_iload_n X.1 X.2.1 dX1_negate_2 rfl (lv_at hl 2 rfl) ?_
    refine lv_aload_n X.1 X.2.1 dX1_negate_3 rfl (lv_at hl 0 rfl) ?_
    obtain ⟨r1, q2, h⟩ := bd_e h
    refine kc_v (As := []) (rest := [.int v2]) X (k_X1_columnOfQ σ _ q2) (cwV 0 X.2.2.2.2 gX1_negate_X1_columnOfQ rfl rfl rfl hd_X1_columnOfQ ⟨Nat.le_of_ble_eq_true rfl, Nat.le_of_ble_eq_true rfl⟩) hK hP hD hS hA (va_recv hK hP (ci := 1) (q0 := 2) rfl rfl) rfl hl.1 rfl (Nat.le_of_ble_eq_true rfl) dX1_negate_4 ⟨Nat.le_of_ble_eq_true rfl, Nat.le_of_ble_eq_true rfl⟩ (fun H locs hP hD hS => ?_)
    refine lv_icmp_gt (tgt := 33) X.1 X.2.1 dX1_negate_7 (by decide) (fun c3 => ?_) (fun c3 => ?_)
    · rw [if_pos c3] at h
      have h := sm_e h
      subst h
      exact rt_v X hr hlk hK hP hD hS dX1_negate_33
    · rw [if_neg c3] at h
      refine lv_aload_n X.1 X.2.1 dX1_negate_10 rfl (lv_at hl 0 rfl) ?_
      refine gX1_cell X (fun w h => (List.mem_cons_of_mem _ (List.mem_append_right _ h))) hK hP (List.mem_cons_of_mem _ (List.mem_append_left _ (List.mem_of_getElem? (i := 0) rfl))) dX1_negate_11 ?_
      refine lv_iload_n X.1 X.2.1 dX1_negate_14 rfl (lv_at hl 1 rfl) ?_
      obtain ⟨g4, h⟩ := gd_e h
      refine lc_cell X hK hP g4 dX1_negate_15 ?_
      refine lv_iload_n X.1 X.2.1 dX1_negate_16 rfl (lv_at hl 2 rfl) ?_
      refine lv_aload_n X.1 X.2.1 dX1_negate_17 rfl (lv_at hl 0 rfl) ?_
      refine gX1_cell X (fun w h => (List.mem_cons_of_mem _ (List.mem_append_right _ h))) hK hP (List.mem_cons_of_mem _ (List.mem_append_left _ (List.mem_of_getElem? (i := 0) rfl))) dX1_negate_18 ?_
      refine lv_iload_n X.1 X.2.1 dX1_negate_21 rfl (lv_at hl 1 rfl) ?_
      obtain ⟨g5, h⟩ := gd_e h
      refine lc_cell X hK hP g5 dX1_negate_22 ?_
      refine lv_iload_n X.1 X.2.1 dX1_negate_23 rfl (lv_at hl 2 rfl) ?_
      obtain ⟨g6, h⟩ := gd_e h
      obtain ⟨g7, h⟩ := gd_e h
      refine lc_row X hK hP g6 g7 dX1_negate_24 ?_
      refine lv_lneg X.1 X.2.1 dX1_negate_25 ?_
      obtain ⟨g8, h⟩ := gd_e h
      obtain ⟨g9, h⟩ := gd_e h
      obtain ⟨σ10, e11, h⟩ := lt_e h
      refine tc_row X hK hP hD hS g8 g9 e11 dX1_negate_26 (fun H locs hP hD hS => ?_)
      obtain ⟨x12, e13, h⟩ := lt_e h
      refine lv_iinc (v := x12) (lv' := [(2, .int x12), (0, .ref (a 2)), (1, .int v1)]) X.1 X.2.1 dX1_negate_27 hl (k := 2) rfl e13.symm (by decide) rfl (fun ls hl => ?_)
      refine lv_goto (tgt := 2) X.1 X.2.1 dX1_negate_30 (by decide) ?_
      exact ih v1 x12 σ10 _ h _ _ _ hP hD hS (lv_sub hl [1, 2, 0] rfl)
def f_X1_negate (N : Nat) (p0 : Int32) (σ : CS) : Option CS := f_X1_negate_L2 N N p0 (0 : Int32) σ
theorem hd_X1_negate : yX1_negate.cls = RX1 ∧ yX1_negate.cls ≠ "java/lang/invoke/MethodHandle" ∧ yX1_negate.cls ≠ "java/lang/invoke/VarHandle" ∧ (parseMethodDescriptor yX1_negate.desc).map (fun d => d.parameters.length) = some 1 := by decide +kernel
set_option maxHeartbeats 4000000 in
set_option maxRecDepth 100000 in
theorem k_X1_negate {l : Launch} {D : va_G} {k : Nat → ClassId} {a : Nat → Nat} {ρ : Nat → Nat} (N : Nat) (p0 : Int32) (σ : CS) (R : CS) (h : f_X1_negate N p0 σ = some R) : Ct l yX1_negate wsX1_negate ({ frames := 1, cells := 0, slots := 0, locals := 20 } : Room) D (cT k) (cW k a ρ σ) (cW k a ρ R) [.ref (a 2), .int p0] none := by
  refine ct_of (cc := cX1_negate) (maxL := 3) (ret := none) (by decide) rfl (Nat.le_of_ble_eq_true rfl) ?_
  intro p e s m args below meth c A ls X hr hlk hK hA hP hD hS hl
  have X : CallFix p m c cX1_negate 3 s args wsX1_negate RX1 := X
  have hl : lv_has ls 3 [(0, .ref (a 2)), (1, .int p0)] := hl
  rw [f_X1_negate] at h
  refine lv_iconst (v := (0 : Int32)) X.1 X.2.1 dX1_negate_0 (by decide) ?_
  refine lv_istore_n (lv' := [(2, .int (0 : Int32)), (0, .ref (a 2)), (1, .int p0)]) X.1 X.2.1 dX1_negate_1 rfl hl (by decide) rfl (fun ls hl => ?_)
  exact t_X1_negate_L2 X hr hlk hK hA N N p0 (0 : Int32) σ _ h _ _ _ hP hD hS (lv_sub hl [1, 2, 0] rfl)
def f_J6_numberOfTrailingZeros_0f7a4 (p0 : Int32) : Option Int32 := lt_ ((p0 ^^^ (-1 : Int32)) &&& (p0 - (1 : Int32))) (fun x1 => if 0 < x1 then if x1 ≤ (65536 : Int32) then if x1 ≤ (256 : Int32) then if x1 ≤ (16 : Int32) then if x1 ≤ (4 : Int32) then some ((1 : Int32) + ((x1.toUInt32 >>> ((1 : Int32).toUInt32 &&& Int32.toUInt32 31)).toInt32)) else lt_ ((1 : Int32) + (2 : Int32)) (fun x8 => lt_ ((x1.toUInt32 >>> ((2 : Int32).toUInt32 &&& Int32.toUInt32 31)).toInt32) (fun x10 => some (x8 + ((x10.toUInt32 >>> ((1 : Int32).toUInt32 &&& Int32.toUInt32 31)).toInt32)))) else lt_ ((1 : Int32) + (4 : Int32)) (fun x12 => lt_ ((x1.toUInt32 >>> ((4 : Int32).toUInt32 &&& Int32.toUInt32 31)).toInt32) (fun x14 => if x14 ≤ (4 : Int32) then some (x12 + ((x14.toUInt32 >>> ((1 : Int32).toUInt32 &&& Int32.toUInt32 31)).toInt32)) else lt_ (x12 + (2 : Int32)) (fun x17 => lt_ ((x14.toUInt32 >>> ((2 : Int32).toUInt32 &&& Int32.toUInt32 31)).toInt32) (fun x19 => some (x17 + ((x19.toUInt32 >>> ((1 : Int32).toUInt32 &&& Int32.toUInt32 31)).toInt32)))))) else lt_ ((1 : Int32) + (8 : Int32)) (fun x21 => lt_ ((x1.toUInt32 >>> ((8 : Int32).toUInt32 &&& Int32.toUInt32 31)).toInt32) (fun x23 => if x23 ≤ (16 : Int32) then if x23 ≤ (4 : Int32) then some (x21 + ((x23.toUInt32 >>> ((1 : Int32).toUInt32 &&& Int32.toUInt32 31)).toInt32)) else lt_ (x21 + (2 : Int32)) (fun x27 => lt_ ((x23.toUInt32 >>> ((2 : Int32).toUInt32 &&& Int32.toUInt32 31)).toInt32) (fun x29 => some (x27 + ((x29.toUInt32 >>> ((1 : Int32).toUInt32 &&& Int32.toUInt32 31)).toInt32)))) else lt_ (x21 + (4 : Int32)) (fun x31 => lt_ ((x23.toUInt32 >>> ((4 : Int32).toUInt32 &&& Int32.toUInt32 31)).toInt32) (fun x33 => if x33 ≤ (4 : Int32) then some (x31 + ((x33.toUInt32 >>> ((1 : Int32).toUInt32 &&& Int32.toUInt32 31)).toInt32)) else lt_ (x31 + (2 : Int32)) (fun x36 => lt_ ((x33.toUInt32 >>> ((2 : Int32).toUInt32 &&& Int32.toUInt32 31)).toInt32) (fun x38 => some (x36 + ((x38.toUInt32 >>> ((1 : Int32).toUInt32 &&& Int32.toUInt32 31)).toInt32)))))))) else lt_ ((1 : Int32) + (16 : Int32)) (fun x40 => lt_ ((x1.toUInt32 >>> ((16 : Int32).toUInt32 &&& Int32.toUInt32 31)).toInt32) (fun x42 => if x42 ≤ (256 : Int32) then if x42 ≤ (16 : Int32) then if x42 ≤ (4 : Int32) then some (x40 + ((x42.toUInt32 >>> ((1 : Int32).toUInt32 &&& Int32.toUInt32 31)).toInt32)) else lt_ (x40 + (2 : Int32)) (fun x47 => lt_ ((x42.toUInt32 >>> ((2 : Int32).toUInt32 &&& Int32.toUInt32 31)).toInt32) (fun x49 => some (x47 + ((x49.toUInt32 >>> ((1 : Int32).toUInt32 &&& Int32.toUInt32 31)).toInt32)))) else lt_ (x40 + (4 : Int32)) (fun x51 => lt_ ((x42.toUInt32 >>> ((4 : Int32).toUInt32 &&& Int32.toUInt32 31)).toInt32) (fun x53 => if x53 ≤ (4 : Int32) then some (x51 + ((x53.toUInt32 >>> ((1 : Int32).toUInt32 &&& Int32.toUInt32 31)).toInt32)) else lt_ (x51 + (2 : Int32)) (fun x56 => lt_ ((x53.toUInt32 >>> ((2 : Int32).toUInt32 &&& Int32.toUInt32 31)).toInt32) (fun x58 => some (x56 + ((x58.toUInt32 >>> ((1 : Int32).toUInt32 &&& Int32.toUInt32 31)).toInt32)))))) else lt_ (x40 + (8 : Int32)) (fun x60 => lt_ ((x42.toUInt32 >>> ((8 : Int32).toUInt32 &&& Int32.toUInt32 31)).toInt32) (fun x62 => if x62 ≤ (16 : Int32) then if x62 ≤ (4 : Int32) then some (x60 + ((x62.toUInt32 >>> ((1 : Int32).toUInt32 &&& Int32.toUInt32 31)).toInt32)) else lt_ (x60 + (2 : Int32)) (fun x66 => lt_ ((x62.toUInt32 >>> ((2 : Int32).toUInt32 &&& Int32.toUInt32 31)).toInt32) (fun x68 => some (x66 + ((x68.toUInt32 >>> ((1 : Int32).toUInt32 &&& Int32.toUInt32 31)).toInt32)))) else lt_ (x60 + (4 : Int32)) (fun x70 => lt_ ((x62.toUInt32 >>> ((4 : Int32).toUInt32 &&& Int32.toUInt32 31)).toInt32) (fun x72 => if x72 ≤ (4 : Int32) then some (x70 + ((x72.toUInt32 >>> ((1 : Int32).toUInt32 &&& Int32.toUInt32 31)).toInt32)) else lt_ (x70 + (2 : Int32)) (fun x75 => lt_ ((x72.toUInt32 >>> ((2 : Int32).toUInt32 &&& Int32.toUInt32 31)).toInt32) (fun x77 => some (x75 + ((x77.toUInt32 >>> ((1 : Int32).toUInt32 &&& Int32.toUInt32 31)).toInt32)))))))))) else some (x1 &&& (32 : Int32)))
theorem hd_J6_numberOfTrailingZeros_0f7a4 : yJ6_numberOfTrailingZeros_0f7a4.cls ≠ "java/lang/invoke/MethodHandle" ∧ yJ6_numberOfTrailingZeros_0f7a4.cls ≠ "java/lang/invoke/VarHandle" ∧ (parseMethodDescriptor yJ6_numberOfTrailingZeros_0f7a4.desc).map (fun d => d.parameters.length) = some 1 := by decide +kernel
set_option maxHeartbeats 4000000 in
set_option maxRecDepth 100000 in
theorem k_J6_numberOfTrailingZeros_0f7a4 {l : Launch} {D : va_G} (p0 : Int32) (R : Int32) (h : f_J6_numberOfTrailingZeros_0f7a4 p0 = some R) : Ct l yJ6_numberOfTrailingZeros_0f7a4 wsJ6_numberOfTrailingZeros_0f7a4 ({ frames := 0, cells := 0, slots := 0, locals := 0 } : Room) D ([]) ([]) ([]) [.int p0] (some (.int R)) := by
  refine ct_of (cc := cJ6_numberOfTrailingZeros_0f7a4) (maxL := 2) (ret := (some .int)) (by decide) rfl (Nat.le_of_ble_eq_true rfl) ?_
  intro p e s m args below meth c A ls X hr hlk hK hA hP hD hS hl
  have X : CallFix p m c cJ6_numberOfTrailingZeros_0f7a4 2 s args wsJ6_numberOfTrailingZeros_0f7a4 RJ6 := X
  have hl : lv_has ls 2 [(0, .int p0)] := hl
  rw [f_J6_numberOfTrailingZeros_0f7a4] at h
  refine lv_iload_n X.1 X.2.1 dJ6_numberOfTrailingZeros_0f7a4_0 rfl (lv_at hl 0 rfl) ?_
  refine lv_iconst (v := (-1 : Int32)) X.1 X.2.1 dJ6_numberOfTrailingZeros_0f7a4_1 (by decide) ?_
  refine lv_ixor X.1 X.2.1 dJ6_numberOfTrailingZeros_0f7a4_2 ?_
  refine lv_iload_n X.1 X.2.1 dJ6_numberOfTrailingZeros_0f7a4_3 rfl (lv_at hl 0 rfl) ?_
  refine lv_iconst (v := (1 : Int32)) X.1 X.2.1 dJ6_numberOfTrailingZeros_0f7a4_4 (by decide) ?_
  refine lv_isub X.1 X.2.1 dJ6_numberOfTrailingZeros_0f7a4_5 ?_
  refine lv_iand X.1 X.2.1 dJ6_numberOfTrailingZeros_0f7a4_6 ?_
  obtain ⟨x1, e2, h⟩ := lt_e h
  refine nm_i e2 ?_
  refine lv_istore_n (lv' := [(0, .int x1)]) X.1 X.2.1 dJ6_numberOfTrailingZeros_0f7a4_7 rfl hl (by decide) rfl (fun ls hl => ?_)
  refine lv_iload_n X.1 X.2.1 dJ6_numberOfTrailingZeros_0f7a4_8 rfl (lv_at hl 0 rfl) ?_
  refine lv_if_gt (tgt := 17) X.1 X.2.1 dJ6_numberOfTrailingZeros_0f7a4_9 (by decide) (fun c3 => ?_) (fun c3 => ?_)
  · rw [if_pos c3] at h
    refine lv_iconst (v := (1 : Int32)) X.1 X.2.1 dJ6_numberOfTrailingZeros_0f7a4_17 (by decide) ?_
    refine lv_istore_n (lv' := [(1, .int (1 : Int32)), (0, .int x1)]) X.1 X.2.1 dJ6_numberOfTrailingZeros_0f7a4_18 rfl hl (by decide) rfl (fun ls hl => ?_)
    refine lv_iload_n X.1 X.2.1 dJ6_numberOfTrailingZeros_0f7a4_19 rfl (lv_at hl 1 rfl) ?_
    refine lv_ldcw (v := (65536 : Int32)) X.1 X.2.1 X.2.2.2.1 (X.2.2.2.2 _ (List.mem_cons_of_mem _ (List.mem_of_getElem? (i := 0) rfl))) dJ6_numberOfTrailingZeros_0f7a4_20 ?_
    refine lv_icmp_le (tgt := 34) X.1 X.2.1 dJ6_numberOfTrailingZeros_0f7a4_23 (by decide) (fun c4 => ?_) (fun c4 => ?_)
    · rw [if_pos c4] at h
      refine lv_iload_n X.1 X.2.1 dJ6_numberOfTrailingZeros_0f7a4_34 rfl (lv_at hl 1 rfl) ?_
      refine lv_sipush (v := (256 : Int32)) X.1 X.2.1 dJ6_numberOfTrailingZeros_0f7a4_35 (by decide) ?_
      refine lv_icmp_le (tgt := 49) X.1 X.2.1 dJ6_numberOfTrailingZeros_0f7a4_38 (by decide) (fun c5 => ?_) (fun c5 => ?_)
      · rw [if_pos c5] at h
        refine lv_iload_n X.1 X.2.1 dJ6_numberOfTrailingZeros_0f7a4_49 rfl (lv_at hl 1 rfl) ?_
        refine lv_bipush (v := (16 : Int32)) X.1 X.2.1 dJ6_numberOfTrailingZeros_0f7a4_50 (by decide) ?_
        refine lv_icmp_le (tgt := 62) X.1 X.2.1 dJ6_numberOfTrailingZeros_0f7a4_52 (by decide) (fun c6 => ?_) (fun c6 => ?_)
        · rw [if_pos c6] at h
          refine lv_iload_n X.1 X.2.1 dJ6_numberOfTrailingZeros_0f7a4_62 rfl (lv_at hl 1 rfl) ?_
          refine lv_iconst (v := (4 : Int32)) X.1 X.2.1 dJ6_numberOfTrailingZeros_0f7a4_63 (by decide) ?_
          refine lv_icmp_le (tgt := 74) X.1 X.2.1 dJ6_numberOfTrailingZeros_0f7a4_64 (by decide) (fun c7 => ?_) (fun c7 => ?_)
          · rw [if_pos c7] at h
            refine lv_iload_n X.1 X.2.1 dJ6_numberOfTrailingZeros_0f7a4_74 rfl (lv_at hl 0 rfl) ?_
            refine lv_iload_n X.1 X.2.1 dJ6_numberOfTrailingZeros_0f7a4_75 rfl (lv_at hl 1 rfl) ?_
            refine lv_iconst (v := (1 : Int32)) X.1 X.2.1 dJ6_numberOfTrailingZeros_0f7a4_76 (by decide) ?_
            refine lv_iushr (v := ((x1.toUInt32 >>> ((1 : Int32).toUInt32 &&& Int32.toUInt32 31)).toInt32)) X.1 X.2.1 dJ6_numberOfTrailingZeros_0f7a4_77 rfl ?_
            refine lv_iadd X.1 X.2.1 dJ6_numberOfTrailingZeros_0f7a4_78 ?_
            have h := sm_e h
            subst h
            exact rt_i X hr hlk hK hP hD hS dJ6_numberOfTrailingZeros_0f7a4_79
          · rw [if_neg c7] at h
            obtain ⟨x8, e9, h⟩ := lt_e h
            refine lv_iinc (v := x8) (lv' := [(1, .int x8), (0, .int x1)]) X.1 X.2.1 dJ6_numberOfTrailingZeros_0f7a4_67 hl (k := 0) rfl e9.symm (by decide) rfl (fun ls hl => ?_)
            refine lv_iload_n X.1 X.2.1 dJ6_numberOfTrailingZeros_0f7a4_70 rfl (lv_at hl 1 rfl) ?_
            refine lv_iconst (v := (2 : Int32)) X.1 X.2.1 dJ6_numberOfTrailingZeros_0f7a4_71 (by decide) ?_
            refine lv_iushr (v := ((x1.toUInt32 >>> ((2 : Int32).toUInt32 &&& Int32.toUInt32 31)).toInt32)) X.1 X.2.1 dJ6_numberOfTrailingZeros_0f7a4_72 rfl ?_
            obtain ⟨x10, e11, h⟩ := lt_e h
            refine nm_i e11 ?_
            refine lv_istore_n (lv' := [(0, .int x10), (1, .int x8)]) X.1 X.2.1 dJ6_numberOfTrailingZeros_0f7a4_73 rfl hl (by decide) rfl (fun ls hl => ?_)
            refine lv_iload_n X.1 X.2.1 dJ6_numberOfTrailingZeros_0f7a4_74 rfl (lv_at hl 1 rfl) ?_
            refine lv_iload_n X.1 X.2.1 dJ6_numberOfTrailingZeros_0f7a4_75 rfl (lv_at hl 0 rfl) ?_
            refine lv_iconst (v := (1 : Int32)) X.1 X.2.1 dJ6_numberOfTrailingZeros_0f7a4_76 (by decide) ?_
            refine lv_iushr (v := ((x10.toUInt32 >>> ((1 : Int32).toUInt32 &&& Int32.toUInt32 31)).toInt32)) X.1 X.2.1 dJ6_numberOfTrailingZeros_0f7a4_77 rfl ?_
            refine lv_iadd X.1 X.2.1 dJ6_numberOfTrailingZeros_0f7a4_78 ?_
            have h := sm_e h
            subst h
            exact rt_i X hr hlk hK hP hD hS dJ6_numberOfTrailingZeros_0f7a4_79
        · rw [if_neg c6] at h
          obtain ⟨x12, e13, h⟩ := lt_e h
          refine lv_iinc (v := x12) (lv' := [(1, .int x12), (0, .int x1)]) X.1 X.2.1 dJ6_numberOfTrailingZeros_0f7a4_55 hl (k := 0) rfl e13.symm (by decide) rfl (fun ls hl => ?_)
          refine lv_iload_n X.1 X.2.1 dJ6_numberOfTrailingZeros_0f7a4_58 rfl (lv_at hl 1 rfl) ?_
          refine lv_iconst (v := (4 : Int32)) X.1 X.2.1 dJ6_numberOfTrailingZeros_0f7a4_59 (by decide) ?_
          refine lv_iushr (v := ((x1.toUInt32 >>> ((4 : Int32).toUInt32 &&& Int32.toUInt32 31)).toInt32)) X.1 X.2.1 dJ6_numberOfTrailingZeros_0f7a4_60 rfl ?_
          obtain ⟨x14, e15, h⟩ := lt_e h
          refine nm_i e15 ?_
          refine lv_istore_n (lv' := [(0, .int x14), (1, .int x12)]) X.1 X.2.1 dJ6_numberOfTrailingZeros_0f7a4_61 rfl hl (by decide) rfl (fun ls hl => ?_)
          refine lv_iload_n X.1 X.2.1 dJ6_numberOfTrailingZeros_0f7a4_62 rfl (lv_at hl 0 rfl) ?_
          refine lv_iconst (v := (4 : Int32)) X.1 X.2.1 dJ6_numberOfTrailingZeros_0f7a4_63 (by decide) ?_
          refine lv_icmp_le (tgt := 74) X.1 X.2.1 dJ6_numberOfTrailingZeros_0f7a4_64 (by decide) (fun c16 => ?_) (fun c16 => ?_)
          · rw [if_pos c16] at h
            refine lv_iload_n X.1 X.2.1 dJ6_numberOfTrailingZeros_0f7a4_74 rfl (lv_at hl 1 rfl) ?_
            refine lv_iload_n X.1 X.2.1 dJ6_numberOfTrailingZeros_0f7a4_75 rfl (lv_at hl 0 rfl) ?_
            refine lv_iconst (v := (1 : Int32)) X.1 X.2.1 dJ6_numberOfTrailingZeros_0f7a4_76 (by decide) ?_
            refine lv_iushr (v := ((x14.toUInt32 >>> ((1 : Int32).toUInt32 &&& Int32.toUInt32 31)).toInt32)) X.1 X.2.1 dJ6_numberOfTrailingZeros_0f7a4_77 rfl ?_
            refine lv_iadd X.1 X.2.1 dJ6_numberOfTrailingZeros_0f7a4_78 ?_
            have h := sm_e h
            subst h
            exact rt_i X hr hlk hK hP hD hS dJ6_numberOfTrailingZeros_0f7a4_79
          · rw [if_neg c16] at h
            obtain ⟨x17, e18, h⟩ := lt_e h
            refine lv_iinc (v := x17) (lv' := [(1, .int x17), (0, .int x14)]) X.1 X.2.1 dJ6_numberOfTrailingZeros_0f7a4_67 hl (k := 1) rfl e18.symm (by decide) rfl (fun ls hl => ?_)
            refine lv_iload_n X.1 X.2.1 dJ6_numberOfTrailingZeros_0f7a4_70 rfl (lv_at hl 1 rfl) ?_
            refine lv_iconst (v := (2 : Int32)) X.1 X.2.1 dJ6_numberOfTrailingZeros_0f7a4_71 (by decide) ?_
            refine lv_iushr (v := ((x14.toUInt32 >>> ((2 : Int32).toUInt32 &&& Int32.toUInt32 31)).toInt32)) X.1 X.2.1 dJ6_numberOfTrailingZeros_0f7a4_72 rfl ?_
            obtain ⟨x19, e20, h⟩ := lt_e h
            refine nm_i e20 ?_
            refine lv_istore_n (lv' := [(0, .int x19), (1, .int x17)]) X.1 X.2.1 dJ6_numberOfTrailingZeros_0f7a4_73 rfl hl (by decide) rfl (fun ls hl => ?_)
            refine lv_iload_n X.1 X.2.1 dJ6_numberOfTrailingZeros_0f7a4_74 rfl (lv_at hl 1 rfl) ?_
            refine lv_iload_n X.1 X.2.1 dJ6_numberOfTrailingZeros_0f7a4_75 rfl (lv_at hl 0 rfl) ?_
            refine lv_iconst (v := (1 : Int32)) X.1 X.2.1 dJ6_numberOfTrailingZeros_0f7a4_76 (by decide) ?_
            refine lv_iushr (v := ((x19.toUInt32 >>> ((1 : Int32).toUInt32 &&& Int32.toUInt32 31)).toInt32)) X.1 X.2.1 dJ6_numberOfTrailingZeros_0f7a4_77 rfl ?_
            refine lv_iadd X.1 X.2.1 dJ6_numberOfTrailingZeros_0f7a4_78 ?_
            have h := sm_e h
            subst h
            exact rt_i X hr hlk hK hP hD hS dJ6_numberOfTrailingZeros_0f7a4_79
      · rw [if_neg c5] at h
        obtain ⟨x21, e22, h⟩ := lt_e h
        refine lv_iinc (v := x21) (lv' := [(1, .int x21), (0, .int x1)]) X.1 X.2.1 dJ6_numberOfTrailingZeros_0f7a4_41 hl (k := 0) rfl e22.symm (by decide) rfl (fun ls hl => ?_)
        refine lv_iload_n X.1 X.2.1 dJ6_numberOfTrailingZeros_0f7a4_44 rfl (lv_at hl 1 rfl) ?_
        refine lv_bipush (v := (8 : Int32)) X.1 X.2.1 dJ6_numberOfTrailingZeros_0f7a4_45 (by decide) ?_
        refine lv_iushr (v := ((x1.toUInt32 >>> ((8 : Int32).toUInt32 &&& Int32.toUInt32 31)).toInt32)) X.1 X.2.1 dJ6_numberOfTrailingZeros_0f7a4_47 rfl ?_
        obtain ⟨x23, e24, h⟩ := lt_e h
        refine nm_i e24 ?_
        refine lv_istore_n (lv' := [(0, .int x23), (1, .int x21)]) X.1 X.2.1 dJ6_numberOfTrailingZeros_0f7a4_48 rfl hl (by decide) rfl (fun ls hl => ?_)
        refine lv_iload_n X.1 X.2.1 dJ6_numberOfTrailingZeros_0f7a4_49 rfl (lv_at hl 0 rfl) ?_
        refine lv_bipush (v := (16 : Int32)) X.1 X.2.1 dJ6_numberOfTrailingZeros_0f7a4_50 (by decide) ?_
        refine lv_icmp_le (tgt := 62) X.1 X.2.1 dJ6_numberOfTrailingZeros_0f7a4_52 (by decide) (fun c25 => ?_) (fun c25 => ?_)
        · rw [if_pos c25] at h
          refine lv_iload_n X.1 X.2.1 dJ6_numberOfTrailingZeros_0f7a4_62 rfl (lv_at hl 0 rfl) ?_
          refine lv_iconst (v := (4 : Int32)) X.1 X.2.1 dJ6_numberOfTrailingZeros_0f7a4_63 (by decide) ?_
          refine lv_icmp_le (tgt := 74) X.1 X.2.1 dJ6_numberOfTrailingZeros_0f7a4_64 (by decide) (fun c26 => ?_) (fun c26 => ?_)
          · rw [if_pos c26] at h
            refine lv_iload_n X.1 X.2.1 dJ6_numberOfTrailingZeros_0f7a4_74 rfl (lv_at hl 1 rfl) ?_
            refine lv_iload_n X.1 X.2.1 dJ6_numberOfTrailingZeros_0f7a4_75 rfl (lv_at hl 0 rfl) ?_
            refine lv_iconst (v := (1 : Int32)) X.1 X.2.1 dJ6_numberOfTrailingZeros_0f7a4_76 (by decide) ?_
            refine lv_iushr (v := ((x23.toUInt32 >>> ((1 : Int32).toUInt32 &&& Int32.toUInt32 31)).toInt32)) X.1 X.2.1 dJ6_numberOfTrailingZeros_0f7a4_77 rfl ?_
            refine lv_iadd X.1 X.2.1 dJ6_numberOfTrailingZeros_0f7a4_78 ?_
            have h := sm_e h
            subst h
            exact rt_i X hr hlk hK hP hD hS dJ6_numberOfTrailingZeros_0f7a4_79
          · rw [if_neg c26] at h
            obtain ⟨x27, e28, h⟩ := lt_e h
            refine lv_iinc (v := x27) (lv' := [(1, .int x27), (0, .int x23)]) X.1 X.2.1 dJ6_numberOfTrailingZeros_0f7a4_67 hl (k := 1) rfl e28.symm (by decide) rfl (fun ls hl => ?_)
            refine lv_iload_n X.1 X.2.1 dJ6_numberOfTrailingZeros_0f7a4_70 rfl (lv_at hl 1 rfl) ?_
            refine lv_iconst (v := (2 : Int32)) X.1 X.2.1 dJ6_numberOfTrailingZeros_0f7a4_71 (by decide) ?_
            refine lv_iushr (v := ((x23.toUInt32 >>> ((2 : Int32).toUInt32 &&& Int32.toUInt32 31)).toInt32)) X.1 X.2.1 dJ6_numberOfTrailingZeros_0f7a4_72 rfl ?_
            obtain ⟨x29, e30, h⟩ := lt_e h
            refine nm_i e30 ?_
            refine lv_istore_n (lv' := [(0, .int x29), (1, .int x27)]) X.1 X.2.1 dJ6_numberOfTrailingZeros_0f7a4_73 rfl hl (by decide) rfl (fun ls hl => ?_)
            refine lv_iload_n X.1 X.2.1 dJ6_numberOfTrailingZeros_0f7a4_74 rfl (lv_at hl 1 rfl) ?_
            refine lv_iload_n X.1 X.2.1 dJ6_numberOfTrailingZeros_0f7a4_75 rfl (lv_at hl 0 rfl) ?_
            refine lv_iconst (v := (1 : Int32)) X.1 X.2.1 dJ6_numberOfTrailingZeros_0f7a4_76 (by decide) ?_
            refine lv_iushr (v := ((x29.toUInt32 >>> ((1 : Int32).toUInt32 &&& Int32.toUInt32 31)).toInt32)) X.1 X.2.1 dJ6_numberOfTrailingZeros_0f7a4_77 rfl ?_
            refine lv_iadd X.1 X.2.1 dJ6_numberOfTrailingZeros_0f7a4_78 ?_
            have h := sm_e h
            subst h
            exact rt_i X hr hlk hK hP hD hS dJ6_numberOfTrailingZeros_0f7a4_79
        · rw [if_neg c25] at h
          obtain ⟨x31, e32, h⟩ := lt_e h
          refine lv_iinc (v := x31) (lv' := [(1, .int x31), (0, .int x23)]) X.1 X.2.1 dJ6_numberOfTrailingZeros_0f7a4_55 hl (k := 1) rfl e32.symm (by decide) rfl (fun ls hl => ?_)
          refine lv_iload_n X.1 X.2.1 dJ6_numberOfTrailingZeros_0f7a4_58 rfl (lv_at hl 1 rfl) ?_
          refine lv_iconst (v := (4 : Int32)) X.1 X.2.1 dJ6_numberOfTrailingZeros_0f7a4_59 (by decide) ?_
          refine lv_iushr (v := ((x23.toUInt32 >>> ((4 : Int32).toUInt32 &&& Int32.toUInt32 31)).toInt32)) X.1 X.2.1 dJ6_numberOfTrailingZeros_0f7a4_60 rfl ?_
          obtain ⟨x33, e34, h⟩ := lt_e h
          refine nm_i e34 ?_
          refine lv_istore_n (lv' := [(0, .int x33), (1, .int x31)]) X.1 X.2.1 dJ6_numberOfTrailingZeros_0f7a4_61 rfl hl (by decide) rfl (fun ls hl => ?_)
          refine lv_iload_n X.1 X.2.1 dJ6_numberOfTrailingZeros_0f7a4_62 rfl (lv_at hl 0 rfl) ?_
          refine lv_iconst (v := (4 : Int32)) X.1 X.2.1 dJ6_numberOfTrailingZeros_0f7a4_63 (by decide) ?_
          refine lv_icmp_le (tgt := 74) X.1 X.2.1 dJ6_numberOfTrailingZeros_0f7a4_64 (by decide) (fun c35 => ?_) (fun c35 => ?_)
          · rw [if_pos c35] at h
            refine lv_iload_n X.1 X.2.1 dJ6_numberOfTrailingZeros_0f7a4_74 rfl (lv_at hl 1 rfl) ?_
            refine lv_iload_n X.1 X.2.1 dJ6_numberOfTrailingZeros_0f7a4_75 rfl (lv_at hl 0 rfl) ?_
            refine lv_iconst (v := (1 : Int32)) X.1 X.2.1 dJ6_numberOfTrailingZeros_0f7a4_76 (by decide) ?_
            refine lv_iushr (v := ((x33.toUInt32 >>> ((1 : Int32).toUInt32 &&& Int32.toUInt32 31)).toInt32)) X.1 X.2.1 dJ6_numberOfTrailingZeros_0f7a4_77 rfl ?_
            refine lv_iadd X.1 X.2.1 dJ6_numberOfTrailingZeros_0f7a4_78 ?_
            have h := sm_e h
            subst h
            exact rt_i X hr hlk hK hP hD hS dJ6_numberOfTrailingZeros_0f7a4_79
          · rw [if_neg c35] at h
            obtain ⟨x36, e37, h⟩ := lt_e h
            refine lv_iinc (v := x36) (lv' := [(1, .int x36), (0, .int x33)]) X.1 X.2.1 dJ6_numberOfTrailingZeros_0f7a4_67 hl (k := 1) rfl e37.symm (by decide) rfl (fun ls hl => ?_)
            refine lv_iload_n X.1 X.2.1 dJ6_numberOfTrailingZeros_0f7a4_70 rfl (lv_at hl 1 rfl) ?_
            refine lv_iconst (v := (2 : Int32)) X.1 X.2.1 dJ6_numberOfTrailingZeros_0f7a4_71 (by decide) ?_
            refine lv_iushr (v := ((x33.toUInt32 >>> ((2 : Int32).toUInt32 &&& Int32.toUInt32 31)).toInt32)) X.1 X.2.1 dJ6_numberOfTrailingZeros_0f7a4_72 rfl ?_
            obtain ⟨x38, e39, h⟩ := lt_e h
            refine nm_i e39 ?_
            refine lv_istore_n (lv' := [(0, .int x38), (1, .int x36)]) X.1 X.2.1 dJ6_numberOfTrailingZeros_0f7a4_73 rfl hl (by decide) rfl (fun ls hl => ?_)
            refine lv_iload_n X.1 X.2.1 dJ6_numberOfTrailingZeros_0f7a4_74 rfl (lv_at hl 1 rfl) ?_
            refine lv_iload_n X.1 X.2.1 dJ6_numberOfTrailingZeros_0f7a4_75 rfl (lv_at hl 0 rfl) ?_
            refine lv_iconst (v := (1 : Int32)) X.1 X.2.1 dJ6_numberOfTrailingZeros_0f7a4_76 (by decide) ?_
            refine lv_iushr (v := ((x38.toUInt32 >>> ((1 : Int32).toUInt32 &&& Int32.toUInt32 31)).toInt32)) X.1 X.2.1 dJ6_numberOfTrailingZeros_0f7a4_77 rfl ?_
            refine lv_iadd X.1 X.2.1 dJ6_numberOfTrailingZeros_0f7a4_78 ?_
            have h := sm_e h
            subst h
            exact rt_i X hr hlk hK hP hD hS dJ6_numberOfTrailingZeros_0f7a4_79
    · rw [if_neg c4] at h
      obtain ⟨x40, e41, h⟩ := lt_e h
      refine lv_iinc (v := x40) (lv' := [(1, .int x40), (0, .int x1)]) X.1 X.2.1 dJ6_numberOfTrailingZeros_0f7a4_26 hl (k := 0) rfl e41.symm (by decide) rfl (fun ls hl => ?_)
      refine lv_iload_n X.1 X.2.1 dJ6_numberOfTrailingZeros_0f7a4_29 rfl (lv_at hl 1 rfl) ?_
      refine lv_bipush (v := (16 : Int32)) X.1 X.2.1 dJ6_numberOfTrailingZeros_0f7a4_30 (by decide) ?_
      refine lv_iushr (v := ((x1.toUInt32 >>> ((16 : Int32).toUInt32 &&& Int32.toUInt32 31)).toInt32)) X.1 X.2.1 dJ6_numberOfTrailingZeros_0f7a4_32 rfl ?_
      obtain ⟨x42, e43, h⟩ := lt_e h
      refine nm_i e43 ?_
      refine lv_istore_n (lv' := [(0, .int x42), (1, .int x40)]) X.1 X.2.1 dJ6_numberOfTrailingZeros_0f7a4_33 rfl hl (by decide) rfl (fun ls hl => ?_)
      refine lv_iload_n X.1 X.2.1 dJ6_numberOfTrailingZeros_0f7a4_34 rfl (lv_at hl 0 rfl) ?_
      refine lv_sipush (v := (256 : Int32)) X.1 X.2.1 dJ6_numberOfTrailingZeros_0f7a4_35 (by decide) ?_
      refine lv_icmp_le (tgt := 49) X.1 X.2.1 dJ6_numberOfTrailingZeros_0f7a4_38 (by decide) (fun c44 => ?_) (fun c44 => ?_)
      · rw [if_pos c44] at h
        refine lv_iload_n X.1 X.2.1 dJ6_numberOfTrailingZeros_0f7a4_49 rfl (lv_at hl 0 rfl) ?_
        refine lv_bipush (v := (16 : Int32)) X.1 X.2.1 dJ6_numberOfTrailingZeros_0f7a4_50 (by decide) ?_
        refine lv_icmp_le (tgt := 62) X.1 X.2.1 dJ6_numberOfTrailingZeros_0f7a4_52 (by decide) (fun c45 => ?_) (fun c45 => ?_)
        · rw [if_pos c45] at h
          refine lv_iload_n X.1 X.2.1 dJ6_numberOfTrailingZeros_0f7a4_62 rfl (lv_at hl 0 rfl) ?_
          refine lv_iconst (v := (4 : Int32)) X.1 X.2.1 dJ6_numberOfTrailingZeros_0f7a4_63 (by decide) ?_
          refine lv_icmp_le (tgt := 74) X.1 X.2.1 dJ6_numberOfTrailingZeros_0f7a4_64 (by decide) (fun c46 => ?_) (fun c46 => ?_)
          · rw [if_pos c46] at h
            refine lv_iload_n X.1 X.2.1 dJ6_numberOfTrailingZeros_0f7a4_74 rfl (lv_at hl 1 rfl) ?_
            refine lv_iload_n X.1 X.2.1 dJ6_numberOfTrailingZeros_0f7a4_75 rfl (lv_at hl 0 rfl) ?_
            refine lv_iconst (v := (1 : Int32)) X.1 X.2.1 dJ6_numberOfTrailingZeros_0f7a4_76 (by decide) ?_
            refine lv_iushr (v := ((x42.toUInt32 >>> ((1 : Int32).toUInt32 &&& Int32.toUInt32 31)).toInt32)) X.1 X.2.1 dJ6_numberOfTrailingZeros_0f7a4_77 rfl ?_
            refine lv_iadd X.1 X.2.1 dJ6_numberOfTrailingZeros_0f7a4_78 ?_
            have h := sm_e h
            subst h
            exact rt_i X hr hlk hK hP hD hS dJ6_numberOfTrailingZeros_0f7a4_79
          · rw [if_neg c46] at h
            obtain ⟨x47, e48, h⟩ := lt_e h
            refine lv_iinc (v := x47) (lv' := [(1, .int x47), (0, .int x42)]) X.1 X.2.1 dJ6_numberOfTrailingZeros_0f7a4_67 hl (k := 1) rfl e48.symm (by decide) rfl (fun ls hl => ?_)
            refine lv_iload_n X.1 X.2.1 dJ6_numberOfTrailingZeros_0f7a4_70 rfl (lv_at hl 1 rfl) ?_
            refine lv_iconst (v := (2 : Int32)) X.1 X.2.1 dJ6_numberOfTrailingZeros_0f7a4_71 (by decide) ?_
            refine lv_iushr (v := ((x42.toUInt32 >>> ((2 : Int32).toUInt32 &&& Int32.toUInt32 31)).toInt32)) X.1 X.2.1 dJ6_numberOfTrailingZeros_0f7a4_72 rfl ?_
            obtain ⟨x49, e50, h⟩ := lt_e h
            refine nm_i e50 ?_
            refine lv_istore_n (lv' := [(0, .int x49), (1, .int x47)]) X.1 X.2.1 dJ6_numberOfTrailingZeros_0f7a4_73 rfl hl (by decide) rfl (fun ls hl => ?_)
            refine lv_iload_n X.1 X.2.1 dJ6_numberOfTrailingZeros_0f7a4_74 rfl (lv_at hl 1 rfl) ?_
            refine lv_iload_n X.1 X.2.1 dJ6_numberOfTrailingZeros_0f7a4_75 rfl (lv_at hl 0 rfl) ?_
            refine lv_iconst (v := (1 : Int32)) X.1 X.2.1 dJ6_numberOfTrailingZeros_0f7a4_76 (by decide) ?_
            refine lv_iushr (v := ((x49.toUInt32 >>> ((1 : Int32).toUInt32 &&& Int32.toUInt32 31)).toInt32)) X.1 X.2.1 dJ6_numberOfTrailingZeros_0f7a4_77 rfl ?_
            refine lv_iadd X.1 X.2.1 dJ6_numberOfTrailingZeros_0f7a4_78 ?_
            have h := sm_e h
            subst h
            exact rt_i X hr hlk hK hP hD hS dJ6_numberOfTrailingZeros_0f7a4_79
        · rw [if_neg c45] at h
          obtain ⟨x51, e52, h⟩ := lt_e h
          refine lv_iinc (v := x51) (lv' := [(1, .int x51), (0, .int x42)]) X.1 X.2.1 dJ6_numberOfTrailingZeros_0f7a4_55 hl (k := 1) rfl e52.symm (by decide) rfl (fun ls hl => ?_)
          refine lv_iload_n X.1 X.2.1 dJ6_numberOfTrailingZeros_0f7a4_58 rfl (lv_at hl 1 rfl) ?_
          refine lv_iconst (v := (4 : Int32)) X.1 X.2.1 dJ6_numberOfTrailingZeros_0f7a4_59 (by decide) ?_
          refine lv_iushr (v := ((x42.toUInt32 >>> ((4 : Int32).toUInt32 &&& Int32.toUInt32 31)).toInt32)) X.1 X.2.1 dJ6_numberOfTrailingZeros_0f7a4_60 rfl ?_
          obtain ⟨x53, e54, h⟩ := lt_e h
          refine nm_i e54 ?_
          refine lv_istore_n (lv' := [(0, .int x53), (1, .int x51)]) X.1 X.2.1 dJ6_numberOfTrailingZeros_0f7a4_61 rfl hl (by decide) rfl (fun ls hl => ?_)
          refine lv_iload_n X.1 X.2.1 dJ6_numberOfTrailingZeros_0f7a4_62 rfl (lv_at hl 0 rfl) ?_
          refine lv_iconst (v := (4 : Int32)) X.1 X.2.1 dJ6_numberOfTrailingZeros_0f7a4_63 (by decide) ?_
          refine lv_icmp_le (tgt := 74) X.1 X.2.1 dJ6_numberOfTrailingZeros_0f7a4_64 (by decide) (fun c55 => ?_) (fun c55 => ?_)
          · rw [if_pos c55] at h
            refine lv_iload_n X.1 X.2.1 dJ6_numberOfTrailingZeros_0f7a4_74 rfl (lv_at hl 1 rfl) ?_
            refine lv_iload_n X.1 X.2.1 dJ6_numberOfTrailingZeros_0f7a4_75 rfl (lv_at hl 0 rfl) ?_
            refine lv_iconst (v := (1 : Int32)) X.1 X.2.1 dJ6_numberOfTrailingZeros_0f7a4_76 (by decide) ?_
            refine lv_iushr (v := ((x53.toUInt32 >>> ((1 : Int32).toUInt32 &&& Int32.toUInt32 31)).toInt32)) X.1 X.2.1 dJ6_numberOfTrailingZeros_0f7a4_77 rfl ?_
            refine lv_iadd X.1 X.2.1 dJ6_numberOfTrailingZeros_0f7a4_78 ?_
            have h := sm_e h
            subst h
            exact rt_i X hr hlk hK hP hD hS dJ6_numberOfTrailingZeros_0f7a4_79
          · rw [if_neg c55] at h
            obtain ⟨x56, e57, h⟩ := lt_e h
            refine lv_iinc (v := x56) (lv' := [(1, .int x56), (0, .int x53)]) X.1 X.2.1 dJ6_numberOfTrailingZeros_0f7a4_67 hl (k := 1) rfl e57.symm (by decide) rfl (fun ls hl => ?_)
            refine lv_iload_n X.1 X.2.1 dJ6_numberOfTrailingZeros_0f7a4_70 rfl (lv_at hl 1 rfl) ?_
            refine lv_iconst (v := (2 : Int32)) X.1 X.2.1 dJ6_numberOfTrailingZeros_0f7a4_71 (by decide) ?_
            refine lv_iushr (v := ((x53.toUInt32 >>> ((2 : Int32).toUInt32 &&& Int32.toUInt32 31)).toInt32)) X.1 X.2.1 dJ6_numberOfTrailingZeros_0f7a4_72 rfl ?_
            obtain ⟨x58, e59, h⟩ := lt_e h
            refine nm_i e59 ?_
            refine lv_istore_n (lv' := [(0, .int x58), (1, .int x56)]) X.1 X.2.1 dJ6_numberOfTrailingZeros_0f7a4_73 rfl hl (by decide) rfl (fun ls hl => ?_)
            refine lv_iload_n X.1 X.2.1 dJ6_numberOfTrailingZeros_0f7a4_74 rfl (lv_at hl 1 rfl) ?_
            refine lv_iload_n X.1 X.2.1 dJ6_numberOfTrailingZeros_0f7a4_75 rfl (lv_at hl 0 rfl) ?_
            refine lv_iconst (v := (1 : Int32)) X.1 X.2.1 dJ6_numberOfTrailingZeros_0f7a4_76 (by decide) ?_
            refine lv_iushr (v := ((x58.toUInt32 >>> ((1 : Int32).toUInt32 &&& Int32.toUInt32 31)).toInt32)) X.1 X.2.1 dJ6_numberOfTrailingZeros_0f7a4_77 rfl ?_
            refine lv_iadd X.1 X.2.1 dJ6_numberOfTrailingZeros_0f7a4_78 ?_
            have h := sm_e h
            subst h
            exact rt_i X hr hlk hK hP hD hS dJ6_numberOfTrailingZeros_0f7a4_79
      · rw [if_neg c44] at h
        obtain ⟨x60, e61, h⟩ := lt_e h
        refine lv_iinc (v := x60) (lv' := [(1, .int x60), (0, .int x42)]) X.1 X.2.1 dJ6_numberOfTrailingZeros_0f7a4_41 hl (k := 1) rfl e61.symm (by decide) rfl (fun ls hl => ?_)
        refine lv_iload_n X.1 X.2.1 dJ6_numberOfTrailingZeros_0f7a4_44 rfl (lv_at hl 1 rfl) ?_
        refine lv_bipush (v := (8 : Int32)) X.1 X.2.1 dJ6_numberOfTrailingZeros_0f7a4_45 (by decide) ?_
        refine lv_iushr (v := ((x42.toUInt32 >>> ((8 : Int32).toUInt32 &&& Int32.toUInt32 31)).toInt32)) X.1 X.2.1 dJ6_numberOfTrailingZeros_0f7a4_47 rfl ?_
        obtain ⟨x62, e63, h⟩ := lt_e h
        refine nm_i e63 ?_
        refine lv_istore_n (lv' := [(0, .int x62), (1, .int x60)]) X.1 X.2.1 dJ6_numberOfTrailingZeros_0f7a4_48 rfl hl (by decide) rfl (fun ls hl => ?_)
        refine lv_iload_n X.1 X.2.1 dJ6_numberOfTrailingZeros_0f7a4_49 rfl (lv_at hl 0 rfl) ?_
        refine lv_bipush (v := (16 : Int32)) X.1 X.2.1 dJ6_numberOfTrailingZeros_0f7a4_50 (by decide) ?_
        refine lv_icmp_le (tgt := 62) X.1 X.2.1 dJ6_numberOfTrailingZeros_0f7a4_52 (by decide) (fun c64 => ?_) (fun c64 => ?_)
        · rw [if_pos c64] at h
          refine lv_iload_n X.1 X.2.1 dJ6_numberOfTrailingZeros_0f7a4_62 rfl (lv_at hl 0 rfl) ?_
          refine lv_iconst (v := (4 : Int32)) X.1 X.2.1 dJ6_numberOfTrailingZeros_0f7a4_63 (by decide) ?_
          refine lv_icmp_le (tgt := 74) X.1 X.2.1 dJ6_numberOfTrailingZeros_0f7a4_64 (by decide) (fun c65 => ?_) (fun c65 => ?_)
          · rw [if_pos c65] at h
            refine lv_iload_n X.1 X.2.1 dJ6_numberOfTrailingZeros_0f7a4_74 rfl (lv_at hl 1 rfl) ?_
            refine lv_iload_n X.1 X.2.1 dJ6_numberOfTrailingZeros_0f7a4_75 rfl (lv_at hl 0 rfl) ?_
            refine lv_iconst (v := (1 : Int32)) X.1 X.2.1 dJ6_numberOfTrailingZeros_0f7a4_76 (by decide) ?_
            refine lv_iushr (v := ((x62.toUInt32 >>> ((1 : Int32).toUInt32 &&& Int32.toUInt32 31)).toInt32)) X.1 X.2.1 dJ6_numberOfTrailingZeros_0f7a4_77 rfl ?_
            refine lv_iadd X.1 X.2.1 dJ6_numberOfTrailingZeros_0f7a4_78 ?_
            have h := sm_e h
            subst h
            exact rt_i X hr hlk hK hP hD hS dJ6_numberOfTrailingZeros_0f7a4_79
          · rw [if_neg c65] at h
            obtain ⟨x66, e67, h⟩ := lt_e h
            refine lv_iinc (v := x66) (lv' := [(1, .int x66), (0, .int x62)]) X.1 X.2.1 dJ6_numberOfTrailingZeros_0f7a4_67 hl (k := 1) rfl e67.symm (by decide) rfl (fun ls hl => ?_)
            refine lv_iload_n X.1 X.2.1 dJ6_numberOfTrailingZeros_0f7a4_70 rfl (lv_at hl 1 rfl) ?_
            refine lv_iconst (v := (2 : Int32)) X.1 X.2.1 dJ6_numberOfTrailingZeros_0f7a4_71 (by decide) ?_
            refine lv_iushr (v := ((x62.toUInt32 >>> ((2 : Int32).toUInt32 &&& Int32.toUInt32 31)).toInt32)) X.1 X.2.1 dJ6_numberOfTrailingZeros_0f7a4_72 rfl ?_
            obtain ⟨x68, e69, h⟩ := lt_e h
            refine nm_i e69 ?_
            refine lv_istore_n (lv' := [(0, .int x68), (1, .int x66)]) X.1 X.2.1 dJ6_numberOfTrailingZeros_0f7a4_73 rfl hl (by decide) rfl (fun ls hl => ?_)
            refine lv_iload_n X.1 X.2.1 dJ6_numberOfTrailingZeros_0f7a4_74 rfl (lv_at hl 1 rfl) ?_
            refine lv_iload_n X.1 X.2.1 dJ6_numberOfTrailingZeros_0f7a4_75 rfl (lv_at hl 0 rfl) ?_
            refine lv_iconst (v := (1 : Int32)) X.1 X.2.1 dJ6_numberOfTrailingZeros_0f7a4_76 (by decide) ?_
            refine lv_iushr (v := ((x68.toUInt32 >>> ((1 : Int32).toUInt32 &&& Int32.toUInt32 31)).toInt32)) X.1 X.2.1 dJ6_numberOfTrailingZeros_0f7a4_77 rfl ?_
            refine lv_iadd X.1 X.2.1 dJ6_numberOfTrailingZeros_0f7a4_78 ?_
            have h := sm_e h
            subst h
            exact rt_i X hr hlk hK hP hD hS dJ6_numberOfTrailingZeros_0f7a4_79
        · rw [if_neg c64] at h
          obtain ⟨x70, e71, h⟩ := lt_e h
          refine lv_iinc (v := x70) (lv' := [(1, .int x70), (0, .int x62)]) X.1 X.2.1 dJ6_numberOfTrailingZeros_0f7a4_55 hl (k := 1) rfl e71.symm (by decide) rfl (fun ls hl => ?_)
          refine lv_iload_n X.1 X.2.1 dJ6_numberOfTrailingZeros_0f7a4_58 rfl (lv_at hl 1 rfl) ?_
          refine lv_iconst (v := (4 : Int32)) X.1 X.2.1 dJ6_numberOfTrailingZeros_0f7a4_59 (by decide) ?_
          refine lv_iushr (v := ((x62.toUInt32 >>> ((4 : Int32).toUInt32 &&& Int32.toUInt32 31)).toInt32)) X.1 X.2.1 dJ6_numberOfTrailingZeros_0f7a4_60 rfl ?_
          obtain ⟨x72, e73, h⟩ := lt_e h
          refine nm_i e73 ?_
          refine lv_istore_n (lv' := [(0, .int x72), (1, .int x70)]) X.1 X.2.1 dJ6_numberOfTrailingZeros_0f7a4_61 rfl hl (by decide) rfl (fun ls hl => ?_)
          refine lv_iload_n X.1 X.2.1 dJ6_numberOfTrailingZeros_0f7a4_62 rfl (lv_at hl 0 rfl) ?_
          refine lv_iconst (v := (4 : Int32)) X.1 X.2.1 dJ6_numberOfTrailingZeros_0f7a4_63 (by decide) ?_
          refine lv_icmp_le (tgt := 74) X.1 X.2.1 dJ6_numberOfTrailingZeros_0f7a4_64 (by decide) (fun c74 => ?_) (fun c74 => ?_)
          · rw [if_pos c74] at h
            refine lv_iload_n X.1 X.2.1 dJ6_numberOfTrailingZeros_0f7a4_74 rfl (lv_at hl 1 rfl) ?_
            refine lv_iload_n X.1 X.2.1 dJ6_numberOfTrailingZeros_0f7a4_75 rfl (lv_at hl 0 rfl) ?_
            refine lv_iconst (v := (1 : Int32)) X.1 X.2.1 dJ6_numberOfTrailingZeros_0f7a4_76 (by decide) ?_
            refine lv_iushr (v := ((x72.toUInt32 >>> ((1 : Int32).toUInt32 &&& Int32.toUInt32 31)).toInt32)) X.1 X.2.1 dJ6_numberOfTrailingZeros_0f7a4_77 rfl ?_
            refine lv_iadd X.1 X.2.1 dJ6_numberOfTrailingZeros_0f7a4_78 ?_
            have h := sm_e h
            subst h
            exact rt_i X hr hlk hK hP hD hS dJ6_numberOfTrailingZeros_0f7a4_79
          · rw [if_neg c74] at h
            obtain ⟨x75, e76, h⟩ := lt_e h
            refine lv_iinc (v := x75) (lv' := [(1, .int x75), (0, .int x72)]) X.1 X.2.1 dJ6_numberOfTrailingZeros_0f7a4_67 hl (k := 1) rfl e76.symm (by decide) rfl (fun ls hl => ?_)
            refine lv_iload_n X.1 X.2.1 dJ6_numberOfTrailingZeros_0f7a4_70 rfl (lv_at hl 1 rfl) ?_
            refine lv_iconst (v := (2 : Int32)) X.1 X.2.1 dJ6_numberOfTrailingZeros_0f7a4_71 (by decide) ?_
            refine lv_iushr (v := ((x72.toUInt32 >>> ((2 : Int32).toUInt32 &&& Int32.toUInt32 31)).toInt32)) X.1 X.2.1 dJ6_numberOfTrailingZeros_0f7a4_72 rfl ?_
            obtain ⟨x77, e78, h⟩ := lt_e h
            refine nm_i e78 ?_
            refine lv_istore_n (lv' := [(0, .int x77), (1, .int x75)]) X.1 X.2.1 dJ6_numberOfTrailingZeros_0f7a4_73 rfl hl (by decide) rfl (fun ls hl => ?_)
            refine lv_iload_n X.1 X.2.1 dJ6_numberOfTrailingZeros_0f7a4_74 rfl (lv_at hl 1 rfl) ?_
            refine lv_iload_n X.1 X.2.1 dJ6_numberOfTrailingZeros_0f7a4_75 rfl (lv_at hl 0 rfl) ?_
            refine lv_iconst (v := (1 : Int32)) X.1 X.2.1 dJ6_numberOfTrailingZeros_0f7a4_76 (by decide) ?_
            refine lv_iushr (v := ((x77.toUInt32 >>> ((1 : Int32).toUInt32 &&& Int32.toUInt32 31)).toInt32)) X.1 X.2.1 dJ6_numberOfTrailingZeros_0f7a4_77 rfl ?_
            refine lv_iadd X.1 X.2.1 dJ6_numberOfTrailingZeros_0f7a4_78 ?_
            have h := sm_e h
            subst h
            exact rt_i X hr hlk hK hP hD hS dJ6_numberOfTrailingZeros_0f7a4_79
  · rw [if_neg c3] at h
    refine lv_iload_n X.1 X.2.1 dJ6_numberOfTrailingZeros_0f7a4_12 rfl (lv_at hl 0 rfl) ?_
    refine lv_bipush (v := (32 : Int32)) X.1 X.2.1 dJ6_numberOfTrailingZeros_0f7a4_13 (by decide) ?_
    refine lv_iand X.1 X.2.1 dJ6_numberOfTrailingZeros_0f7a4_15 ?_
    have h := sm_e h
    subst h
    exact rt_i X hr hlk hK hP hD hS dJ6_numberOfTrailingZeros_0f7a4_16
def f_J13_numberOfTrailingZeros_95d88 (p0 : Int64) : Option Int32 := lt_ (p0.toInt32) (fun x1 => if x1 = 0 then (f_J6_numberOfTrailingZeros_0f7a4 (((p0.toUInt64 >>> ((32 : Int32).toInt64.toUInt64 &&& Int64.toUInt64 63)).toInt64).toInt32) ).bind (fun r6 => some ((32 : Int32) + r6)) else (f_J6_numberOfTrailingZeros_0f7a4 x1 ).bind (fun r4 => some r4))
theorem hd_J13_numberOfTrailingZeros_95d88 : yJ13_numberOfTrailingZeros_95d88.cls ≠ "java/lang/invoke/MethodHandle" ∧ yJ13_numberOfTrailingZeros_95d88.cls ≠ "java/lang/invoke/VarHandle" ∧ (parseMethodDescriptor yJ13_numberOfTrailingZeros_95d88.desc).map (fun d => d.parameters.length) = some 1 := by decide +kernel
set_option maxHeartbeats 4000000 in
set_option maxRecDepth 100000 in
theorem k_J13_numberOfTrailingZeros_95d88 {l : Launch} {D : va_G} (p0 : Int64) (R : Int32) (h : f_J13_numberOfTrailingZeros_95d88 p0 = some R) : Ct l yJ13_numberOfTrailingZeros_95d88 wsJ13_numberOfTrailingZeros_95d88 ({ frames := 1, cells := 0, slots := 0, locals := 21 } : Room) D ([]) ([]) ([]) [.long p0] (some (.int R)) := by
  refine ct_of (cc := cJ13_numberOfTrailingZeros_95d88) (maxL := 3) (ret := (some .int)) (by decide) rfl (Nat.le_of_ble_eq_true rfl) ?_
  intro p e s m args below meth c A ls X hr hlk hK hA hP hD hS hl
  have X : CallFix p m c cJ13_numberOfTrailingZeros_95d88 3 s args wsJ13_numberOfTrailingZeros_95d88 RJ13 := X
  have hl : lv_has ls 3 [(0, .long p0)] := hl
  rw [f_J13_numberOfTrailingZeros_95d88] at h
  refine lv_lload_n X.1 X.2.1 dJ13_numberOfTrailingZeros_95d88_0 rfl (lv_at hl 0 rfl) ?_
  refine lv_l2i (v := p0.toInt32) X.1 X.2.1 dJ13_numberOfTrailingZeros_95d88_1 rfl ?_
  obtain ⟨x1, e2, h⟩ := lt_e h
  refine nm_i e2 ?_
  refine lv_istore_n (lv' := [(2, .int x1), (0, .long p0)]) X.1 X.2.1 dJ13_numberOfTrailingZeros_95d88_2 rfl hl (by decide) rfl (fun ls hl => ?_)
  refine lv_iload_n X.1 X.2.1 dJ13_numberOfTrailingZeros_95d88_3 rfl (lv_at hl 0 rfl) ?_
  refine lv_if_ne (tgt := 21) X.1 X.2.1 dJ13_numberOfTrailingZeros_95d88_4 (by decide) (fun c3 => ?_) (fun c3 => ?_)
  · rw [if_neg c3] at h
    refine lv_iload_n X.1 X.2.1 dJ13_numberOfTrailingZeros_95d88_21 rfl (lv_at hl 0 rfl) ?_
    obtain ⟨r4, q5, h⟩ := bd_e h
    refine kc_s (As := [.int x1]) (rest := []) X (k_J6_numberOfTrailingZeros_0f7a4 x1 _ q5) (va_cwS 1 X.2.2.2.2 gJ13_numberOfTrailingZeros_95d88_J6_numberOfTrailingZeros_0f7a4 rfl rfl rfl hd_J6_numberOfTrailingZeros_0f7a4 ⟨Nat.le_of_ble_eq_true rfl, Nat.le_of_ble_eq_true rfl⟩) hK hP hS hA rfl hl.1 rfl (Nat.le_of_ble_eq_true rfl) dJ13_numberOfTrailingZeros_95d88_22 ⟨Nat.le_of_ble_eq_true rfl, Nat.le_of_ble_eq_true rfl⟩ (fun H locs hP hS => ?_)
    have h := sm_e h
    subst h
    exact rt_i X hr hlk hK hP hD hS dJ13_numberOfTrailingZeros_95d88_25
  · rw [if_pos c3] at h
    refine lv_bipush (v := (32 : Int32)) X.1 X.2.1 dJ13_numberOfTrailingZeros_95d88_7 (by decide) ?_
    refine lv_lload_n X.1 X.2.1 dJ13_numberOfTrailingZeros_95d88_9 rfl (lv_at hl 1 rfl) ?_
    refine lv_bipush (v := (32 : Int32)) X.1 X.2.1 dJ13_numberOfTrailingZeros_95d88_10 (by decide) ?_
    refine lv_lushr (v := ((p0.toUInt64 >>> ((32 : Int32).toInt64.toUInt64 &&& Int64.toUInt64 63)).toInt64)) X.1 X.2.1 dJ13_numberOfTrailingZeros_95d88_12 rfl ?_
    refine lv_l2i (v := ((p0.toUInt64 >>> ((32 : Int32).toInt64.toUInt64 &&& Int64.toUInt64 63)).toInt64).toInt32) X.1 X.2.1 dJ13_numberOfTrailingZeros_95d88_13 rfl ?_
    obtain ⟨r6, q7, h⟩ := bd_e h
    refine kc_s (As := [.int (((p0.toUInt64 >>> ((32 : Int32).toInt64.toUInt64 &&& Int64.toUInt64 63)).toInt64).toInt32)]) (rest := [.int (32 : Int32)]) X (k_J6_numberOfTrailingZeros_0f7a4 (((p0.toUInt64 >>> ((32 : Int32).toInt64.toUInt64 &&& Int64.toUInt64 63)).toInt64).toInt32) _ q7) (va_cwS 1 X.2.2.2.2 gJ13_numberOfTrailingZeros_95d88_J6_numberOfTrailingZeros_0f7a4 rfl rfl rfl hd_J6_numberOfTrailingZeros_0f7a4 ⟨Nat.le_of_ble_eq_true rfl, Nat.le_of_ble_eq_true rfl⟩) hK hP hS hA rfl hl.1 rfl (Nat.le_of_ble_eq_true rfl) dJ13_numberOfTrailingZeros_95d88_14 ⟨Nat.le_of_ble_eq_true rfl, Nat.le_of_ble_eq_true rfl⟩ (fun H locs hP hS => ?_)
    refine lv_iadd X.1 X.2.1 dJ13_numberOfTrailingZeros_95d88_17 ?_
    refine lv_goto (tgt := 25) X.1 X.2.1 dJ13_numberOfTrailingZeros_95d88_18 (by decide) ?_
    have h := sm_e h
    subst h
    exact rt_i X hr hlk hK hP hD hS dJ13_numberOfTrailingZeros_95d88_25
def f_X2_inverseOfOdd_L5 (N : Nat) : Nat → Int64 → Int64 → Int32 → Option Int64
  | 0, _, _, _ => none
  | n + 1, v0, v2, v4 => if (5 : Int32) ≤ v4 then some v2 else lt_ (v2 * ((2 : Int64) - (v0 * v2))) (fun x2 => lt_ (v4 + (1 : Int32)) (fun x4 => f_X2_inverseOfOdd_L5 N n v0 x2 x4))
set_option maxHeartbeats 4000000 in
set_option maxRecDepth 100000 in
theorem t_X2_inverseOfOdd_L5 {p : Program} {l : Launch} {e : Env} {s : State} {m : MethodId} {args : Array Value} {below : List Frame} {meth : Method} {c : Code} {D : va_G} {A : Nat → Prop} (X : CallFix p m c cX2_inverseOfOdd 5 s args wsX2_inverseOfOdd RX2) (hr : meth.sig.returnType = some .long) (hlk : meth.locks = false) (hK : va_K D vwCl ([]) s) (hA : ∀ q : Nat, s.heap.size ≤ q → A q) (N : Nat) : ∀ (n : Nat) (v0 : Int64) (v2 : Int64) (v4 : Int32) (R : Int64), f_X2_inverseOfOdd_L5 N n v0 v2 v4 = some R → ∀ (H : Heap) (locs : List Loc) (ls : Array Slot), va_P D vwCl ([]) H → va_D A ([]) → va_S A s.heap H locs → lv_has ls 5 [(0, .long v0), (2, .long v2), (4, .int v4)] → W p l e ({ frames := 0, cells := 0, slots := 0, locals := 0 } : Room) s m args below meth c H locs 0 0 (MQ below (cQ D ([]) A ([]) (some (.long R))) args s 0 0 A) (F0 m 5 ls []) := by
  intro n
  induction n with
  | zero =>
    intro v0 v2 v4  R h
    exact absurd h (by simp [f_X2_inverseOfOdd_L5])
  | succ n ih =>
    intro v0 v2 v4  R h H locs ls hP hD hS hl
    rw [f_X2_inverseOfOdd_L5] at h
    refine lv_iload X.1 X.2.1 dX2_inverseOfOdd_5 (lv_at hl 2 rfl) ?_
    refine lv_iconst (v := (5 : Int32)) X.1 X.2.1 dX2_inverseOfOdd_7 (by decide) ?_
    refine lv_icmp_ge (tgt := 27) X.1 X.2.1 dX2_inverseOfOdd_8 (by decide) (fun c1 => ?_) (fun c1 => ?_)
    · rw [if_pos c1] at h
      refine lv_lload_n X.1 X.2.1 dX2_inverseOfOdd_27 rfl (lv_at hl 1 rfl) ?_
      have h := sm_e h
      subst h
      exact rt_l X hr hlk hK hP hD hS dX2_inverseOfOdd_28
    · rw [if_neg c1] at h
      refine lv_lload_n X.1 X.2.1 dX2_inverseOfOdd_11 rfl (lv_at hl 1 rfl) ?_
      refine lv_ldc2 (v := (2 : Int64)) X.1 X.2.1 X.2.2.2.1 (X.2.2.2.2 _ (List.mem_cons_of_mem _ (List.mem_of_getElem? (i := 0) rfl))) dX2_inverseOfOdd_12 ?_
      refine lv_lload_n X.1 X.2.1 dX2_inverseOfOdd_15 rfl (lv_at hl 0 rfl) ?_
      refine lv_lload_n X.1 X.2.1 dX2_inverseOfOdd_16 rfl (lv_at hl 1 rfl) ?_
      refine lv_lmul X.1 X.2.1 dX2_inverseOfOdd_17 ?_
      refine lv_lsub X.1 X.2.1 dX2_inverseOfOdd_18 ?_
      refine lv_lmul X.1 X.2.1 dX2_inverseOfOdd_19 ?_
      obtain ⟨x2, e3, h⟩ := lt_e h
      refine nm_l e3 ?_
      refine lv_lstore_n (lv' := [(2, .long x2), (0, .long v0), (4, .int v4)]) X.1 X.2.1 dX2_inverseOfOdd_20 rfl hl (by decide) rfl (fun ls hl => ?_)
      obtain ⟨x4, e5, h⟩ := lt_e h
      refine lv_iinc (v := x4) (lv' := [(4, .int x4), (2, .long x2), (0, .long v0)]) X.1 X.2.1 dX2_inverseOfOdd_21 hl (k := 2) rfl e5.symm (by decide) rfl (fun ls hl => ?_)
      refine lv_goto (tgt := 5) X.1 X.2.1 dX2_inverseOfOdd_24 (by decide) ?_
      exact ih v0 x2 x4  _ h _ _ _ hP hD hS (lv_sub hl [2, 1, 0] rfl)
def f_X2_inverseOfOdd (N : Nat) (p0 : Int64) : Option Int64 := f_X2_inverseOfOdd_L5 N N p0 p0 (0 : Int32)
theorem hd_X2_inverseOfOdd : yX2_inverseOfOdd.cls ≠ "java/lang/invoke/MethodHandle" ∧ yX2_inverseOfOdd.cls ≠ "java/lang/invoke/VarHandle" ∧ (parseMethodDescriptor yX2_inverseOfOdd.desc).map (fun d => d.parameters.length) = some 1 := by decide +kernel
set_option maxHeartbeats 4000000 in
set_option maxRecDepth 100000 in
theorem k_X2_inverseOfOdd {l : Launch} {D : va_G} (N : Nat) (p0 : Int64) (R : Int64) (h : f_X2_inverseOfOdd N p0 = some R) : Ct l yX2_inverseOfOdd wsX2_inverseOfOdd ({ frames := 0, cells := 0, slots := 0, locals := 0 } : Room) D ([]) ([]) ([]) [.long p0] (some (.long R)) := by
  refine ct_of (cc := cX2_inverseOfOdd) (maxL := 5) (ret := (some .long)) (by decide) rfl (Nat.le_of_ble_eq_true rfl) ?_
  intro p e s m args below meth c A ls X hr hlk hK hA hP hD hS hl
  have X : CallFix p m c cX2_inverseOfOdd 5 s args wsX2_inverseOfOdd RX2 := X
  have hl : lv_has ls 5 [(0, .long p0)] := hl
  rw [f_X2_inverseOfOdd] at h
  refine lv_lload_n X.1 X.2.1 dX2_inverseOfOdd_0 rfl (lv_at hl 0 rfl) ?_
  refine lv_lstore_n (lv' := [(2, .long p0), (0, .long p0)]) X.1 X.2.1 dX2_inverseOfOdd_1 rfl hl (by decide) rfl (fun ls hl => ?_)
  refine lv_iconst (v := (0 : Int32)) X.1 X.2.1 dX2_inverseOfOdd_2 (by decide) ?_
  refine lv_istore (lv' := [(4, .int (0 : Int32)), (2, .long p0), (0, .long p0)]) X.1 X.2.1 dX2_inverseOfOdd_3 hl (by decide) rfl (fun ls hl => ?_)
  exact t_X2_inverseOfOdd_L5 X hr hlk hK hA N N p0 p0 (0 : Int32)  _ h _ _ _ hP hD hS (lv_sub hl [2, 1, 0] rfl)
def f_X2_shiftedLow (p0 : Int64) (p1 : Int64) (p2 : Int32) : Option Int64 := if p2 = 0 then some p1 else some (((p1.toUInt64 >>> (p2.toInt64.toUInt64 &&& Int64.toUInt64 63)).toInt64) ||| (p0 <<< (((64 : Int32) - p2).toInt64 &&& 63)))
theorem hd_X2_shiftedLow : yX2_shiftedLow.cls ≠ "java/lang/invoke/MethodHandle" ∧ yX2_shiftedLow.cls ≠ "java/lang/invoke/VarHandle" ∧ (parseMethodDescriptor yX2_shiftedLow.desc).map (fun d => d.parameters.length) = some 3 := by decide +kernel
set_option maxHeartbeats 4000000 in
set_option maxRecDepth 100000 in
theorem k_X2_shiftedLow {l : Launch} {D : va_G} (p0 : Int64) (p1 : Int64) (p2 : Int32) (R : Int64) (h : f_X2_shiftedLow p0 p1 p2 = some R) : Ct l yX2_shiftedLow wsX2_shiftedLow ({ frames := 0, cells := 0, slots := 0, locals := 0 } : Room) D ([]) ([]) ([]) [.long p0, .long p1, .int p2] (some (.long R)) := by
  refine ct_of (cc := cX2_shiftedLow) (maxL := 5) (ret := (some .long)) (by decide) rfl (Nat.le_of_ble_eq_true rfl) ?_
  intro p e s m args below meth c A ls X hr hlk hK hA hP hD hS hl
  have X : CallFix p m c cX2_shiftedLow 5 s args wsX2_shiftedLow RX2 := X
  have hl : lv_has ls 5 [(0, .long p0), (2, .long p1), (4, .int p2)] := hl
  rw [f_X2_shiftedLow] at h
  refine lv_iload X.1 X.2.1 dX2_shiftedLow_0 (lv_at hl 2 rfl) ?_
  refine lv_if_ne (tgt := 9) X.1 X.2.1 dX2_shiftedLow_2 (by decide) (fun c1 => ?_) (fun c1 => ?_)
  · rw [if_neg c1] at h
    refine lv_lload_n X.1 X.2.1 dX2_shiftedLow_9 rfl (lv_at hl 1 rfl) ?_
    refine lv_iload X.1 X.2.1 dX2_shiftedLow_10 (lv_at hl 2 rfl) ?_
    refine lv_lushr (v := ((p1.toUInt64 >>> (p2.toInt64.toUInt64 &&& Int64.toUInt64 63)).toInt64)) X.1 X.2.1 dX2_shiftedLow_12 rfl ?_
    refine lv_lload_n X.1 X.2.1 dX2_shiftedLow_13 rfl (lv_at hl 0 rfl) ?_
    refine lv_bipush (v := (64 : Int32)) X.1 X.2.1 dX2_shiftedLow_14 (by decide) ?_
    refine lv_iload X.1 X.2.1 dX2_shiftedLow_16 (lv_at hl 2 rfl) ?_
    refine lv_isub X.1 X.2.1 dX2_shiftedLow_18 ?_
    refine lv_lshl (v := (p0 <<< (((64 : Int32) - p2).toInt64 &&& 63))) X.1 X.2.1 dX2_shiftedLow_19 rfl ?_
    refine lv_lor X.1 X.2.1 dX2_shiftedLow_20 ?_
    have h := sm_e h
    subst h
    exact rt_l X hr hlk hK hP hD hS dX2_shiftedLow_21
  · rw [if_pos c1] at h
    refine lv_lload_n X.1 X.2.1 dX2_shiftedLow_5 rfl (lv_at hl 1 rfl) ?_
    refine lv_goto (tgt := 21) X.1 X.2.1 dX2_shiftedLow_6 (by decide) ?_
    have h := sm_e h
    subst h
    exact rt_l X hr hlk hK hP hD hS dX2_shiftedLow_21
def f_X1_takeOut_L31 (N : Nat) : Nat → Int32 → Int64 → Int32 → Int32 → Int64 → Int64 → Int32 → CS → Option CS
  | 0, _, _, _, _, _, _, _, _ => none
  | n + 1, v4, v5, v7, v8, v9, v11, v13, σ => (f_X1_columnOfQ σ).bind (fun r1 => if r1 < v13 then some σ else gd (inB v7 12) (gd (inB v13 26) (gd (inB v8 12) (gd (inB v13 26) ((f_X2_crossHigh v9 (c_gg σ v7.toNatClampNeg v13.toNatClampNeg) v11 (c_gg σ v8.toNatClampNeg v13.toNatClampNeg) ).bind (fun r8 => gd (inB v7 12) (gd (inB v13 26) (gd (inB v8 12) (gd (inB v13 26) (lt_ ((v9 * (c_gg σ v7.toNatClampNeg v13.toNatClampNeg)) - (v11 * (c_gg σ v8.toNatClampNeg v13.toNatClampNeg))) (fun x14 => (f_X2_shiftedLow r8 x14 v4 ).bind (fun r16 => gd (inB v7 12) (gd (inB v13 26) (lt_ (s_gg σ (upG (c_gg σ) v7.toNatClampNeg v13.toNatClampNeg (r16 * v5))) (fun σ20 => lt_ (v13 + (1 : Int32)) (fun x22 => f_X1_takeOut_L31 N n v4 v5 v7 v8 v9 v11 x22 σ20))))))))))))))))
set_option maxHeartbeats 4000000 in
set_option maxRecDepth 100000 in
theorem t_X1_takeOut_L31 {p : Program} {l : Launch} {e : Env} {s : State} {m : MethodId} {args : Array Value} {below : List Frame} {meth : Method} {c : Code} {D : va_G} {A : Nat → Prop} {k : Nat → ClassId} {a : Nat → Nat} {ρ : Nat → Nat} (X : CallFix p m c cX1_takeOut 18 s args wsX1_takeOut RX1) (hr : meth.sig.returnType = none) (hlk : meth.locks = false) (hK : va_K D vwCl (cT k) s) (hA : ∀ q : Nat, s.heap.size ≤ q → A q) (N : Nat) : ∀ (n : Nat) (v4 : Int32) (v5 : Int64) (v7 : Int32) (v8 : Int32) (v9 : Int64) (v11 : Int64) (v13 : Int32) (σ : CS) (R : CS), f_X1_takeOut_L31 N n v4 v5 v7 v8 v9 v11 v13 σ = some R → ∀ (H : Heap) (locs : List Loc) (ls : Array Slot), va_P D vwCl (cW k a ρ σ) H → va_D A (cW k a ρ σ) → va_S A s.heap H locs → lv_has ls 18 [(0, .ref (a 2)), (4, .int v4), (5, .long v5), (7, .ref (ρ (v7).toNatClampNeg)), (8, .ref (ρ (v8).toNatClampNeg)), (9, .long v9), (11, .long v11), (13, .int v13)] → W p l e ({ frames := 3, cells := 0, slots := 0, locals := 75 } : Room) s m args below meth c H locs 0 0 (MQ below (cQ D (cT k) A (cW k a ρ R) none) args s 0 0 A) (F0 m 31 ls []) := by
  intro n
  induction n with
  | zero =>
    intro v4 v5 v7 v8 v9 v11 v13 σ R h
    exact absurd h (by simp [f_X1_takeOut_L31])
  | succ n ih =>
    intro v4 v5 v7 v8 v9 v11 v13 σ R h H locs ls hP hD hS hl
    rw [f_X1_takeOut_L31] at h
    refine lv_iload X.1 X.2.1 dX1_takeOut_31 (lv_at hl 7 rfl) ?_
    refine lv_aload_n X.1 X.2.1 dX1_takeOut_33 rfl (lv_at hl 0 rfl) ?_
    obtain ⟨r1, q2, h⟩ := bd_e h
    refine kc_v (As := []) (rest := [.int v13]) X (k_X1_columnOfQ σ _ q2) (cwV 0 X.2.2.2.2 gX1_takeOut_X1_columnOfQ rfl rfl rfl hd_X1_columnOfQ ⟨Nat.le_of_ble_eq_true rfl, Nat.le_of_ble_eq_true rfl⟩) hK hP hD hS hA (va_recv hK hP (ci := 1) (q0 := 2) rfl rfl) rfl hl.1 rfl (Nat.le_of_ble_eq_true rfl) dX1_takeOut_34 ⟨Nat.le_of_ble_eq_true rfl, Nat.le_of_ble_eq_true rfl⟩ (fun H locs hP hD hS => ?_)
    refine lv_icmp_gt (tgt := 101) X.1 X.2.1 dX1_takeOut_37 (by decide) (fun c3 => ?_) (fun c3 => ?_)
    · rw [if_pos c3] at h
      have h := sm_e h
      subst h
      exact rt_v X hr hlk hK hP hD hS dX1_takeOut_101
    · rw [if_neg c3] at h
      refine lv_lload X.1 X.2.1 dX1_takeOut_40 (lv_at hl 5 rfl) ?_
      refine lv_aload X.1 X.2.1 dX1_takeOut_42 (lv_at hl 3 rfl) ?_
      refine lv_iload X.1 X.2.1 dX1_takeOut_44 (lv_at hl 7 rfl) ?_
      obtain ⟨g4, h⟩ := gd_e h
      obtain ⟨g5, h⟩ := gd_e h
      refine lc_row X hK hP g4 g5 dX1_takeOut_46 ?_
      refine lv_lload X.1 X.2.1 dX1_takeOut_47 (lv_at hl 6 rfl) ?_
      refine lv_aload X.1 X.2.1 dX1_takeOut_49 (lv_at hl 4 rfl) ?_
      refine lv_iload X.1 X.2.1 dX1_takeOut_51 (lv_at hl 7 rfl) ?_
      obtain ⟨g6, h⟩ := gd_e h
      obtain ⟨g7, h⟩ := gd_e h
      refine lc_row X hK hP g6 g7 dX1_takeOut_53 ?_
      obtain ⟨r8, q9, h⟩ := bd_e h
      refine kc_s (As := [.long v9, .long (c_gg σ v7.toNatClampNeg v13.toNatClampNeg), .long v11, .long (c_gg σ v8.toNatClampNeg v13.toNatClampNeg)]) (rest := []) X (k_X2_crossHigh v9 (c_gg σ v7.toNatClampNeg v13.toNatClampNeg) v11 (c_gg σ v8.toNatClampNeg v13.toNatClampNeg) _ q9) (va_cwS 4 X.2.2.2.2 gX1_takeOut_X2_crossHigh rfl rfl rfl hd_X2_crossHigh ⟨Nat.le_of_ble_eq_true rfl, Nat.le_of_ble_eq_true rfl⟩) hK hP hS hA rfl hl.1 rfl (Nat.le_of_ble_eq_true rfl) dX1_takeOut_54 ⟨Nat.le_of_ble_eq_true rfl, Nat.le_of_ble_eq_true rfl⟩ (fun H locs hP hS => ?_)
      refine lv_lstore (lv' := [(14, .long r8), (0, .ref (a 2)), (4, .int v4), (5, .long v5), (7, .ref (ρ (v7).toNatClampNeg)), (8, .ref (ρ (v8).toNatClampNeg)), (9, .long v9), (11, .long v11), (13, .int v13)]) X.1 X.2.1 dX1_takeOut_57 hl (by decide) rfl (fun ls hl => ?_)
      refine lv_lload X.1 X.2.1 dX1_takeOut_59 (lv_at hl 6 rfl) ?_
      refine lv_aload X.1 X.2.1 dX1_takeOut_61 (lv_at hl 4 rfl) ?_
      refine lv_iload X.1 X.2.1 dX1_takeOut_63 (lv_at hl 8 rfl) ?_
      obtain ⟨g10, h⟩ := gd_e h
      obtain ⟨g11, h⟩ := gd_e h
      refine lc_row X hK hP g10 g11 dX1_takeOut_65 ?_
      refine lv_lmul X.1 X.2.1 dX1_takeOut_66 ?_
      refine lv_lload X.1 X.2.1 dX1_takeOut_67 (lv_at hl 7 rfl) ?_
      refine lv_aload X.1 X.2.1 dX1_takeOut_69 (lv_at hl 5 rfl) ?_
      refine lv_iload X.1 X.2.1 dX1_takeOut_71 (lv_at hl 8 rfl) ?_
      obtain ⟨g12, h⟩ := gd_e h
      obtain ⟨g13, h⟩ := gd_e h
      refine lc_row X hK hP g12 g13 dX1_takeOut_73 ?_
      refine lv_lmul X.1 X.2.1 dX1_takeOut_74 ?_
      refine lv_lsub X.1 X.2.1 dX1_takeOut_75 ?_
      obtain ⟨x14, e15, h⟩ := lt_e h
      refine nm_l e15 ?_
      refine lv_lstore (lv' := [(16, .long x14), (14, .long r8), (0, .ref (a 2)), (4, .int v4), (5, .long v5), (7, .ref (ρ (v7).toNatClampNeg)), (8, .ref (ρ (v8).toNatClampNeg)), (9, .long v9), (11, .long v11), (13, .int v13)]) X.1 X.2.1 dX1_takeOut_76 hl (by decide) rfl (fun ls hl => ?_)
      refine lv_aload X.1 X.2.1 dX1_takeOut_78 (lv_at hl 5 rfl) ?_
      refine lv_iload X.1 X.2.1 dX1_takeOut_80 (lv_at hl 9 rfl) ?_
      refine lv_lload X.1 X.2.1 dX1_takeOut_82 (lv_at hl 1 rfl) ?_
      refine lv_lload X.1 X.2.1 dX1_takeOut_84 (lv_at hl 0 rfl) ?_
      refine lv_iload X.1 X.2.1 dX1_takeOut_86 (lv_at hl 3 rfl) ?_
      obtain ⟨r16, q17, h⟩ := bd_e h
      refine kc_s (As := [.long r8, .long x14, .int v4]) (rest := [.int v13, .ref (ρ (v7).toNatClampNeg)]) X (k_X2_shiftedLow r8 x14 v4 _ q17) (va_cwS 3 X.2.2.2.2 gX1_takeOut_X2_shiftedLow rfl rfl rfl hd_X2_shiftedLow ⟨Nat.le_of_ble_eq_true rfl, Nat.le_of_ble_eq_true rfl⟩) hK hP hS hA rfl hl.1 rfl (Nat.le_of_ble_eq_true rfl) dX1_takeOut_88 ⟨Nat.le_of_ble_eq_true rfl, Nat.le_of_ble_eq_true rfl⟩ (fun H locs hP hS => ?_)
      refine lv_lload X.1 X.2.1 dX1_takeOut_91 (lv_at hl 4 rfl) ?_
      refine lv_lmul X.1 X.2.1 dX1_takeOut_93 ?_
      obtain ⟨g18, h⟩ := gd_e h
      obtain ⟨g19, h⟩ := gd_e h
      obtain ⟨σ20, e21, h⟩ := lt_e h
      refine tc_row X hK hP hD hS g18 g19 e21 dX1_takeOut_94 (fun H locs hP hD hS => ?_)
      obtain ⟨x22, e23, h⟩ := lt_e h
      refine lv_iinc (v := x22) (lv' := [(13, .int x22), (16, .long x14), (14, .long r8), (0, .ref (a 2)), (4, .int v4), (5, .long v5), (7, .ref (ρ (v7).toNatClampNeg)), (8, .ref (ρ (v8).toNatClampNeg)), (9, .long v9), (11, .long v11)]) X.1 X.2.1 dX1_takeOut_95 hl (k := 9) rfl e23.symm (by decide) rfl (fun ls hl => ?_)
      refine lv_goto (tgt := 31) X.1 X.2.1 dX1_takeOut_98 (by decide) ?_
      exact ih v4 v5 v7 v8 v9 v11 x22 σ20 _ h _ _ _ hP hD hS (lv_sub hl [3, 4, 5, 6, 7, 8, 9, 0] rfl)
def f_X1_takeOut (N : Nat) (p0 : Int32) (p1 : Int32) (p2 : Int32) (p3 : Int32) (p4 : Int64) (σ : CS) : Option CS := gd (inB p0 12) (gd (inB p1 12) (gd (inB p1 12) (gd (inB p2 26) (lt_ (c_gg σ p1.toNatClampNeg p2.toNatClampNeg) (fun x5 => gd (inB p0 12) (gd (inB p2 26) (lt_ (c_gg σ p0.toNatClampNeg p2.toNatClampNeg) (fun x9 => f_X1_takeOut_L31 N N p3 p4 p0 p1 x5 x9 (0 : Int32) σ))))))))
theorem hd_X1_takeOut : yX1_takeOut.cls = RX1 ∧ yX1_takeOut.cls ≠ "java/lang/invoke/MethodHandle" ∧ yX1_takeOut.cls ≠ "java/lang/invoke/VarHandle" ∧ (parseMethodDescriptor yX1_takeOut.desc).map (fun d => d.parameters.length) = some 5 := by decide +kernel
set_option maxHeartbeats 4000000 in
set_option maxRecDepth 100000 in
theorem k_X1_takeOut {l : Launch} {D : va_G} {k : Nat → ClassId} {a : Nat → Nat} {ρ : Nat → Nat} (N : Nat) (p0 : Int32) (p1 : Int32) (p2 : Int32) (p3 : Int32) (p4 : Int64) (σ : CS) (R : CS) (h : f_X1_takeOut N p0 p1 p2 p3 p4 σ = some R) : Ct l yX1_takeOut wsX1_takeOut ({ frames := 3, cells := 0, slots := 0, locals := 75 } : Room) D (cT k) (cW k a ρ σ) (cW k a ρ R) [.ref (a 2), .int p0, .int p1, .int p2, .int p3, .long p4] none := by
  refine ct_of (cc := cX1_takeOut) (maxL := 18) (ret := none) (by decide) rfl (Nat.le_of_ble_eq_true rfl) ?_
  intro p e s m args below meth c A ls X hr hlk hK hA hP hD hS hl
  have X : CallFix p m c cX1_takeOut 18 s args wsX1_takeOut RX1 := X
  have hl : lv_has ls 18 [(0, .ref (a 2)), (1, .int p0), (2, .int p1), (3, .int p2), (4, .int p3), (5, .long p4)] := hl
  rw [f_X1_takeOut] at h
  refine lv_aload_n X.1 X.2.1 dX1_takeOut_0 rfl (lv_at hl 0 rfl) ?_
  refine gX1_cell X (fun w h => (List.mem_cons_of_mem _ (List.mem_append_right _ h))) hK hP (List.mem_cons_of_mem _ (List.mem_append_left _ (List.mem_append_left _ (List.mem_of_getElem? (i := 0) rfl)))) dX1_takeOut_1 ?_
  refine lv_iload_n X.1 X.2.1 dX1_takeOut_4 rfl (lv_at hl 1 rfl) ?_
  obtain ⟨g1, h⟩ := gd_e h
  refine lc_cell X hK hP g1 dX1_takeOut_5 ?_
  refine lv_astore (lv' := [(7, .ref (ρ (p0).toNatClampNeg)), (0, .ref (a 2)), (1, .int p0), (2, .int p1), (3, .int p2), (4, .int p3), (5, .long p4)]) X.1 X.2.1 dX1_takeOut_6 hl (by decide) rfl (fun ls hl => ?_)
  refine lv_aload_n X.1 X.2.1 dX1_takeOut_8 rfl (lv_at hl 1 rfl) ?_
  refine gX1_cell X (fun w h => (List.mem_cons_of_mem _ (List.mem_append_right _ h))) hK hP (List.mem_cons_of_mem _ (List.mem_append_left _ (List.mem_append_left _ (List.mem_of_getElem? (i := 0) rfl)))) dX1_takeOut_9 ?_
  refine lv_iload_n X.1 X.2.1 dX1_takeOut_12 rfl (lv_at hl 3 rfl) ?_
  obtain ⟨g2, h⟩ := gd_e h
  refine lc_cell X hK hP g2 dX1_takeOut_13 ?_
  refine lv_astore (lv' := [(8, .ref (ρ (p1).toNatClampNeg)), (7, .ref (ρ (p0).toNatClampNeg)), (0, .ref (a 2)), (1, .int p0), (2, .int p1), (3, .int p2), (4, .int p3), (5, .long p4)]) X.1 X.2.1 dX1_takeOut_14 hl (by decide) rfl (fun ls hl => ?_)
  refine lv_aload X.1 X.2.1 dX1_takeOut_16 (lv_at hl 0 rfl) ?_
  refine lv_iload_n X.1 X.2.1 dX1_takeOut_18 rfl (lv_at hl 5 rfl) ?_
  obtain ⟨g3, h⟩ := gd_e h
  obtain ⟨g4, h⟩ := gd_e h
  refine lc_row X hK hP g3 g4 dX1_takeOut_19 ?_
  obtain ⟨x5, e6, h⟩ := lt_e h
  refine nm_l e6 ?_
  refine lv_lstore (lv' := [(9, .long x5), (8, .ref (ρ (p1).toNatClampNeg)), (7, .ref (ρ (p0).toNatClampNeg)), (0, .ref (a 2)), (1, .int p0), (2, .int p1), (3, .int p2), (4, .int p3), (5, .long p4)]) X.1 X.2.1 dX1_takeOut_20 hl (by decide) rfl (fun ls hl => ?_)
  refine lv_aload X.1 X.2.1 dX1_takeOut_22 (lv_at hl 2 rfl) ?_
  refine lv_iload_n X.1 X.2.1 dX1_takeOut_24 rfl (lv_at hl 6 rfl) ?_
  obtain ⟨g7, h⟩ := gd_e h
  obtain ⟨g8, h⟩ := gd_e h
  refine lc_row X hK hP g7 g8 dX1_takeOut_25 ?_
  obtain ⟨x9, e10, h⟩ := lt_e h
  refine nm_l e10 ?_
  refine lv_lstore (lv' := [(11, .long x9), (9, .long x5), (8, .ref (ρ (p1).toNatClampNeg)), (7, .ref (ρ (p0).toNatClampNeg)), (0, .ref (a 2)), (1, .int p0), (2, .int p1), (3, .int p2), (4, .int p3), (5, .long p4)]) X.1 X.2.1 dX1_takeOut_26 hl (by decide) rfl (fun ls hl => ?_)
  refine lv_iconst (v := (0 : Int32)) X.1 X.2.1 dX1_takeOut_28 (by decide) ?_
  refine lv_istore (lv' := [(13, .int (0 : Int32)), (11, .long x9), (9, .long x5), (8, .ref (ρ (p1).toNatClampNeg)), (7, .ref (ρ (p0).toNatClampNeg)), (0, .ref (a 2)), (1, .int p0), (2, .int p1), (3, .int p2), (4, .int p3), (5, .long p4)]) X.1 X.2.1 dX1_takeOut_29 hl (by decide) rfl (fun ls hl => ?_)
  exact t_X1_takeOut_L31 X hr hlk hK hA N N p3 p4 p0 p1 x5 x9 (0 : Int32) σ _ h _ _ _ hP hD hS (lv_sub hl [5, 9, 10, 4, 3, 2, 1, 0] rfl)
def f_X1_turn_L40 (N : Nat) : Nat → Int32 → Int32 → Int32 → Int64 → Int32 → CS → Option CS
  | 0, _, _, _, _, _, _ => none
  | n + 1, v1, v2, v3, v4, v6, σ => if (c_rw σ) ≤ v6 then gd (inB v1 12) (gd (inB v1 12) (gd (inB v2 26) (lt_ (s_sc σ (c_gg σ v1.toNatClampNeg v2.toNatClampNeg)) (fun σ5 => some σ5)))) else if v6 = v1 then lt_ (v6 + (1 : Int32)) (fun x8 => f_X1_turn_L40 N n v1 v2 v3 v4 x8 σ) else (f_X1_takeOut N v6 v1 v2 v3 v4 σ).bind (fun r10 => lt_ (v6 + (1 : Int32)) (fun x12 => f_X1_turn_L40 N n v1 v2 v3 v4 x12 r10))
set_option maxHeartbeats 4000000 in
set_option maxRecDepth 100000 in
theorem t_X1_turn_L40 {p : Program} {l : Launch} {e : Env} {s : State} {m : MethodId} {args : Array Value} {below : List Frame} {meth : Method} {c : Code} {D : va_G} {A : Nat → Prop} {k : Nat → ClassId} {a : Nat → Nat} {ρ : Nat → Nat} (X : CallFix p m c cX1_turn 7 s args wsX1_turn RX1) (hr : meth.sig.returnType = none) (hlk : meth.locks = false) (hK : va_K D vwCl (cT k) s) (hA : ∀ q : Nat, s.heap.size ≤ q → A q) (N : Nat) : ∀ (n : Nat) (v1 : Int32) (v2 : Int32) (v3 : Int32) (v4 : Int64) (v6 : Int32) (σ : CS) (R : CS), f_X1_turn_L40 N n v1 v2 v3 v4 v6 σ = some R → ∀ (H : Heap) (locs : List Loc) (ls : Array Slot), va_P D vwCl (cW k a ρ σ) H → va_D A (cW k a ρ σ) → va_S A s.heap H locs → lv_has ls 7 [(0, .ref (a 2)), (1, .int v1), (2, .int v2), (3, .int v3), (4, .long v4), (6, .int v6)] → W p l e ({ frames := 4, cells := 0, slots := 0, locals := 112 } : Room) s m args below meth c H locs 0 0 (MQ below (cQ D (cT k) A (cW k a ρ R) none) args s 0 0 A) (F0 m 40 ls []) := by
  intro n
  induction n with
  | zero =>
    intro v1 v2 v3 v4 v6 σ R h
    exact absurd h (by simp [f_X1_turn_L40])
  | succ n ih =>
    intro v1 v2 v3 v4 v6 σ R h H locs ls hP hD hS hl
    rw [f_X1_turn_L40] at h
    refine lv_iload X.1 X.2.1 dX1_turn_40 (lv_at hl 5 rfl) ?_
    refine lv_aload_n X.1 X.2.1 dX1_turn_42 rfl (lv_at hl 0 rfl) ?_
    refine gX1_rows X (fun w h => (List.mem_cons_of_mem _ (List.mem_append_right _ h))) hK hP (List.mem_cons_of_mem _ (List.mem_append_left _ (List.mem_append_left _ (List.mem_of_getElem? (i := 2) rfl)))) dX1_turn_43 ?_
    refine lv_icmp_ge (tgt := 72) X.1 X.2.1 dX1_turn_46 (by decide) (fun c1 => ?_) (fun c1 => ?_)
    · rw [if_pos c1] at h
      refine lv_aload_n X.1 X.2.1 dX1_turn_72 rfl (lv_at hl 0 rfl) ?_
      refine lv_aload_n X.1 X.2.1 dX1_turn_73 rfl (lv_at hl 0 rfl) ?_
      refine gX1_cell X (fun w h => (List.mem_cons_of_mem _ (List.mem_append_right _ h))) hK hP (List.mem_cons_of_mem _ (List.mem_append_left _ (List.mem_append_left _ (List.mem_of_getElem? (i := 0) rfl)))) dX1_turn_74 ?_
      refine lv_iload_n X.1 X.2.1 dX1_turn_77 rfl (lv_at hl 1 rfl) ?_
      obtain ⟨g2, h⟩ := gd_e h
      refine lc_cell X hK hP g2 dX1_turn_78 ?_
      refine lv_iload_n X.1 X.2.1 dX1_turn_79 rfl (lv_at hl 2 rfl) ?_
      obtain ⟨g3, h⟩ := gd_e h
      obtain ⟨g4, h⟩ := gd_e h
      refine lc_row X hK hP g3 g4 dX1_turn_80 ?_
      obtain ⟨σ5, e6, h⟩ := lt_e h
      refine pX1_scale X (fun w h => (List.mem_cons_of_mem _ (List.mem_append_right _ h))) hK hP hD hS (List.mem_cons_of_mem _ (List.mem_append_left _ (List.mem_append_left _ (List.mem_of_getElem? (i := 1) rfl)))) e6 dX1_turn_81 (fun H locs hP hD hS => ?_)
      have h := sm_e h
      subst h
      exact rt_v X hr hlk hK hP hD hS dX1_turn_84
    · rw [if_neg c1] at h
      refine lv_iload X.1 X.2.1 dX1_turn_49 (lv_at hl 5 rfl) ?_
      refine lv_iload_n X.1 X.2.1 dX1_turn_51 rfl (lv_at hl 1 rfl) ?_
      refine lv_icmp_eq (tgt := 66) X.1 X.2.1 dX1_turn_52 (by decide) (fun c7 => ?_) (fun c7 => ?_)
      · rw [if_pos c7] at h
        obtain ⟨x8, e9, h⟩ := lt_e h
        refine lv_iinc (v := x8) (lv' := [(6, .int x8), (0, .ref (a 2)), (1, .int v1), (2, .int v2), (3, .int v3), (4, .long v4)]) X.1 X.2.1 dX1_turn_66 hl (k := 5) rfl e9.symm (by decide) rfl (fun ls hl => ?_)
        refine lv_goto (tgt := 40) X.1 X.2.1 dX1_turn_69 (by decide) ?_
        exact ih v1 v2 v3 v4 x8 σ _ h _ _ _ hP hD hS (lv_sub hl [1, 2, 3, 4, 5, 0] rfl)
      · rw [if_neg c7] at h
        refine lv_aload_n X.1 X.2.1 dX1_turn_55 rfl (lv_at hl 0 rfl) ?_
        refine lv_iload X.1 X.2.1 dX1_turn_56 (lv_at hl 5 rfl) ?_
        refine lv_iload_n X.1 X.2.1 dX1_turn_58 rfl (lv_at hl 1 rfl) ?_
        refine lv_iload_n X.1 X.2.1 dX1_turn_59 rfl (lv_at hl 2 rfl) ?_
        refine lv_iload_n X.1 X.2.1 dX1_turn_60 rfl (lv_at hl 3 rfl) ?_
        refine lv_lload X.1 X.2.1 dX1_turn_61 (lv_at hl 4 rfl) ?_
        obtain ⟨r10, q11, h⟩ := bd_e h
        refine kc_v (As := [.int v6, .int v1, .int v2, .int v3, .long v4]) (rest := []) X (k_X1_takeOut N v6 v1 v2 v3 v4 σ _ q11) (cwV 5 X.2.2.2.2 gX1_turn_X1_takeOut rfl rfl rfl hd_X1_takeOut ⟨Nat.le_of_ble_eq_true rfl, Nat.le_of_ble_eq_true rfl⟩) hK hP hD hS hA (va_recv hK hP (ci := 1) (q0 := 2) rfl rfl) rfl hl.1 rfl (Nat.le_of_ble_eq_true rfl) dX1_turn_63 ⟨Nat.le_of_ble_eq_true rfl, Nat.le_of_ble_eq_true rfl⟩ (fun H locs hP hD hS => ?_)
        obtain ⟨x12, e13, h⟩ := lt_e h
        refine lv_iinc (v := x12) (lv' := [(6, .int x12), (0, .ref (a 2)), (1, .int v1), (2, .int v2), (3, .int v3), (4, .long v4)]) X.1 X.2.1 dX1_turn_66 hl (k := 5) rfl e13.symm (by decide) rfl (fun ls hl => ?_)
        refine lv_goto (tgt := 40) X.1 X.2.1 dX1_turn_69 (by decide) ?_
        exact ih v1 v2 v3 v4 x12 r10 _ h _ _ _ hP hD hS (lv_sub hl [1, 2, 3, 4, 5, 0] rfl)
def f_X1_turn (N : Nat) (p0 : Int32) (p1 : Int32) (σ : CS) : Option CS := gd (inB p0 12) (gd (inB p0 12) (gd (inB p1 26) (if 0 ≤ (lg_cmp (c_gg σ p0.toNatClampNeg p1.toNatClampNeg) (0 : Int64)) then (f_J13_numberOfTrailingZeros_95d88 (c_sc σ) ).bind (fun r5 => (f_X2_inverseOfOdd N ((c_sc σ) >>> (r5.toInt64 &&& 63)) ).bind (fun r7 => f_X1_turn_L40 N N p0 p1 r5 r7 (0 : Int32) σ)) else (f_X1_negate N p0 σ).bind (fun r14 => (f_J13_numberOfTrailingZeros_95d88 (c_sc r14) ).bind (fun r16 => (f_X2_inverseOfOdd N ((c_sc r14) >>> (r16.toInt64 &&& 63)) ).bind (fun r18 => f_X1_turn_L40 N N p0 p1 r16 r18 (0 : Int32) r14))))))
theorem hd_X1_turn : yX1_turn.cls = RX1 ∧ yX1_turn.cls ≠ "java/lang/invoke/MethodHandle" ∧ yX1_turn.cls ≠ "java/lang/invoke/VarHandle" ∧ (parseMethodDescriptor yX1_turn.desc).map (fun d => d.parameters.length) = some 2 := by decide +kernel
set_option maxHeartbeats 4000000 in
set_option maxRecDepth 100000 in
theorem k_X1_turn {l : Launch} {D : va_G} {k : Nat → ClassId} {a : Nat → Nat} {ρ : Nat → Nat} (N : Nat) (p0 : Int32) (p1 : Int32) (σ : CS) (R : CS) (h : f_X1_turn N p0 p1 σ = some R) : Ct l yX1_turn wsX1_turn ({ frames := 4, cells := 0, slots := 0, locals := 112 } : Room) D (cT k) (cW k a ρ σ) (cW k a ρ R) [.ref (a 2), .int p0, .int p1] none := by
  refine ct_of (cc := cX1_turn) (maxL := 7) (ret := none) (by decide) rfl (Nat.le_of_ble_eq_true rfl) ?_
  intro p e s m args below meth c A ls X hr hlk hK hA hP hD hS hl
  have X : CallFix p m c cX1_turn 7 s args wsX1_turn RX1 := X
  have hl : lv_has ls 7 [(0, .ref (a 2)), (1, .int p0), (2, .int p1)] := hl
  rw [f_X1_turn] at h
  refine lv_aload_n X.1 X.2.1 dX1_turn_0 rfl (lv_at hl 0 rfl) ?_
  refine gX1_cell X (fun w h => (List.mem_cons_of_mem _ (List.mem_append_right _ h))) hK hP (List.mem_cons_of_mem _ (List.mem_append_left _ (List.mem_append_left _ (List.mem_of_getElem? (i := 0) rfl)))) dX1_turn_1 ?_
  refine lv_iload_n X.1 X.2.1 dX1_turn_4 rfl (lv_at hl 1 rfl) ?_
  obtain ⟨g1, h⟩ := gd_e h
  refine lc_cell X hK hP g1 dX1_turn_5 ?_
  refine lv_iload_n X.1 X.2.1 dX1_turn_6 rfl (lv_at hl 2 rfl) ?_
  obtain ⟨g2, h⟩ := gd_e h
  obtain ⟨g3, h⟩ := gd_e h
  refine lc_row X hK hP g2 g3 dX1_turn_7 ?_
  refine lv_lconst (v := (0 : Int64)) X.1 X.2.1 dX1_turn_8 (by decide) ?_
  refine W.lcmp X.1 X.2.1 dX1_turn_9 ?_
  refine lv_if_ge (tgt := 18) X.1 X.2.1 dX1_turn_10 (by decide) (fun c4 => ?_) (fun c4 => ?_)
  · rw [if_pos c4] at h
    refine lv_aload_n X.1 X.2.1 dX1_turn_18 rfl (lv_at hl 0 rfl) ?_
    refine gX1_scale X (fun w h => (List.mem_cons_of_mem _ (List.mem_append_right _ h))) hK hP (List.mem_cons_of_mem _ (List.mem_append_left _ (List.mem_append_left _ (List.mem_of_getElem? (i := 1) rfl)))) dX1_turn_19 ?_
    obtain ⟨r5, q6, h⟩ := bd_e h
    refine kc_s (As := [.long (c_sc σ)]) (rest := []) X (k_J13_numberOfTrailingZeros_95d88 (c_sc σ) _ q6) (va_cwS 1 X.2.2.2.2 gX1_turn_J13_numberOfTrailingZeros_95d88 rfl rfl rfl hd_J13_numberOfTrailingZeros_95d88 ⟨Nat.le_of_ble_eq_true rfl, Nat.le_of_ble_eq_true rfl⟩) hK hP hS hA rfl hl.1 rfl (Nat.le_of_ble_eq_true rfl) dX1_turn_22 ⟨Nat.le_of_ble_eq_true rfl, Nat.le_of_ble_eq_true rfl⟩ (fun H locs hP hS => ?_)
    refine lv_istore_n (lv' := [(3, .int r5), (0, .ref (a 2)), (1, .int p0), (2, .int p1)]) X.1 X.2.1 dX1_turn_25 rfl hl (by decide) rfl (fun ls hl => ?_)
    refine lv_aload_n X.1 X.2.1 dX1_turn_26 rfl (lv_at hl 1 rfl) ?_
    refine gX1_scale X (fun w h => (List.mem_cons_of_mem _ (List.mem_append_right _ h))) hK hP (List.mem_cons_of_mem _ (List.mem_append_left _ (List.mem_append_left _ (List.mem_of_getElem? (i := 1) rfl)))) dX1_turn_27 ?_
    refine lv_iload_n X.1 X.2.1 dX1_turn_30 rfl (lv_at hl 0 rfl) ?_
    refine lv_lshr (v := ((c_sc σ) >>> (r5.toInt64 &&& 63))) X.1 X.2.1 dX1_turn_31 rfl ?_
    obtain ⟨r7, q8, h⟩ := bd_e h
    refine kc_s (As := [.long ((c_sc σ) >>> (r5.toInt64 &&& 63))]) (rest := []) X (k_X2_inverseOfOdd N ((c_sc σ) >>> (r5.toInt64 &&& 63)) _ q8) (va_cwS 1 X.2.2.2.2 gX1_turn_X2_inverseOfOdd rfl rfl rfl hd_X2_inverseOfOdd ⟨Nat.le_of_ble_eq_true rfl, Nat.le_of_ble_eq_true rfl⟩) hK hP hS hA rfl hl.1 rfl (Nat.le_of_ble_eq_true rfl) dX1_turn_32 ⟨Nat.le_of_ble_eq_true rfl, Nat.le_of_ble_eq_true rfl⟩ (fun H locs hP hS => ?_)
    refine lv_lstore (lv' := [(4, .long r7), (3, .int r5), (0, .ref (a 2)), (1, .int p0), (2, .int p1)]) X.1 X.2.1 dX1_turn_35 hl (by decide) rfl (fun ls hl => ?_)
    refine lv_iconst (v := (0 : Int32)) X.1 X.2.1 dX1_turn_37 (by decide) ?_
    refine lv_istore (lv' := [(6, .int (0 : Int32)), (4, .long r7), (3, .int r5), (0, .ref (a 2)), (1, .int p0), (2, .int p1)]) X.1 X.2.1 dX1_turn_38 hl (by decide) rfl (fun ls hl => ?_)
    exact t_X1_turn_L40 X hr hlk hK hA N N p0 p1 r5 r7 (0 : Int32) σ _ h _ _ _ hP hD hS (lv_sub hl [3, 4, 5, 2, 1, 0] rfl)
  · rw [if_neg c4] at h
    refine lv_aload_n X.1 X.2.1 dX1_turn_13 rfl (lv_at hl 0 rfl) ?_
    refine lv_iload_n X.1 X.2.1 dX1_turn_14 rfl (lv_at hl 1 rfl) ?_
    obtain ⟨r14, q15, h⟩ := bd_e h
    refine kc_v (As := [.int p0]) (rest := []) X (k_X1_negate N p0 σ _ q15) (cwV 1 X.2.2.2.2 gX1_turn_X1_negate rfl rfl rfl hd_X1_negate ⟨Nat.le_of_ble_eq_true rfl, Nat.le_of_ble_eq_true rfl⟩) hK hP hD hS hA (va_recv hK hP (ci := 1) (q0 := 2) rfl rfl) rfl hl.1 rfl (Nat.le_of_ble_eq_true rfl) dX1_turn_15 ⟨Nat.le_of_ble_eq_true rfl, Nat.le_of_ble_eq_true rfl⟩ (fun H locs hP hD hS => ?_)
    refine lv_aload_n X.1 X.2.1 dX1_turn_18 rfl (lv_at hl 0 rfl) ?_
    refine gX1_scale X (fun w h => (List.mem_cons_of_mem _ (List.mem_append_right _ h))) hK hP (List.mem_cons_of_mem _ (List.mem_append_left _ (List.mem_append_left _ (List.mem_of_getElem? (i := 1) rfl)))) dX1_turn_19 ?_
    obtain ⟨r16, q17, h⟩ := bd_e h
    refine kc_s (As := [.long (c_sc r14)]) (rest := []) X (k_J13_numberOfTrailingZeros_95d88 (c_sc r14) _ q17) (va_cwS 1 X.2.2.2.2 gX1_turn_J13_numberOfTrailingZeros_95d88 rfl rfl rfl hd_J13_numberOfTrailingZeros_95d88 ⟨Nat.le_of_ble_eq_true rfl, Nat.le_of_ble_eq_true rfl⟩) hK hP hS hA rfl hl.1 rfl (Nat.le_of_ble_eq_true rfl) dX1_turn_22 ⟨Nat.le_of_ble_eq_true rfl, Nat.le_of_ble_eq_true rfl⟩ (fun H locs hP hS => ?_)
    refine lv_istore_n (lv' := [(3, .int r16), (0, .ref (a 2)), (1, .int p0), (2, .int p1)]) X.1 X.2.1 dX1_turn_25 rfl hl (by decide) rfl (fun ls hl => ?_)
    refine lv_aload_n X.1 X.2.1 dX1_turn_26 rfl (lv_at hl 1 rfl) ?_
    refine gX1_scale X (fun w h => (List.mem_cons_of_mem _ (List.mem_append_right _ h))) hK hP (List.mem_cons_of_mem _ (List.mem_append_left _ (List.mem_append_left _ (List.mem_of_getElem? (i := 1) rfl)))) dX1_turn_27 ?_
    refine lv_iload_n X.1 X.2.1 dX1_turn_30 rfl (lv_at hl 0 rfl) ?_
    refine lv_lshr (v := ((c_sc r14) >>> (r16.toInt64 &&& 63))) X.1 X.2.1 dX1_turn_31 rfl ?_
    obtain ⟨r18, q19, h⟩ := bd_e h
    refine kc_s (As := [.long ((c_sc r14) >>> (r16.toInt64 &&& 63))]) (rest := []) X (k_X2_inverseOfOdd N ((c_sc r14) >>> (r16.toInt64 &&& 63)) _ q19) (va_cwS 1 X.2.2.2.2 gX1_turn_X2_inverseOfOdd rfl rfl rfl hd_X2_inverseOfOdd ⟨Nat.le_of_ble_eq_true rfl, Nat.le_of_ble_eq_true rfl⟩) hK hP hS hA rfl hl.1 rfl (Nat.le_of_ble_eq_true rfl) dX1_turn_32 ⟨Nat.le_of_ble_eq_true rfl, Nat.le_of_ble_eq_true rfl⟩ (fun H locs hP hS => ?_)
    refine lv_lstore (lv' := [(4, .long r18), (3, .int r16), (0, .ref (a 2)), (1, .int p0), (2, .int p1)]) X.1 X.2.1 dX1_turn_35 hl (by decide) rfl (fun ls hl => ?_)
    refine lv_iconst (v := (0 : Int32)) X.1 X.2.1 dX1_turn_37 (by decide) ?_
    refine lv_istore (lv' := [(6, .int (0 : Int32)), (4, .long r18), (3, .int r16), (0, .ref (a 2)), (1, .int p0), (2, .int p1)]) X.1 X.2.1 dX1_turn_38 hl (by decide) rfl (fun ls hl => ?_)
    exact t_X1_turn_L40 X hr hlk hK hA N N p0 p1 r16 r18 (0 : Int32) r14 _ h _ _ _ hP hD hS (lv_sub hl [3, 4, 5, 2, 1, 0] rfl)
def f_X1_makeStep (N : Nat) (σ : CS) : Option CS := if (c_st σ) = 0 then (f_X1_columnOfY σ).bind (fun r38 => (f_X1_leastRow N r38 σ).bind (fun r40 => if r40 = (-1 : Int32) then lt_ (s_sa σ (2 : Int32)) (fun σ71 => some σ71) else gd (inB (c_st σ) 200) (lt_ (s_en σ (upd (c_en σ) (c_st σ).toNatClampNeg r38)) (fun σ44 => gd (inB r40 12) (gd (inB (c_st σ44) 200) (lt_ (s_lf σ44 (upd (c_lf σ44) (c_st σ44).toNatClampNeg (c_tl σ44 r40.toNatClampNeg))) (fun σ48 => gd (inB (c_st σ48) 200) (lt_ (s_ta σ48 (upd (c_ta σ48) (c_st σ48).toNatClampNeg r40)) (fun σ51 => lt_ (s_st σ51 ((c_st σ51) + (1 : Int32))) (fun σ53 => gd (inB r40 12) ((f_X1_columnOfY σ53).bind (fun r56 => if (c_tl σ53 r40.toNatClampNeg) = r56 then lt_ (s_sa σ53 (1 : Int32)) (fun σ64 => (f_X1_turn N r40 r38 σ64).bind (fun r66 => gd (inB r40 12) (lt_ (s_tl r66 (upd (c_tl r66) r40.toNatClampNeg r38)) (fun σ69 => some σ69)))) else (f_X1_turn N r40 r38 σ53).bind (fun r59 => gd (inB r40 12) (lt_ (s_tl r59 (upd (c_tl r59) r40.toNatClampNeg r38)) (fun σ62 => some σ62))))))))))))))) else gd (inB ((c_st σ) - (1 : Int32)) 200) ((f_X1_complement (c_lf σ ((c_st σ) - (1 : Int32)).toNatClampNeg) σ).bind (fun r3 => (f_X1_leastRow N r3 σ).bind (fun r5 => if r5 = (-1 : Int32) then lt_ (s_sa σ (2 : Int32)) (fun σ36 => some σ36) else gd (inB (c_st σ) 200) (lt_ (s_en σ (upd (c_en σ) (c_st σ).toNatClampNeg r3)) (fun σ9 => gd (inB r5 12) (gd (inB (c_st σ9) 200) (lt_ (s_lf σ9 (upd (c_lf σ9) (c_st σ9).toNatClampNeg (c_tl σ9 r5.toNatClampNeg))) (fun σ13 => gd (inB (c_st σ13) 200) (lt_ (s_ta σ13 (upd (c_ta σ13) (c_st σ13).toNatClampNeg r5)) (fun σ16 => lt_ (s_st σ16 ((c_st σ16) + (1 : Int32))) (fun σ18 => gd (inB r5 12) ((f_X1_columnOfY σ18).bind (fun r21 => if (c_tl σ18 r5.toNatClampNeg) = r21 then lt_ (s_sa σ18 (1 : Int32)) (fun σ29 => (f_X1_turn N r5 r3 σ29).bind (fun r31 => gd (inB r5 12) (lt_ (s_tl r31 (upd (c_tl r31) r5.toNatClampNeg r3)) (fun σ34 => some σ34)))) else (f_X1_turn N r5 r3 σ18).bind (fun r24 => gd (inB r5 12) (lt_ (s_tl r24 (upd (c_tl r24) r5.toNatClampNeg r3)) (fun σ27 => some σ27))))))))))))))))
theorem hd_X1_makeStep : yX1_makeStep.cls = RX1 ∧ yX1_makeStep.cls ≠ "java/lang/invoke/MethodHandle" ∧ yX1_makeStep.cls ≠ "java/lang/invoke/VarHandle" ∧ (parseMethodDescriptor yX1_makeStep.desc).map (fun d => d.parameters.length) = some 0 := by decide +kernel
set_option maxHeartbeats 4000000 in
set_option maxRecDepth 100000 in
theorem k_X1_makeStep {l : Launch} {D : va_G} {k : Nat → ClassId} {a : Nat → Nat} {ρ : Nat → Nat} (N : Nat)  (σ : CS) (R : CS) (h : f_X1_makeStep N σ = some R) : Ct l yX1_makeStep wsX1_makeStep ({ frames := 6, cells := 0, slots := 0, locals := 156 } : Room) D (cT k) (cW k a ρ σ) (cW k a ρ R) [.ref (a 2)] none := by
  refine ct_of (cc := cX1_makeStep) (maxL := 3) (ret := none) (by decide) rfl (Nat.le_of_ble_eq_true rfl) ?_
  intro p e s m args below meth c A ls X hr hlk hK hA hP hD hS hl
  have X : CallFix p m c cX1_makeStep 3 s args wsX1_makeStep RX1 := X
  have hl : lv_has ls 3 [(0, .ref (a 2))] := hl
  rw [f_X1_makeStep] at h
  refine lv_aload_n X.1 X.2.1 dX1_makeStep_0 rfl (lv_at hl 0 rfl) ?_
  refine gX1_steps X (fun w h => (List.mem_cons_of_mem _ (List.mem_append_right _ h))) hK hP (List.mem_cons_of_mem _ (List.mem_append_left _ (List.mem_append_left _ (List.mem_of_getElem? (i := 0) rfl)))) dX1_makeStep_1 ?_
  refine lv_if_ne (tgt := 14) X.1 X.2.1 dX1_makeStep_4 (by decide) (fun c1 => ?_) (fun c1 => ?_)
  · rw [if_neg c1] at h
    refine lv_aload_n X.1 X.2.1 dX1_makeStep_14 rfl (lv_at hl 0 rfl) ?_
    refine lv_aload_n X.1 X.2.1 dX1_makeStep_15 rfl (lv_at hl 0 rfl) ?_
    refine gX1_left X (fun w h => (List.mem_cons_of_mem _ (List.mem_append_right _ h))) hK hP (List.mem_cons_of_mem _ (List.mem_append_left _ (List.mem_append_left _ (List.mem_of_getElem? (i := 1) rfl)))) dX1_makeStep_16 ?_
    refine lv_aload_n X.1 X.2.1 dX1_makeStep_19 rfl (lv_at hl 0 rfl) ?_
    refine gX1_steps X (fun w h => (List.mem_cons_of_mem _ (List.mem_append_right _ h))) hK hP (List.mem_cons_of_mem _ (List.mem_append_left _ (List.mem_append_left _ (List.mem_of_getElem? (i := 0) rfl)))) dX1_makeStep_20 ?_
    refine lv_iconst (v := (1 : Int32)) X.1 X.2.1 dX1_makeStep_23 (by decide) ?_
    refine lv_isub X.1 X.2.1 dX1_makeStep_24 ?_
    obtain ⟨g2, h⟩ := gd_e h
    refine lc_lf X hK hP g2 dX1_makeStep_25 ?_
    obtain ⟨r3, q4, h⟩ := bd_e h
    refine kc_v (As := [.int (c_lf σ ((c_st σ) - (1 : Int32)).toNatClampNeg)]) (rest := []) X (k_X1_complement (c_lf σ ((c_st σ) - (1 : Int32)).toNatClampNeg) σ _ q4) (cwV 1 X.2.2.2.2 gX1_makeStep_X1_complement rfl rfl rfl hd_X1_complement ⟨Nat.le_of_ble_eq_true rfl, Nat.le_of_ble_eq_true rfl⟩) hK hP hD hS hA (va_recv hK hP (ci := 1) (q0 := 2) rfl rfl) rfl hl.1 rfl (Nat.le_of_ble_eq_true rfl) dX1_makeStep_26 ⟨Nat.le_of_ble_eq_true rfl, Nat.le_of_ble_eq_true rfl⟩ (fun H locs hP hD hS => ?_)
    refine lv_istore_n (lv' := [(1, .int r3), (0, .ref (a 2))]) X.1 X.2.1 dX1_makeStep_29 rfl hl (by decide) rfl (fun ls hl => ?_)
    refine lv_aload_n X.1 X.2.1 dX1_makeStep_30 rfl (lv_at hl 1 rfl) ?_
    refine lv_iload_n X.1 X.2.1 dX1_makeStep_31 rfl (lv_at hl 0 rfl) ?_
    obtain ⟨r5, q6, h⟩ := bd_e h
    refine kc_v (As := [.int r3]) (rest := []) X (k_X1_leastRow N r3 σ _ q6) (cwV 1 X.2.2.2.2 gX1_makeStep_X1_leastRow rfl rfl rfl hd_X1_leastRow ⟨Nat.le_of_ble_eq_true rfl, Nat.le_of_ble_eq_true rfl⟩) hK hP hD hS hA (va_recv hK hP (ci := 1) (q0 := 2) rfl rfl) rfl hl.1 rfl (Nat.le_of_ble_eq_true rfl) dX1_makeStep_32 ⟨Nat.le_of_ble_eq_true rfl, Nat.le_of_ble_eq_true rfl⟩ (fun H locs hP hD hS => ?_)
    refine lv_istore_n (lv' := [(2, .int r5), (1, .int r3), (0, .ref (a 2))]) X.1 X.2.1 dX1_makeStep_35 rfl hl (by decide) rfl (fun ls hl => ?_)
    refine lv_iload_n X.1 X.2.1 dX1_makeStep_36 rfl (lv_at hl 0 rfl) ?_
    refine lv_iconst (v := (-1 : Int32)) X.1 X.2.1 dX1_makeStep_37 (by decide) ?_
    refine lv_icmp_ne (tgt := 47) X.1 X.2.1 dX1_makeStep_38 (by decide) (fun c7 => ?_) (fun c7 => ?_)
    · rw [if_neg c7] at h
      refine lv_aload_n X.1 X.2.1 dX1_makeStep_47 rfl (lv_at hl 2 rfl) ?_
      refine gX1_entered X (fun w h => (List.mem_cons_of_mem _ (List.mem_append_right _ h))) hK hP (List.mem_cons_of_mem _ (List.mem_append_left _ (List.mem_append_left _ (List.mem_of_getElem? (i := 3) rfl)))) dX1_makeStep_48 ?_
      refine lv_aload_n X.1 X.2.1 dX1_makeStep_51 rfl (lv_at hl 2 rfl) ?_
      refine gX1_steps X (fun w h => (List.mem_cons_of_mem _ (List.mem_append_right _ h))) hK hP (List.mem_cons_of_mem _ (List.mem_append_left _ (List.mem_append_left _ (List.mem_of_getElem? (i := 0) rfl)))) dX1_makeStep_52 ?_
      refine lv_iload_n X.1 X.2.1 dX1_makeStep_55 rfl (lv_at hl 1 rfl) ?_
      obtain ⟨g8, h⟩ := gd_e h
      obtain ⟨σ9, e10, h⟩ := lt_e h
      refine tc_en X hK hP hD hS g8 e10 dX1_makeStep_56 (fun H locs hP hD hS => ?_)
      refine lv_aload_n X.1 X.2.1 dX1_makeStep_57 rfl (lv_at hl 2 rfl) ?_
      refine gX1_left X (fun w h => (List.mem_cons_of_mem _ (List.mem_append_right _ h))) hK hP (List.mem_cons_of_mem _ (List.mem_append_left _ (List.mem_append_left _ (List.mem_of_getElem? (i := 1) rfl)))) dX1_makeStep_58 ?_
      refine lv_aload_n X.1 X.2.1 dX1_makeStep_61 rfl (lv_at hl 2 rfl) ?_
      refine gX1_steps X (fun w h => (List.mem_cons_of_mem _ (List.mem_append_right _ h))) hK hP (List.mem_cons_of_mem _ (List.mem_append_left _ (List.mem_append_left _ (List.mem_of_getElem? (i := 0) rfl)))) dX1_makeStep_62 ?_
      refine lv_aload_n X.1 X.2.1 dX1_makeStep_65 rfl (lv_at hl 2 rfl) ?_
      refine gX1_tells X (fun w h => (List.mem_cons_of_mem _ (List.mem_append_right _ h))) hK hP (List.mem_cons_of_mem _ (List.mem_append_left _ (List.mem_append_left _ (List.mem_of_getElem? (i := 4) rfl)))) dX1_makeStep_66 ?_
      refine lv_iload_n X.1 X.2.1 dX1_makeStep_69 rfl (lv_at hl 0 rfl) ?_
      obtain ⟨g11, h⟩ := gd_e h
      refine lc_tl X hK hP g11 dX1_makeStep_70 ?_
      obtain ⟨g12, h⟩ := gd_e h
      obtain ⟨σ13, e14, h⟩ := lt_e h
      refine tc_lf X hK hP hD hS g12 e14 dX1_makeStep_71 (fun H locs hP hD hS => ?_)
      refine lv_aload_n X.1 X.2.1 dX1_makeStep_72 rfl (lv_at hl 2 rfl) ?_
      refine gX1_turnedAt X (fun w h => (List.mem_cons_of_mem _ (List.mem_append_right _ h))) hK hP (List.mem_cons_of_mem _ (List.mem_append_left _ (List.mem_append_left _ (List.mem_of_getElem? (i := 5) rfl)))) dX1_makeStep_73 ?_
      refine lv_aload_n X.1 X.2.1 dX1_makeStep_76 rfl (lv_at hl 2 rfl) ?_
      refine gX1_steps X (fun w h => (List.mem_cons_of_mem _ (List.mem_append_right _ h))) hK hP (List.mem_cons_of_mem _ (List.mem_append_left _ (List.mem_append_left _ (List.mem_of_getElem? (i := 0) rfl)))) dX1_makeStep_77 ?_
      refine lv_iload_n X.1 X.2.1 dX1_makeStep_80 rfl (lv_at hl 0 rfl) ?_
      obtain ⟨g15, h⟩ := gd_e h
      obtain ⟨σ16, e17, h⟩ := lt_e h
      refine tc_ta X hK hP hD hS g15 e17 dX1_makeStep_81 (fun H locs hP hD hS => ?_)
      refine lv_aload_n X.1 X.2.1 dX1_makeStep_82 rfl (lv_at hl 2 rfl) ?_
      refine lv_dup X.1 X.2.1 dX1_makeStep_83 rfl ?_
      refine gX1_steps X (fun w h => (List.mem_cons_of_mem _ (List.mem_append_right _ h))) hK hP (List.mem_cons_of_mem _ (List.mem_append_left _ (List.mem_append_left _ (List.mem_of_getElem? (i := 0) rfl)))) dX1_makeStep_84 ?_
      refine lv_iconst (v := (1 : Int32)) X.1 X.2.1 dX1_makeStep_87 (by decide) ?_
      refine lv_iadd X.1 X.2.1 dX1_makeStep_88 ?_
      obtain ⟨σ18, e19, h⟩ := lt_e h
      refine pX1_steps X (fun w h => (List.mem_cons_of_mem _ (List.mem_append_right _ h))) hK hP hD hS (List.mem_cons_of_mem _ (List.mem_append_left _ (List.mem_append_left _ (List.mem_of_getElem? (i := 0) rfl)))) e19 dX1_makeStep_89 (fun H locs hP hD hS => ?_)
      refine lv_aload_n X.1 X.2.1 dX1_makeStep_92 rfl (lv_at hl 2 rfl) ?_
      refine gX1_tells X (fun w h => (List.mem_cons_of_mem _ (List.mem_append_right _ h))) hK hP (List.mem_cons_of_mem _ (List.mem_append_left _ (List.mem_append_left _ (List.mem_of_getElem? (i := 4) rfl)))) dX1_makeStep_93 ?_
      refine lv_iload_n X.1 X.2.1 dX1_makeStep_96 rfl (lv_at hl 0 rfl) ?_
      obtain ⟨g20, h⟩ := gd_e h
      refine lc_tl X hK hP g20 dX1_makeStep_97 ?_
      refine lv_aload_n X.1 X.2.1 dX1_makeStep_98 rfl (lv_at hl 2 rfl) ?_
      obtain ⟨r21, q22, h⟩ := bd_e h
      refine kc_v (As := []) (rest := [.int (c_tl σ18 r5.toNatClampNeg)]) X (k_X1_columnOfY σ18 _ q22) (cwV 0 X.2.2.2.2 gX1_makeStep_X1_columnOfY rfl rfl rfl hd_X1_columnOfY ⟨Nat.le_of_ble_eq_true rfl, Nat.le_of_ble_eq_true rfl⟩) hK hP hD hS hA (va_recv hK hP (ci := 1) (q0 := 2) rfl rfl) rfl hl.1 rfl (Nat.le_of_ble_eq_true rfl) dX1_makeStep_99 ⟨Nat.le_of_ble_eq_true rfl, Nat.le_of_ble_eq_true rfl⟩ (fun H locs hP hD hS => ?_)
      refine lv_icmp_ne (tgt := 110) X.1 X.2.1 dX1_makeStep_102 (by decide) (fun c23 => ?_) (fun c23 => ?_)
      · rw [if_neg c23] at h
        refine lv_aload_n X.1 X.2.1 dX1_makeStep_110 rfl (lv_at hl 2 rfl) ?_
        refine lv_iload_n X.1 X.2.1 dX1_makeStep_111 rfl (lv_at hl 0 rfl) ?_
        refine lv_iload_n X.1 X.2.1 dX1_makeStep_112 rfl (lv_at hl 1 rfl) ?_
        obtain ⟨r24, q25, h⟩ := bd_e h
        refine kc_v (As := [.int r5, .int r3]) (rest := []) X (k_X1_turn N r5 r3 σ18 _ q25) (cwV 2 X.2.2.2.2 gX1_makeStep_X1_turn rfl rfl rfl hd_X1_turn ⟨Nat.le_of_ble_eq_true rfl, Nat.le_of_ble_eq_true rfl⟩) hK hP hD hS hA (va_recv hK hP (ci := 1) (q0 := 2) rfl rfl) rfl hl.1 rfl (Nat.le_of_ble_eq_true rfl) dX1_makeStep_113 ⟨Nat.le_of_ble_eq_true rfl, Nat.le_of_ble_eq_true rfl⟩ (fun H locs hP hD hS => ?_)
        refine lv_aload_n X.1 X.2.1 dX1_makeStep_116 rfl (lv_at hl 2 rfl) ?_
        refine gX1_tells X (fun w h => (List.mem_cons_of_mem _ (List.mem_append_right _ h))) hK hP (List.mem_cons_of_mem _ (List.mem_append_left _ (List.mem_append_left _ (List.mem_of_getElem? (i := 4) rfl)))) dX1_makeStep_117 ?_
        refine lv_iload_n X.1 X.2.1 dX1_makeStep_120 rfl (lv_at hl 0 rfl) ?_
        refine lv_iload_n X.1 X.2.1 dX1_makeStep_121 rfl (lv_at hl 1 rfl) ?_
        obtain ⟨g26, h⟩ := gd_e h
        obtain ⟨σ27, e28, h⟩ := lt_e h
        refine tc_tl X hK hP hD hS g26 e28 dX1_makeStep_122 (fun H locs hP hD hS => ?_)
        have h := sm_e h
        subst h
        exact rt_v X hr hlk hK hP hD hS dX1_makeStep_123
      · rw [if_pos c23] at h
        refine lv_aload_n X.1 X.2.1 dX1_makeStep_105 rfl (lv_at hl 2 rfl) ?_
        refine lv_iconst (v := (1 : Int32)) X.1 X.2.1 dX1_makeStep_106 (by decide) ?_
        obtain ⟨σ29, e30, h⟩ := lt_e h
        refine pX1_state X (fun w h => (List.mem_cons_of_mem _ (List.mem_append_right _ h))) hK hP hD hS (List.mem_cons_of_mem _ (List.mem_append_left _ (List.mem_append_left _ (List.mem_of_getElem? (i := 2) rfl)))) e30 dX1_makeStep_107 (fun H locs hP hD hS => ?_)
        refine lv_aload_n X.1 X.2.1 dX1_makeStep_110 rfl (lv_at hl 2 rfl) ?_
        refine lv_iload_n X.1 X.2.1 dX1_makeStep_111 rfl (lv_at hl 0 rfl) ?_
        refine lv_iload_n X.1 X.2.1 dX1_makeStep_112 rfl (lv_at hl 1 rfl) ?_
        obtain ⟨r31, q32, h⟩ := bd_e h
        refine kc_v (As := [.int r5, .int r3]) (rest := []) X (k_X1_turn N r5 r3 σ29 _ q32) (cwV 2 X.2.2.2.2 gX1_makeStep_X1_turn rfl rfl rfl hd_X1_turn ⟨Nat.le_of_ble_eq_true rfl, Nat.le_of_ble_eq_true rfl⟩) hK hP hD hS hA (va_recv hK hP (ci := 1) (q0 := 2) rfl rfl) rfl hl.1 rfl (Nat.le_of_ble_eq_true rfl) dX1_makeStep_113 ⟨Nat.le_of_ble_eq_true rfl, Nat.le_of_ble_eq_true rfl⟩ (fun H locs hP hD hS => ?_)
        refine lv_aload_n X.1 X.2.1 dX1_makeStep_116 rfl (lv_at hl 2 rfl) ?_
        refine gX1_tells X (fun w h => (List.mem_cons_of_mem _ (List.mem_append_right _ h))) hK hP (List.mem_cons_of_mem _ (List.mem_append_left _ (List.mem_append_left _ (List.mem_of_getElem? (i := 4) rfl)))) dX1_makeStep_117 ?_
        refine lv_iload_n X.1 X.2.1 dX1_makeStep_120 rfl (lv_at hl 0 rfl) ?_
        refine lv_iload_n X.1 X.2.1 dX1_makeStep_121 rfl (lv_at hl 1 rfl) ?_
        obtain ⟨g33, h⟩ := gd_e h
        obtain ⟨σ34, e35, h⟩ := lt_e h
        refine tc_tl X hK hP hD hS g33 e35 dX1_makeStep_122 (fun H locs hP hD hS => ?_)
        have h := sm_e h
        subst h
        exact rt_v X hr hlk hK hP hD hS dX1_makeStep_123
    · rw [if_pos c7] at h
      refine lv_aload_n X.1 X.2.1 dX1_makeStep_41 rfl (lv_at hl 2 rfl) ?_
      refine lv_iconst (v := (2 : Int32)) X.1 X.2.1 dX1_makeStep_42 (by decide) ?_
      obtain ⟨σ36, e37, h⟩ := lt_e h
      refine pX1_state X (fun w h => (List.mem_cons_of_mem _ (List.mem_append_right _ h))) hK hP hD hS (List.mem_cons_of_mem _ (List.mem_append_left _ (List.mem_append_left _ (List.mem_of_getElem? (i := 2) rfl)))) e37 dX1_makeStep_43 (fun H locs hP hD hS => ?_)
      have h := sm_e h
      subst h
      exact rt_v X hr hlk hK hP hD hS dX1_makeStep_46
  · rw [if_pos c1] at h
    refine lv_aload_n X.1 X.2.1 dX1_makeStep_7 rfl (lv_at hl 0 rfl) ?_
    obtain ⟨r38, q39, h⟩ := bd_e h
    refine kc_v (As := []) (rest := []) X (k_X1_columnOfY σ _ q39) (cwV 0 X.2.2.2.2 gX1_makeStep_X1_columnOfY rfl rfl rfl hd_X1_columnOfY ⟨Nat.le_of_ble_eq_true rfl, Nat.le_of_ble_eq_true rfl⟩) hK hP hD hS hA (va_recv hK hP (ci := 1) (q0 := 2) rfl rfl) rfl hl.1 rfl (Nat.le_of_ble_eq_true rfl) dX1_makeStep_8 ⟨Nat.le_of_ble_eq_true rfl, Nat.le_of_ble_eq_true rfl⟩ (fun H locs hP hD hS => ?_)
    refine lv_goto (tgt := 29) X.1 X.2.1 dX1_makeStep_11 (by decide) ?_
    refine lv_istore_n (lv' := [(1, .int r38), (0, .ref (a 2))]) X.1 X.2.1 dX1_makeStep_29 rfl hl (by decide) rfl (fun ls hl => ?_)
    refine lv_aload_n X.1 X.2.1 dX1_makeStep_30 rfl (lv_at hl 1 rfl) ?_
    refine lv_iload_n X.1 X.2.1 dX1_makeStep_31 rfl (lv_at hl 0 rfl) ?_
    obtain ⟨r40, q41, h⟩ := bd_e h
    refine kc_v (As := [.int r38]) (rest := []) X (k_X1_leastRow N r38 σ _ q41) (cwV 1 X.2.2.2.2 gX1_makeStep_X1_leastRow rfl rfl rfl hd_X1_leastRow ⟨Nat.le_of_ble_eq_true rfl, Nat.le_of_ble_eq_true rfl⟩) hK hP hD hS hA (va_recv hK hP (ci := 1) (q0 := 2) rfl rfl) rfl hl.1 rfl (Nat.le_of_ble_eq_true rfl) dX1_makeStep_32 ⟨Nat.le_of_ble_eq_true rfl, Nat.le_of_ble_eq_true rfl⟩ (fun H locs hP hD hS => ?_)
    refine lv_istore_n (lv' := [(2, .int r40), (1, .int r38), (0, .ref (a 2))]) X.1 X.2.1 dX1_makeStep_35 rfl hl (by decide) rfl (fun ls hl => ?_)
    refine lv_iload_n X.1 X.2.1 dX1_makeStep_36 rfl (lv_at hl 0 rfl) ?_
    refine lv_iconst (v := (-1 : Int32)) X.1 X.2.1 dX1_makeStep_37 (by decide) ?_
    refine lv_icmp_ne (tgt := 47) X.1 X.2.1 dX1_makeStep_38 (by decide) (fun c42 => ?_) (fun c42 => ?_)
    · rw [if_neg c42] at h
      refine lv_aload_n X.1 X.2.1 dX1_makeStep_47 rfl (lv_at hl 2 rfl) ?_
      refine gX1_entered X (fun w h => (List.mem_cons_of_mem _ (List.mem_append_right _ h))) hK hP (List.mem_cons_of_mem _ (List.mem_append_left _ (List.mem_append_left _ (List.mem_of_getElem? (i := 3) rfl)))) dX1_makeStep_48 ?_
      refine lv_aload_n X.1 X.2.1 dX1_makeStep_51 rfl (lv_at hl 2 rfl) ?_
      refine gX1_steps X (fun w h => (List.mem_cons_of_mem _ (List.mem_append_right _ h))) hK hP (List.mem_cons_of_mem _ (List.mem_append_left _ (List.mem_append_left _ (List.mem_of_getElem? (i := 0) rfl)))) dX1_makeStep_52 ?_
      refine lv_iload_n X.1 X.2.1 dX1_makeStep_55 rfl (lv_at hl 1 rfl) ?_
      obtain ⟨g43, h⟩ := gd_e h
      obtain ⟨σ44, e45, h⟩ := lt_e h
      refine tc_en X hK hP hD hS g43 e45 dX1_makeStep_56 (fun H locs hP hD hS => ?_)
      refine lv_aload_n X.1 X.2.1 dX1_makeStep_57 rfl (lv_at hl 2 rfl) ?_
      refine gX1_left X (fun w h => (List.mem_cons_of_mem _ (List.mem_append_right _ h))) hK hP (List.mem_cons_of_mem _ (List.mem_append_left _ (List.mem_append_left _ (List.mem_of_getElem? (i := 1) rfl)))) dX1_makeStep_58 ?_
      refine lv_aload_n X.1 X.2.1 dX1_makeStep_61 rfl (lv_at hl 2 rfl) ?_
      refine gX1_steps X (fun w h => (List.mem_cons_of_mem _ (List.mem_append_right _ h))) hK hP (List.mem_cons_of_mem _ (List.mem_append_left _ (List.mem_append_left _ (List.mem_of_getElem? (i := 0) rfl)))) dX1_makeStep_62 ?_
      refine lv_aload_n X.1 X.2.1 dX1_makeStep_65 rfl (lv_at hl 2 rfl) ?_
      refine gX1_tells X (fun w h => (List.mem_cons_of_mem _ (List.mem_append_right _ h))) hK hP (List.mem_cons_of_mem _ (List.mem_append_left _ (List.mem_append_left _ (List.mem_of_getElem? (i := 4) rfl)))) dX1_makeStep_66 ?_
      refine lv_iload_n X.1 X.2.1 dX1_makeStep_69 rfl (lv_at hl 0 rfl) ?_
      obtain ⟨g46, h⟩ := gd_e h
      refine lc_tl X hK hP g46 dX1_makeStep_70 ?_
      obtain ⟨g47, h⟩ := gd_e h
      obtain ⟨σ48, e49, h⟩ := lt_e h
      refine tc_lf X hK hP hD hS g47 e49 dX1_makeStep_71 (fun H locs hP hD hS => ?_)
      refine lv_aload_n X.1 X.2.1 dX1_makeStep_72 rfl (lv_at hl 2 rfl) ?_
      refine gX1_turnedAt X (fun w h => (List.mem_cons_of_mem _ (List.mem_append_right _ h))) hK hP (List.mem_cons_of_mem _ (List.mem_append_left _ (List.mem_append_left _ (List.mem_of_getElem? (i := 5) rfl)))) dX1_makeStep_73 ?_
      refine lv_aload_n X.1 X.2.1 dX1_makeStep_76 rfl (lv_at hl 2 rfl) ?_
      refine gX1_steps X (fun w h => (List.mem_cons_of_mem _ (List.mem_append_right _ h))) hK hP (List.mem_cons_of_mem _ (List.mem_append_left _ (List.mem_append_left _ (List.mem_of_getElem? (i := 0) rfl)))) dX1_makeStep_77 ?_
      refine lv_iload_n X.1 X.2.1 dX1_makeStep_80 rfl (lv_at hl 0 rfl) ?_
      obtain ⟨g50, h⟩ := gd_e h
      obtain ⟨σ51, e52, h⟩ := lt_e h
      refine tc_ta X hK hP hD hS g50 e52 dX1_makeStep_81 (fun H locs hP hD hS => ?_)
      refine lv_aload_n X.1 X.2.1 dX1_makeStep_82 rfl (lv_at hl 2 rfl) ?_
      refine lv_dup X.1 X.2.1 dX1_makeStep_83 rfl ?_
      refine gX1_steps X (fun w h => (List.mem_cons_of_mem _ (List.mem_append_right _ h))) hK hP (List.mem_cons_of_mem _ (List.mem_append_left _ (List.mem_append_left _ (List.mem_of_getElem? (i := 0) rfl)))) dX1_makeStep_84 ?_
      refine lv_iconst (v := (1 : Int32)) X.1 X.2.1 dX1_makeStep_87 (by decide) ?_
      refine lv_iadd X.1 X.2.1 dX1_makeStep_88 ?_
      obtain ⟨σ53, e54, h⟩ := lt_e h
      refine pX1_steps X (fun w h => (List.mem_cons_of_mem _ (List.mem_append_right _ h))) hK hP hD hS (List.mem_cons_of_mem _ (List.mem_append_left _ (List.mem_append_left _ (List.mem_of_getElem? (i := 0) rfl)))) e54 dX1_makeStep_89 (fun H locs hP hD hS => ?_)
      refine lv_aload_n X.1 X.2.1 dX1_makeStep_92 rfl (lv_at hl 2 rfl) ?_
      refine gX1_tells X (fun w h => (List.mem_cons_of_mem _ (List.mem_append_right _ h))) hK hP (List.mem_cons_of_mem _ (List.mem_append_left _ (List.mem_append_left _ (List.mem_of_getElem? (i := 4) rfl)))) dX1_makeStep_93 ?_
      refine lv_iload_n X.1 X.2.1 dX1_makeStep_96 rfl (lv_at hl 0 rfl) ?_
      obtain ⟨g55, h⟩ := gd_e h
      refine lc_tl X hK hP g55 dX1_makeStep_97 ?_
      refine lv_aload_n X.1 X.2.1 dX1_makeStep_98 rfl (lv_at hl 2 rfl) ?_
      obtain ⟨r56, q57, h⟩ := bd_e h
      refine kc_v (As := []) (rest := [.int (c_tl σ53 r40.toNatClampNeg)]) X (k_X1_columnOfY σ53 _ q57) (cwV 0 X.2.2.2.2 gX1_makeStep_X1_columnOfY rfl rfl rfl hd_X1_columnOfY ⟨Nat.le_of_ble_eq_true rfl, Nat.le_of_ble_eq_true rfl⟩) hK hP hD hS hA (va_recv hK hP (ci := 1) (q0 := 2) rfl rfl) rfl hl.1 rfl (Nat.le_of_ble_eq_true rfl) dX1_makeStep_99 ⟨Nat.le_of_ble_eq_true rfl, Nat.le_of_ble_eq_true rfl⟩ (fun H locs hP hD hS => ?_)
      refine lv_icmp_ne (tgt := 110) X.1 X.2.1 dX1_makeStep_102 (by decide) (fun c58 => ?_) (fun c58 => ?_)
      · rw [if_neg c58] at h
        refine lv_aload_n X.1 X.2.1 dX1_makeStep_110 rfl (lv_at hl 2 rfl) ?_
        refine lv_iload_n X.1 X.2.1 dX1_makeStep_111 rfl (lv_at hl 0 rfl) ?_
        refine lv_iload_n X.1 X.2.1 dX1_makeStep_112 rfl (lv_at hl 1 rfl) ?_
        obtain ⟨r59, q60, h⟩ := bd_e h
        refine kc_v (As := [.int r40, .int r38]) (rest := []) X (k_X1_turn N r40 r38 σ53 _ q60) (cwV 2 X.2.2.2.2 gX1_makeStep_X1_turn rfl rfl rfl hd_X1_turn ⟨Nat.le_of_ble_eq_true rfl, Nat.le_of_ble_eq_true rfl⟩) hK hP hD hS hA (va_recv hK hP (ci := 1) (q0 := 2) rfl rfl) rfl hl.1 rfl (Nat.le_of_ble_eq_true rfl) dX1_makeStep_113 ⟨Nat.le_of_ble_eq_true rfl, Nat.le_of_ble_eq_true rfl⟩ (fun H locs hP hD hS => ?_)
        refine lv_aload_n X.1 X.2.1 dX1_makeStep_116 rfl (lv_at hl 2 rfl) ?_
        refine gX1_tells X (fun w h => (List.mem_cons_of_mem _ (List.mem_append_right _ h))) hK hP (List.mem_cons_of_mem _ (List.mem_append_left _ (List.mem_append_left _ (List.mem_of_getElem? (i := 4) rfl)))) dX1_makeStep_117 ?_
        refine lv_iload_n X.1 X.2.1 dX1_makeStep_120 rfl (lv_at hl 0 rfl) ?_
        refine lv_iload_n X.1 X.2.1 dX1_makeStep_121 rfl (lv_at hl 1 rfl) ?_
        obtain ⟨g61, h⟩ := gd_e h
        obtain ⟨σ62, e63, h⟩ := lt_e h
        refine tc_tl X hK hP hD hS g61 e63 dX1_makeStep_122 (fun H locs hP hD hS => ?_)
        have h := sm_e h
        subst h
        exact rt_v X hr hlk hK hP hD hS dX1_makeStep_123
      · rw [if_pos c58] at h
        refine lv_aload_n X.1 X.2.1 dX1_makeStep_105 rfl (lv_at hl 2 rfl) ?_
        refine lv_iconst (v := (1 : Int32)) X.1 X.2.1 dX1_makeStep_106 (by decide) ?_
        obtain ⟨σ64, e65, h⟩ := lt_e h
        refine pX1_state X (fun w h => (List.mem_cons_of_mem _ (List.mem_append_right _ h))) hK hP hD hS (List.mem_cons_of_mem _ (List.mem_append_left _ (List.mem_append_left _ (List.mem_of_getElem? (i := 2) rfl)))) e65 dX1_makeStep_107 (fun H locs hP hD hS => ?_)
        refine lv_aload_n X.1 X.2.1 dX1_makeStep_110 rfl (lv_at hl 2 rfl) ?_
        refine lv_iload_n X.1 X.2.1 dX1_makeStep_111 rfl (lv_at hl 0 rfl) ?_
        refine lv_iload_n X.1 X.2.1 dX1_makeStep_112 rfl (lv_at hl 1 rfl) ?_
        obtain ⟨r66, q67, h⟩ := bd_e h
        refine kc_v (As := [.int r40, .int r38]) (rest := []) X (k_X1_turn N r40 r38 σ64 _ q67) (cwV 2 X.2.2.2.2 gX1_makeStep_X1_turn rfl rfl rfl hd_X1_turn ⟨Nat.le_of_ble_eq_true rfl, Nat.le_of_ble_eq_true rfl⟩) hK hP hD hS hA (va_recv hK hP (ci := 1) (q0 := 2) rfl rfl) rfl hl.1 rfl (Nat.le_of_ble_eq_true rfl) dX1_makeStep_113 ⟨Nat.le_of_ble_eq_true rfl, Nat.le_of_ble_eq_true rfl⟩ (fun H locs hP hD hS => ?_)
        refine lv_aload_n X.1 X.2.1 dX1_makeStep_116 rfl (lv_at hl 2 rfl) ?_
        refine gX1_tells X (fun w h => (List.mem_cons_of_mem _ (List.mem_append_right _ h))) hK hP (List.mem_cons_of_mem _ (List.mem_append_left _ (List.mem_append_left _ (List.mem_of_getElem? (i := 4) rfl)))) dX1_makeStep_117 ?_
        refine lv_iload_n X.1 X.2.1 dX1_makeStep_120 rfl (lv_at hl 0 rfl) ?_
        refine lv_iload_n X.1 X.2.1 dX1_makeStep_121 rfl (lv_at hl 1 rfl) ?_
        obtain ⟨g68, h⟩ := gd_e h
        obtain ⟨σ69, e70, h⟩ := lt_e h
        refine tc_tl X hK hP hD hS g68 e70 dX1_makeStep_122 (fun H locs hP hD hS => ?_)
        have h := sm_e h
        subst h
        exact rt_v X hr hlk hK hP hD hS dX1_makeStep_123
    · rw [if_pos c42] at h
      refine lv_aload_n X.1 X.2.1 dX1_makeStep_41 rfl (lv_at hl 2 rfl) ?_
      refine lv_iconst (v := (2 : Int32)) X.1 X.2.1 dX1_makeStep_42 (by decide) ?_
      obtain ⟨σ71, e72, h⟩ := lt_e h
      refine pX1_state X (fun w h => (List.mem_cons_of_mem _ (List.mem_append_right _ h))) hK hP hD hS (List.mem_cons_of_mem _ (List.mem_append_left _ (List.mem_append_left _ (List.mem_of_getElem? (i := 2) rfl)))) e72 dX1_makeStep_43 (fun H locs hP hD hS => ?_)
      have h := sm_e h
      subst h
      exact rt_v X hr hlk hK hP hD hS dX1_makeStep_46
def f_X2_commonDivisor_L3 (N : Nat) : Nat → Int64 → Int64 → Int32 → Option Int64
  | 0, _, _, _ => none
  | n + 1, v0, v2, v4 => if (100 : Int32) ≤ v4 then some v0 else if (lg_cmp v2 (0 : Int64)) = 0 then some v0 else gd (!decide (v2 = 0)) (lt_ (v0 - v0 / v2 * v2) (fun x4 => lt_ (v4 + (1 : Int32)) (fun x6 => f_X2_commonDivisor_L3 N n v2 x4 x6)))
set_option maxHeartbeats 4000000 in
set_option maxRecDepth 100000 in
theorem t_X2_commonDivisor_L3 {p : Program} {l : Launch} {e : Env} {s : State} {m : MethodId} {args : Array Value} {below : List Frame} {meth : Method} {c : Code} {D : va_G} {A : Nat → Prop} (X : CallFix p m c cX2_commonDivisor 7 s args wsX2_commonDivisor RX2) (hr : meth.sig.returnType = some .long) (hlk : meth.locks = false) (hK : va_K D vwCl ([]) s) (hA : ∀ q : Nat, s.heap.size ≤ q → A q) (N : Nat) : ∀ (n : Nat) (v0 : Int64) (v2 : Int64) (v4 : Int32) (R : Int64), f_X2_commonDivisor_L3 N n v0 v2 v4 = some R → ∀ (H : Heap) (locs : List Loc) (ls : Array Slot), va_P D vwCl ([]) H → va_D A ([]) → va_S A s.heap H locs → lv_has ls 7 [(0, .long v0), (2, .long v2), (4, .int v4)] → W p l e ({ frames := 0, cells := 0, slots := 0, locals := 0 } : Room) s m args below meth c H locs 0 0 (MQ below (cQ D ([]) A ([]) (some (.long R))) args s 0 0 A) (F0 m 3 ls []) := by
  intro n
  induction n with
  | zero =>
    intro v0 v2 v4  R h
    exact absurd h (by simp [f_X2_commonDivisor_L3])
  | succ n ih =>
    intro v0 v2 v4  R h H locs ls hP hD hS hl
    rw [f_X2_commonDivisor_L3] at h
    refine lv_iload X.1 X.2.1 dX2_commonDivisor_3 (lv_at hl 2 rfl) ?_
    refine lv_bipush (v := (100 : Int32)) X.1 X.2.1 dX2_commonDivisor_5 (by decide) ?_
    refine lv_icmp_ge (tgt := 32) X.1 X.2.1 dX2_commonDivisor_7 (by decide) (fun c1 => ?_) (fun c1 => ?_)
    · rw [if_pos c1] at h
      refine lv_lload_n X.1 X.2.1 dX2_commonDivisor_32 rfl (lv_at hl 0 rfl) ?_
      have h := sm_e h
      subst h
      exact rt_l X hr hlk hK hP hD hS dX2_commonDivisor_33
    · rw [if_neg c1] at h
      refine lv_lload_n X.1 X.2.1 dX2_commonDivisor_10 rfl (lv_at hl 1 rfl) ?_
      refine lv_lconst (v := (0 : Int64)) X.1 X.2.1 dX2_commonDivisor_11 (by decide) ?_
      refine W.lcmp X.1 X.2.1 dX2_commonDivisor_12 ?_
      refine lv_if_eq (tgt := 32) X.1 X.2.1 dX2_commonDivisor_13 (by decide) (fun c2 => ?_) (fun c2 => ?_)
      · rw [if_pos c2] at h
        refine lv_lload_n X.1 X.2.1 dX2_commonDivisor_32 rfl (lv_at hl 0 rfl) ?_
        have h := sm_e h
        subst h
        exact rt_l X hr hlk hK hP hD hS dX2_commonDivisor_33
      · rw [if_neg c2] at h
        refine lv_lload_n X.1 X.2.1 dX2_commonDivisor_16 rfl (lv_at hl 0 rfl) ?_
        refine lv_lload_n X.1 X.2.1 dX2_commonDivisor_17 rfl (lv_at hl 1 rfl) ?_
        obtain ⟨g3, h⟩ := gd_e h
        refine lv_lrem X.1 X.2.1 dX2_commonDivisor_18 (nz_e g3) ?_
        obtain ⟨x4, e5, h⟩ := lt_e h
        refine nm_l e5 ?_
        refine lv_lstore (lv' := [(5, .long x4), (0, .long v0), (2, .long v2), (4, .int v4)]) X.1 X.2.1 dX2_commonDivisor_19 hl (by decide) rfl (fun ls hl => ?_)
        refine lv_lload_n X.1 X.2.1 dX2_commonDivisor_21 rfl (lv_at hl 2 rfl) ?_
        refine lv_lstore_n (lv' := [(0, .long v2), (5, .long x4), (2, .long v2), (4, .int v4)]) X.1 X.2.1 dX2_commonDivisor_22 rfl hl (by decide) rfl (fun ls hl => ?_)
        refine lv_lload X.1 X.2.1 dX2_commonDivisor_23 (lv_at hl 1 rfl) ?_
        refine lv_lstore_n (lv' := [(2, .long x4), (0, .long v2), (5, .long x4), (4, .int v4)]) X.1 X.2.1 dX2_commonDivisor_25 rfl hl (by decide) rfl (fun ls hl => ?_)
        obtain ⟨x6, e7, h⟩ := lt_e h
        refine lv_iinc (v := x6) (lv' := [(4, .int x6), (2, .long x4), (0, .long v2), (5, .long x4)]) X.1 X.2.1 dX2_commonDivisor_26 hl (k := 3) rfl e7.symm (by decide) rfl (fun ls hl => ?_)
        refine lv_goto (tgt := 3) X.1 X.2.1 dX2_commonDivisor_29 (by decide) ?_
        exact ih v2 x4 x6  _ h _ _ _ hP hD hS (lv_sub hl [2, 1, 0] rfl)
def f_X2_commonDivisor (N : Nat) (p0 : Int64) (p1 : Int64) : Option Int64 := f_X2_commonDivisor_L3 N N p0 p1 (0 : Int32)
theorem hd_X2_commonDivisor : yX2_commonDivisor.cls ≠ "java/lang/invoke/MethodHandle" ∧ yX2_commonDivisor.cls ≠ "java/lang/invoke/VarHandle" ∧ (parseMethodDescriptor yX2_commonDivisor.desc).map (fun d => d.parameters.length) = some 2 := by decide +kernel
set_option maxHeartbeats 4000000 in
set_option maxRecDepth 100000 in
theorem k_X2_commonDivisor {l : Launch} {D : va_G} (N : Nat) (p0 : Int64) (p1 : Int64) (R : Int64) (h : f_X2_commonDivisor N p0 p1 = some R) : Ct l yX2_commonDivisor wsX2_commonDivisor ({ frames := 0, cells := 0, slots := 0, locals := 0 } : Room) D ([]) ([]) ([]) [.long p0, .long p1] (some (.long R)) := by
  refine ct_of (cc := cX2_commonDivisor) (maxL := 7) (ret := (some .long)) (by decide) rfl (Nat.le_of_ble_eq_true rfl) ?_
  intro p e s m args below meth c A ls X hr hlk hK hA hP hD hS hl
  have X : CallFix p m c cX2_commonDivisor 7 s args wsX2_commonDivisor RX2 := X
  have hl : lv_has ls 7 [(0, .long p0), (2, .long p1)] := hl
  rw [f_X2_commonDivisor] at h
  refine lv_iconst (v := (0 : Int32)) X.1 X.2.1 dX2_commonDivisor_0 (by decide) ?_
  refine lv_istore (lv' := [(4, .int (0 : Int32)), (0, .long p0), (2, .long p1)]) X.1 X.2.1 dX2_commonDivisor_1 hl (by decide) rfl (fun ls hl => ?_)
  exact t_X2_commonDivisor_L3 X hr hlk hK hA N N p0 p1 (0 : Int32)  _ h _ _ _ hP hD hS (lv_sub hl [1, 2, 0] rfl)
def f_X2_part (N : Nat) (p0 : Int64) (p1 : Int64) (p2 : Int32) : Option Int64 := if p2 = 0 then (f_X2_commonDivisor N (if 0 < p0 then p0 else -p0) p1 ).bind (fun r6 => if (lg_cmp r6 (1 : Int64)) ≤ 0 then some p0 else gd (!decide (r6 = 0)) (some (p0 / r6))) else (f_X2_commonDivisor N (if 0 < p0 then p0 else -p0) p1 ).bind (fun r2 => if (lg_cmp r2 (1 : Int64)) ≤ 0 then some p1 else gd (!decide (r2 = 0)) (some (p1 / r2)))
theorem hd_X2_part : yX2_part.cls ≠ "java/lang/invoke/MethodHandle" ∧ yX2_part.cls ≠ "java/lang/invoke/VarHandle" ∧ (parseMethodDescriptor yX2_part.desc).map (fun d => d.parameters.length) = some 3 := by decide +kernel
set_option maxHeartbeats 4000000 in
set_option maxRecDepth 100000 in
theorem k_X2_part {l : Launch} {D : va_G} (N : Nat) (p0 : Int64) (p1 : Int64) (p2 : Int32) (R : Int64) (h : f_X2_part N p0 p1 p2 = some R) : Ct l yX2_part wsX2_part ({ frames := 1, cells := 0, slots := 0, locals := 26 } : Room) D ([]) ([]) ([]) [.long p0, .long p1, .int p2] (some (.long R)) := by
  refine ct_of (cc := cX2_part) (maxL := 9) (ret := (some .long)) (by decide) rfl (Nat.le_of_ble_eq_true rfl) ?_
  intro p e s m args below meth c A ls X hr hlk hK hA hP hD hS hl
  have X : CallFix p m c cX2_part 9 s args wsX2_part RX2 := X
  have hl : lv_has ls 9 [(0, .long p0), (2, .long p1), (4, .int p2)] := hl
  rw [f_X2_part] at h
  refine lv_iload X.1 X.2.1 dX2_part_0 (lv_at hl 2 rfl) ?_
  refine lv_if_ne (tgt := 9) X.1 X.2.1 dX2_part_2 (by decide) (fun c1 => ?_) (fun c1 => ?_)
  · rw [if_neg c1] at h
    refine lv_lload_n X.1 X.2.1 dX2_part_9 rfl (lv_at hl 1 rfl) ?_
    refine lv_lstore (lv' := [(5, .long p1), (0, .long p0), (2, .long p1), (4, .int p2)]) X.1 X.2.1 dX2_part_10 hl (by decide) rfl (fun ls hl => ?_)
    refine lv_lload_n X.1 X.2.1 dX2_part_12 rfl (lv_at hl 1 rfl) ?_
    refine va_mabs_long X.1 X.2.1 (X.2.2.1.trans hl.1.symm) X.2.2.2.1 (X.2.2.2.2 _ (List.mem_cons_of_mem _ (List.mem_of_getElem? (i := 0) rfl))) (X.2.2.2.2 _ (List.mem_cons_of_mem _ (List.mem_of_getElem? (i := 1) rfl))) (X.2.2.2.2 _ (List.mem_cons_of_mem _ (List.mem_of_getElem? (i := 2) rfl))) (X.2.2.2.2 _ (List.mem_cons_of_mem _ (List.mem_of_getElem? (i := 3) rfl))) (Nat.le_of_ble_eq_true rfl) (Nat.le_of_ble_eq_true rfl) (Nat.zero_le _) (Nat.zero_le _) dX2_part_13 ?_
    refine lv_lload_n X.1 X.2.1 dX2_part_16 rfl (lv_at hl 2 rfl) ?_
    obtain ⟨r2, q3, h⟩ := bd_e h
    refine kc_s (As := [.long (if 0 < p0 then p0 else -p0), .long p1]) (rest := []) X (k_X2_commonDivisor N (if 0 < p0 then p0 else -p0) p1 _ q3) (va_cwS 2 X.2.2.2.2 gX2_part_X2_commonDivisor rfl rfl rfl hd_X2_commonDivisor ⟨Nat.le_of_ble_eq_true rfl, Nat.le_of_ble_eq_true rfl⟩) hK hP hS hA rfl hl.1 rfl (Nat.le_of_ble_eq_true rfl) dX2_part_17 ⟨Nat.le_of_ble_eq_true rfl, Nat.le_of_ble_eq_true rfl⟩ (fun H locs hP hS => ?_)
    refine lv_lstore (lv' := [(7, .long r2), (5, .long p1), (0, .long p0), (2, .long p1), (4, .int p2)]) X.1 X.2.1 dX2_part_20 hl (by decide) rfl (fun ls hl => ?_)
    refine lv_lload X.1 X.2.1 dX2_part_22 (lv_at hl 0 rfl) ?_
    refine lv_lconst (v := (1 : Int64)) X.1 X.2.1 dX2_part_24 (by decide) ?_
    refine W.lcmp X.1 X.2.1 dX2_part_25 ?_
    refine lv_if_le (tgt := 37) X.1 X.2.1 dX2_part_26 (by decide) (fun c4 => ?_) (fun c4 => ?_)
    · rw [if_pos c4] at h
      refine lv_lload X.1 X.2.1 dX2_part_37 (lv_at hl 1 rfl) ?_
      have h := sm_e h
      subst h
      exact rt_l X hr hlk hK hP hD hS dX2_part_39
    · rw [if_neg c4] at h
      refine lv_lload X.1 X.2.1 dX2_part_29 (lv_at hl 1 rfl) ?_
      refine lv_lload X.1 X.2.1 dX2_part_31 (lv_at hl 0 rfl) ?_
      obtain ⟨g5, h⟩ := gd_e h
      refine lv_ldiv X.1 X.2.1 dX2_part_33 (nz_e g5) ?_
      refine lv_goto (tgt := 39) X.1 X.2.1 dX2_part_34 (by decide) ?_
      have h := sm_e h
      subst h
      exact rt_l X hr hlk hK hP hD hS dX2_part_39
  · rw [if_pos c1] at h
    refine lv_lload_n X.1 X.2.1 dX2_part_5 rfl (lv_at hl 0 rfl) ?_
    refine lv_goto (tgt := 10) X.1 X.2.1 dX2_part_6 (by decide) ?_
    refine lv_lstore (lv' := [(5, .long p0), (0, .long p0), (2, .long p1), (4, .int p2)]) X.1 X.2.1 dX2_part_10 hl (by decide) rfl (fun ls hl => ?_)
    refine lv_lload_n X.1 X.2.1 dX2_part_12 rfl (lv_at hl 1 rfl) ?_
    refine va_mabs_long X.1 X.2.1 (X.2.2.1.trans hl.1.symm) X.2.2.2.1 (X.2.2.2.2 _ (List.mem_cons_of_mem _ (List.mem_of_getElem? (i := 0) rfl))) (X.2.2.2.2 _ (List.mem_cons_of_mem _ (List.mem_of_getElem? (i := 1) rfl))) (X.2.2.2.2 _ (List.mem_cons_of_mem _ (List.mem_of_getElem? (i := 2) rfl))) (X.2.2.2.2 _ (List.mem_cons_of_mem _ (List.mem_of_getElem? (i := 3) rfl))) (Nat.le_of_ble_eq_true rfl) (Nat.le_of_ble_eq_true rfl) (Nat.zero_le _) (Nat.zero_le _) dX2_part_13 ?_
    refine lv_lload_n X.1 X.2.1 dX2_part_16 rfl (lv_at hl 2 rfl) ?_
    obtain ⟨r6, q7, h⟩ := bd_e h
    refine kc_s (As := [.long (if 0 < p0 then p0 else -p0), .long p1]) (rest := []) X (k_X2_commonDivisor N (if 0 < p0 then p0 else -p0) p1 _ q7) (va_cwS 2 X.2.2.2.2 gX2_part_X2_commonDivisor rfl rfl rfl hd_X2_commonDivisor ⟨Nat.le_of_ble_eq_true rfl, Nat.le_of_ble_eq_true rfl⟩) hK hP hS hA rfl hl.1 rfl (Nat.le_of_ble_eq_true rfl) dX2_part_17 ⟨Nat.le_of_ble_eq_true rfl, Nat.le_of_ble_eq_true rfl⟩ (fun H locs hP hS => ?_)
    refine lv_lstore (lv' := [(7, .long r6), (5, .long p0), (0, .long p0), (2, .long p1), (4, .int p2)]) X.1 X.2.1 dX2_part_20 hl (by decide) rfl (fun ls hl => ?_)
    refine lv_lload X.1 X.2.1 dX2_part_22 (lv_at hl 0 rfl) ?_
    refine lv_lconst (v := (1 : Int64)) X.1 X.2.1 dX2_part_24 (by decide) ?_
    refine W.lcmp X.1 X.2.1 dX2_part_25 ?_
    refine lv_if_le (tgt := 37) X.1 X.2.1 dX2_part_26 (by decide) (fun c8 => ?_) (fun c8 => ?_)
    · rw [if_pos c8] at h
      refine lv_lload X.1 X.2.1 dX2_part_37 (lv_at hl 1 rfl) ?_
      have h := sm_e h
      subst h
      exact rt_l X hr hlk hK hP hD hS dX2_part_39
    · rw [if_neg c8] at h
      refine lv_lload X.1 X.2.1 dX2_part_29 (lv_at hl 1 rfl) ?_
      refine lv_lload X.1 X.2.1 dX2_part_31 (lv_at hl 0 rfl) ?_
      obtain ⟨g9, h⟩ := gd_e h
      refine lv_ldiv X.1 X.2.1 dX2_part_33 (nz_e g9) ?_
      refine lv_goto (tgt := 39) X.1 X.2.1 dX2_part_34 (by decide) ?_
      have h := sm_e h
      subst h
      exact rt_l X hr hlk hK hP hD hS dX2_part_39

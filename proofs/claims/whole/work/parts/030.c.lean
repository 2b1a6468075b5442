def f_X0_isPlace (p0 : Int32) (p1 : Int32) : Option Int32 := if p0 < (-4 : Int32) then some (0 : Int32) else if (4 : Int32) < p0 then some (0 : Int32) else if p1 < (-4 : Int32) then some (0 : Int32) else if (4 : Int32) < p1 then some (0 : Int32) else some (1 : Int32)
theorem hd_X0_isPlace : yX0_isPlace.cls ≠ "java/lang/invoke/MethodHandle" ∧ yX0_isPlace.cls ≠ "java/lang/invoke/VarHandle" ∧ (parseMethodDescriptor yX0_isPlace.desc).map (fun d => d.parameters.length) = some 2 := by decide +kernel
set_option maxHeartbeats 4000000 in
set_option maxRecDepth 100000 in
theorem k_X0_isPlace {l : Launch} {D : va_G} (p0 : Int32) (p1 : Int32) (R : Int32) (h : f_X0_isPlace p0 p1 = some R) : Ct l yX0_isPlace wsX0_isPlace ({ frames := 0, cells := 0, slots := 0, locals := 0 } : Room) D ([]) ([]) ([]) [.int p0, .int p1] (some (.int R)) := by
  refine ct_of (cc := cX0_isPlace) (maxL := 2) (ret := (some .boolean)) (by decide) rfl (Nat.le_of_ble_eq_true rfl) ?_
  intro p e s m args below meth c A ls X hr hlk hK hA hP hD hS hl
  have X : CallFix p m c cX0_isPlace 2 s args wsX0_isPlace RX0 := X
  have hl : lv_has ls 2 [(0, .int p0), (1, .int p1)] := hl
  rw [f_X0_isPlace] at h
  refine lv_iload_n X.1 X.2.1 dX0_isPlace_0 rfl (lv_at hl 0 rfl) ?_
  refine lv_bipush (v := (-4 : Int32)) X.1 X.2.1 dX0_isPlace_1 (by decide) ?_
  refine lv_icmp_lt (tgt := 26) X.1 X.2.1 dX0_isPlace_3 (by decide) (fun c1 => ?_) (fun c1 => ?_)
  · rw [if_pos c1] at h
    refine lv_iconst (v := (0 : Int32)) X.1 X.2.1 dX0_isPlace_26 (by decide) ?_
    have h := sm_e h
    subst h
    exact rt_z X hr hlk rfl hK hP hD hS dX0_isPlace_27
  · rw [if_neg c1] at h
    refine lv_iload_n X.1 X.2.1 dX0_isPlace_6 rfl (lv_at hl 0 rfl) ?_
    refine lv_iconst (v := (4 : Int32)) X.1 X.2.1 dX0_isPlace_7 (by decide) ?_
    refine lv_icmp_gt (tgt := 26) X.1 X.2.1 dX0_isPlace_8 (by decide) (fun c2 => ?_) (fun c2 => ?_)
    · rw [if_pos c2] at h
      refine lv_iconst (v := (0 : Int32)) X.1 X.2.1 dX0_isPlace_26 (by decide) ?_
      have h := sm_e h
      subst h
      exact rt_z X hr hlk rfl hK hP hD hS dX0_isPlace_27
    · rw [if_neg c2] at h
      refine lv_iload_n X.1 X.2.1 dX0_isPlace_11 rfl (lv_at hl 1 rfl) ?_
      refine lv_bipush (v := (-4 : Int32)) X.1 X.2.1 dX0_isPlace_12 (by decide) ?_
      refine lv_icmp_lt (tgt := 26) X.1 X.2.1 dX0_isPlace_14 (by decide) (fun c3 => ?_) (fun c3 => ?_)
      · rw [if_pos c3] at h
        refine lv_iconst (v := (0 : Int32)) X.1 X.2.1 dX0_isPlace_26 (by decide) ?_
        have h := sm_e h
        subst h
        exact rt_z X hr hlk rfl hK hP hD hS dX0_isPlace_27
      · rw [if_neg c3] at h
        refine lv_iload_n X.1 X.2.1 dX0_isPlace_17 rfl (lv_at hl 1 rfl) ?_
        refine lv_iconst (v := (4 : Int32)) X.1 X.2.1 dX0_isPlace_18 (by decide) ?_
        refine lv_icmp_gt (tgt := 26) X.1 X.2.1 dX0_isPlace_19 (by decide) (fun c4 => ?_) (fun c4 => ?_)
        · rw [if_pos c4] at h
          refine lv_iconst (v := (0 : Int32)) X.1 X.2.1 dX0_isPlace_26 (by decide) ?_
          have h := sm_e h
          subst h
          exact rt_z X hr hlk rfl hK hP hD hS dX0_isPlace_27
        · rw [if_neg c4] at h
          refine lv_iconst (v := (1 : Int32)) X.1 X.2.1 dX0_isPlace_22 (by decide) ?_
          refine lv_goto (tgt := 27) X.1 X.2.1 dX0_isPlace_23 (by decide) ?_
          have h := sm_e h
          subst h
          exact rt_z X hr hlk rfl hK hP hD hS dX0_isPlace_27
def f_X0_mostWith (p0 : Int32) : Option Int32 := if p0 = (1 : Int32) then some (6 : Int32) else some (4 : Int32)
theorem hd_X0_mostWith : yX0_mostWith.cls ≠ "java/lang/invoke/MethodHandle" ∧ yX0_mostWith.cls ≠ "java/lang/invoke/VarHandle" ∧ (parseMethodDescriptor yX0_mostWith.desc).map (fun d => d.parameters.length) = some 1 := by decide +kernel
set_option maxHeartbeats 4000000 in
set_option maxRecDepth 100000 in
theorem k_X0_mostWith {l : Launch} {D : va_G} (p0 : Int32) (R : Int32) (h : f_X0_mostWith p0 = some R) : Ct l yX0_mostWith wsX0_mostWith ({ frames := 0, cells := 0, slots := 0, locals := 0 } : Room) D ([]) ([]) ([]) [.int p0] (some (.int R)) := by
  refine ct_of (cc := cX0_mostWith) (maxL := 1) (ret := (some .int)) (by decide) rfl (Nat.le_of_ble_eq_true rfl) ?_
  intro p e s m args below meth c A ls X hr hlk hK hA hP hD hS hl
  have X : CallFix p m c cX0_mostWith 1 s args wsX0_mostWith RX0 := X
  have hl : lv_has ls 1 [(0, .int p0)] := hl
  rw [f_X0_mostWith] at h
  refine lv_iload_n X.1 X.2.1 dX0_mostWith_0 rfl (lv_at hl 0 rfl) ?_
  refine lv_iconst (v := (1 : Int32)) X.1 X.2.1 dX0_mostWith_1 (by decide) ?_
  refine lv_icmp_ne (tgt := 10) X.1 X.2.1 dX0_mostWith_2 (by decide) (fun c1 => ?_) (fun c1 => ?_)
  · rw [if_neg c1] at h
    refine lv_iconst (v := (4 : Int32)) X.1 X.2.1 dX0_mostWith_10 (by decide) ?_
    have h := sm_e h
    subst h
    exact rt_i X hr hlk hK hP hD hS dX0_mostWith_11
  · rw [if_pos c1] at h
    refine lv_bipush (v := (6 : Int32)) X.1 X.2.1 dX0_mostWith_5 (by decide) ?_
    refine lv_goto (tgt := 11) X.1 X.2.1 dX0_mostWith_7 (by decide) ?_
    have h := sm_e h
    subst h
    exact rt_i X hr hlk hK hP hD hS dX0_mostWith_11
def f_X0_has (p0 : Int32) (σ : CS) : Option Int32 := if p0 < 0 then some (0 : Int32) else if (c_sz σ) ≤ p0 then some (0 : Int32) else some (1 : Int32)
theorem hd_X0_has : yX0_has.cls = RX0 ∧ yX0_has.cls ≠ "java/lang/invoke/MethodHandle" ∧ yX0_has.cls ≠ "java/lang/invoke/VarHandle" ∧ (parseMethodDescriptor yX0_has.desc).map (fun d => d.parameters.length) = some 1 := by decide +kernel
set_option maxHeartbeats 4000000 in
set_option maxRecDepth 100000 in
theorem k_X0_has {l : Launch} {D : va_G} {k : Nat → ClassId} {a : Nat → Nat} {ρ : Nat → Nat} (p0 : Int32) (σ : CS) (R : Int32) (h : f_X0_has p0 σ = some R) : Ct l yX0_has wsX0_has ({ frames := 0, cells := 0, slots := 0, locals := 0 } : Room) D (cT k) (cW k a ρ σ) (cW k a ρ σ) [.ref (a 1), .int p0] (some (.int R)) := by
  refine ct_of (cc := cX0_has) (maxL := 2) (ret := (some .boolean)) (by decide) rfl (Nat.le_of_ble_eq_true rfl) ?_
  intro p e s m args below meth c A ls X hr hlk hK hA hP hD hS hl
  have X : CallFix p m c cX0_has 2 s args wsX0_has RX0 := X
  have hl : lv_has ls 2 [(0, .ref (a 1)), (1, .int p0)] := hl
  rw [f_X0_has] at h
  refine lv_iload_n X.1 X.2.1 dX0_has_0 rfl (lv_at hl 1 rfl) ?_
  refine lv_if_lt (tgt := 16) X.1 X.2.1 dX0_has_1 (by decide) (fun c1 => ?_) (fun c1 => ?_)
  · rw [if_pos c1] at h
    refine lv_iconst (v := (0 : Int32)) X.1 X.2.1 dX0_has_16 (by decide) ?_
    have h := sm_e h
    subst h
    exact rt_z X hr hlk rfl hK hP hD hS dX0_has_17
  · rw [if_neg c1] at h
    refine lv_iload_n X.1 X.2.1 dX0_has_4 rfl (lv_at hl 1 rfl) ?_
    refine lv_aload_n X.1 X.2.1 dX0_has_5 rfl (lv_at hl 0 rfl) ?_
    refine gX0_size X (fun w h => (List.mem_cons_of_mem _ (List.mem_append_right _ h))) hK hP (List.mem_cons_of_mem _ (List.mem_append_left _ (List.mem_of_getElem? (i := 0) rfl))) dX0_has_6 ?_
    refine lv_icmp_ge (tgt := 16) X.1 X.2.1 dX0_has_9 (by decide) (fun c2 => ?_) (fun c2 => ?_)
    · rw [if_pos c2] at h
      refine lv_iconst (v := (0 : Int32)) X.1 X.2.1 dX0_has_16 (by decide) ?_
      have h := sm_e h
      subst h
      exact rt_z X hr hlk rfl hK hP hD hS dX0_has_17
    · rw [if_neg c2] at h
      refine lv_iconst (v := (1 : Int32)) X.1 X.2.1 dX0_has_12 (by decide) ?_
      refine lv_goto (tgt := 17) X.1 X.2.1 dX0_has_13 (by decide) ?_
      have h := sm_e h
      subst h
      exact rt_z X hr hlk rfl hK hP hD hS dX0_has_17
def f_X0_add (p0 : Int32) (p1 : Int32) (p2 : Int32) (σ : CS) : Option CS := gd (inB (c_sz σ) 6) (lt_ (s_xx σ (upd (c_xx σ) (c_sz σ).toNatClampNeg p0)) (fun σ2 => gd (inB (c_sz σ2) 6) (lt_ (s_yy σ2 (upd (c_yy σ2) (c_sz σ2).toNatClampNeg p1)) (fun σ5 => gd (inB (c_sz σ5) 6) (lt_ (s_lb σ5 (upd (c_lb σ5) (c_sz σ5).toNatClampNeg p2)) (fun σ8 => lt_ (s_sz σ8 ((c_sz σ8) + (1 : Int32))) (fun σ10 => some σ10)))))))
theorem hd_X0_add : yX0_add.cls = RX0 ∧ yX0_add.cls ≠ "java/lang/invoke/MethodHandle" ∧ yX0_add.cls ≠ "java/lang/invoke/VarHandle" ∧ (parseMethodDescriptor yX0_add.desc).map (fun d => d.parameters.length) = some 3 := by decide +kernel
set_option maxHeartbeats 4000000 in
set_option maxRecDepth 100000 in
theorem k_X0_add {l : Launch} {D : va_G} {k : Nat → ClassId} {a : Nat → Nat} {ρ : Nat → Nat} (p0 : Int32) (p1 : Int32) (p2 : Int32) (σ : CS) (R : CS) (h : f_X0_add p0 p1 p2 σ = some R) : Ct l yX0_add wsX0_add ({ frames := 0, cells := 0, slots := 0, locals := 0 } : Room) D (cT k) (cW k a ρ σ) (cW k a ρ R) [.ref (a 1), .int p0, .int p1, .int p2] none := by
  refine ct_of (cc := cX0_add) (maxL := 4) (ret := none) (by decide) rfl (Nat.le_of_ble_eq_true rfl) ?_
  intro p e s m args below meth c A ls X hr hlk hK hA hP hD hS hl
  have X : CallFix p m c cX0_add 4 s args wsX0_add RX0 := X
  have hl : lv_has ls 4 [(0, .ref (a 1)), (1, .int p0), (2, .int p1), (3, .int p2)] := hl
  rw [f_X0_add] at h
  refine lv_aload_n X.1 X.2.1 dX0_add_0 rfl (lv_at hl 0 rfl) ?_
  refine gX0_x X (fun w h => (List.mem_cons_of_mem _ (List.mem_append_right _ h))) hK hP (List.mem_cons_of_mem _ (List.mem_append_left _ (List.mem_of_getElem? (i := 0) rfl))) dX0_add_1 ?_
  refine lv_aload_n X.1 X.2.1 dX0_add_4 rfl (lv_at hl 0 rfl) ?_
  refine gX0_size X (fun w h => (List.mem_cons_of_mem _ (List.mem_append_right _ h))) hK hP (List.mem_cons_of_mem _ (List.mem_append_left _ (List.mem_of_getElem? (i := 1) rfl))) dX0_add_5 ?_
  refine lv_iload_n X.1 X.2.1 dX0_add_8 rfl (lv_at hl 1 rfl) ?_
  obtain ⟨g1, h⟩ := gd_e h
  obtain ⟨σ2, e3, h⟩ := lt_e h
  refine tc_xx X hK hP hD hS g1 e3 dX0_add_9 (fun H locs hP hD hS => ?_)
  refine lv_aload_n X.1 X.2.1 dX0_add_10 rfl (lv_at hl 0 rfl) ?_
  refine gX0_y X (fun w h => (List.mem_cons_of_mem _ (List.mem_append_right _ h))) hK hP (List.mem_cons_of_mem _ (List.mem_append_left _ (List.mem_of_getElem? (i := 2) rfl))) dX0_add_11 ?_
  refine lv_aload_n X.1 X.2.1 dX0_add_14 rfl (lv_at hl 0 rfl) ?_
  refine gX0_size X (fun w h => (List.mem_cons_of_mem _ (List.mem_append_right _ h))) hK hP (List.mem_cons_of_mem _ (List.mem_append_left _ (List.mem_of_getElem? (i := 1) rfl))) dX0_add_15 ?_
  refine lv_iload_n X.1 X.2.1 dX0_add_18 rfl (lv_at hl 2 rfl) ?_
  obtain ⟨g4, h⟩ := gd_e h
  obtain ⟨σ5, e6, h⟩ := lt_e h
  refine tc_yy X hK hP hD hS g4 e6 dX0_add_19 (fun H locs hP hD hS => ?_)
  refine lv_aload_n X.1 X.2.1 dX0_add_20 rfl (lv_at hl 0 rfl) ?_
  refine gX0_label X (fun w h => (List.mem_cons_of_mem _ (List.mem_append_right _ h))) hK hP (List.mem_cons_of_mem _ (List.mem_append_left _ (List.mem_of_getElem? (i := 3) rfl))) dX0_add_21 ?_
  refine lv_aload_n X.1 X.2.1 dX0_add_24 rfl (lv_at hl 0 rfl) ?_
  refine gX0_size X (fun w h => (List.mem_cons_of_mem _ (List.mem_append_right _ h))) hK hP (List.mem_cons_of_mem _ (List.mem_append_left _ (List.mem_of_getElem? (i := 1) rfl))) dX0_add_25 ?_
  refine lv_iload_n X.1 X.2.1 dX0_add_28 rfl (lv_at hl 3 rfl) ?_
  obtain ⟨g7, h⟩ := gd_e h
  obtain ⟨σ8, e9, h⟩ := lt_e h
  refine tc_lb X hK hP hD hS g7 e9 dX0_add_29 (fun H locs hP hD hS => ?_)
  refine lv_aload_n X.1 X.2.1 dX0_add_30 rfl (lv_at hl 0 rfl) ?_
  refine lv_dup X.1 X.2.1 dX0_add_31 rfl ?_
  refine gX0_size X (fun w h => (List.mem_cons_of_mem _ (List.mem_append_right _ h))) hK hP (List.mem_cons_of_mem _ (List.mem_append_left _ (List.mem_of_getElem? (i := 1) rfl))) dX0_add_32 ?_
  refine lv_iconst (v := (1 : Int32)) X.1 X.2.1 dX0_add_35 (by decide) ?_
  refine lv_iadd X.1 X.2.1 dX0_add_36 ?_
  obtain ⟨σ10, e11, h⟩ := lt_e h
  refine pX0_size X (fun w h => (List.mem_cons_of_mem _ (List.mem_append_right _ h))) hK hP hD hS (List.mem_cons_of_mem _ (List.mem_append_left _ (List.mem_of_getElem? (i := 1) rfl))) e11 dX0_add_37 (fun H locs hP hD hS => ?_)
  have h := sm_e h
  subst h
  exact rt_v X hr hlk hK hP hD hS dX0_add_40
def f_X0_kernel (p0 : Int32) (p1 : Int32) (p2 : Int32) (σ : CS) : Option Int32 := gd (inB p0 6) (gd (inB p0 6) (lt_ ((((c_xx σ p0.toNatClampNeg) * p1) + ((c_yy σ p0.toNatClampNeg) * p2)) + (1 : Int32)) (fun x3 => if (c_pw σ) = (1 : Int32) then some x3 else some (x3 * x3))))
theorem hd_X0_kernel : yX0_kernel.cls = RX0 ∧ yX0_kernel.cls ≠ "java/lang/invoke/MethodHandle" ∧ yX0_kernel.cls ≠ "java/lang/invoke/VarHandle" ∧ (parseMethodDescriptor yX0_kernel.desc).map (fun d => d.parameters.length) = some 3 := by decide +kernel
set_option maxHeartbeats 4000000 in
set_option maxRecDepth 100000 in
theorem k_X0_kernel {l : Launch} {D : va_G} {k : Nat → ClassId} {a : Nat → Nat} {ρ : Nat → Nat} (p0 : Int32) (p1 : Int32) (p2 : Int32) (σ : CS) (R : Int32) (h : f_X0_kernel p0 p1 p2 σ = some R) : Ct l yX0_kernel wsX0_kernel ({ frames := 0, cells := 0, slots := 0, locals := 0 } : Room) D (cT k) (cW k a ρ σ) (cW k a ρ σ) [.ref (a 1), .int p0, .int p1, .int p2] (some (.int R)) := by
  refine ct_of (cc := cX0_kernel) (maxL := 5) (ret := (some .int)) (by decide) rfl (Nat.le_of_ble_eq_true rfl) ?_
  intro p e s m args below meth c A ls X hr hlk hK hA hP hD hS hl
  have X : CallFix p m c cX0_kernel 5 s args wsX0_kernel RX0 := X
  have hl : lv_has ls 5 [(0, .ref (a 1)), (1, .int p0), (2, .int p1), (3, .int p2)] := hl
  rw [f_X0_kernel] at h
  refine lv_aload_n X.1 X.2.1 dX0_kernel_0 rfl (lv_at hl 0 rfl) ?_
  refine gX0_x X (fun w h => (List.mem_cons_of_mem _ (List.mem_append_right _ h))) hK hP (List.mem_cons_of_mem _ (List.mem_append_left _ (List.mem_of_getElem? (i := 0) rfl))) dX0_kernel_1 ?_
  refine lv_iload_n X.1 X.2.1 dX0_kernel_4 rfl (lv_at hl 1 rfl) ?_
  obtain ⟨g1, h⟩ := gd_e h
  refine lc_xx X hK hP g1 dX0_kernel_5 ?_
  refine lv_iload_n X.1 X.2.1 dX0_kernel_6 rfl (lv_at hl 2 rfl) ?_
  refine lv_imul X.1 X.2.1 dX0_kernel_7 ?_
  refine lv_aload_n X.1 X.2.1 dX0_kernel_8 rfl (lv_at hl 0 rfl) ?_
  refine gX0_y X (fun w h => (List.mem_cons_of_mem _ (List.mem_append_right _ h))) hK hP (List.mem_cons_of_mem _ (List.mem_append_left _ (List.mem_of_getElem? (i := 1) rfl))) dX0_kernel_9 ?_
  refine lv_iload_n X.1 X.2.1 dX0_kernel_12 rfl (lv_at hl 1 rfl) ?_
  obtain ⟨g2, h⟩ := gd_e h
  refine lc_yy X hK hP g2 dX0_kernel_13 ?_
  refine lv_iload_n X.1 X.2.1 dX0_kernel_14 rfl (lv_at hl 3 rfl) ?_
  refine lv_imul X.1 X.2.1 dX0_kernel_15 ?_
  refine lv_iadd X.1 X.2.1 dX0_kernel_16 ?_
  refine lv_iconst (v := (1 : Int32)) X.1 X.2.1 dX0_kernel_17 (by decide) ?_
  refine lv_iadd X.1 X.2.1 dX0_kernel_18 ?_
  obtain ⟨x3, e4, h⟩ := lt_e h
  refine nm_i e4 ?_
  refine lv_istore (lv' := [(4, .int x3), (0, .ref (a 1)), (1, .int p0), (2, .int p1), (3, .int p2)]) X.1 X.2.1 dX0_kernel_19 hl (by decide) rfl (fun ls hl => ?_)
  refine lv_aload_n X.1 X.2.1 dX0_kernel_21 rfl (lv_at hl 1 rfl) ?_
  refine gX0_power X (fun w h => (List.mem_cons_of_mem _ (List.mem_append_right _ h))) hK hP (List.mem_cons_of_mem _ (List.mem_append_left _ (List.mem_of_getElem? (i := 2) rfl))) dX0_kernel_22 ?_
  refine lv_iconst (v := (1 : Int32)) X.1 X.2.1 dX0_kernel_25 (by decide) ?_
  refine lv_icmp_ne (tgt := 34) X.1 X.2.1 dX0_kernel_26 (by decide) (fun c5 => ?_) (fun c5 => ?_)
  · rw [if_neg c5] at h
    refine lv_iload X.1 X.2.1 dX0_kernel_34 (lv_at hl 0 rfl) ?_
    refine lv_iload X.1 X.2.1 dX0_kernel_36 (lv_at hl 0 rfl) ?_
    refine lv_imul X.1 X.2.1 dX0_kernel_38 ?_
    have h := sm_e h
    subst h
    exact rt_i X hr hlk hK hP hD hS dX0_kernel_39
  · rw [if_pos c5] at h
    refine lv_iload X.1 X.2.1 dX0_kernel_29 (lv_at hl 0 rfl) ?_
    refine lv_goto (tgt := 39) X.1 X.2.1 dX0_kernel_31 (by decide) ?_
    have h := sm_e h
    subst h
    exact rt_i X hr hlk hK hP hD hS dX0_kernel_39
def f_X0_product (p0 : Int32) (p1 : Int32) (σ : CS) : Option Int32 := gd (inB p0 6) (gd (inB p1 6) (gd (inB p1 6) (gd (inB p1 6) ((f_X0_kernel p0 (c_xx σ p1.toNatClampNeg) (c_yy σ p1.toNatClampNeg) σ).bind (fun r5 => some (((c_lb σ p0.toNatClampNeg) * (c_lb σ p1.toNatClampNeg)) * r5))))))
theorem hd_X0_product : yX0_product.cls = RX0 ∧ yX0_product.cls ≠ "java/lang/invoke/MethodHandle" ∧ yX0_product.cls ≠ "java/lang/invoke/VarHandle" ∧ (parseMethodDescriptor yX0_product.desc).map (fun d => d.parameters.length) = some 2 := by decide +kernel
set_option maxHeartbeats 4000000 in
set_option maxRecDepth 100000 in
theorem k_X0_product {l : Launch} {D : va_G} {k : Nat → ClassId} {a : Nat → Nat} {ρ : Nat → Nat} (p0 : Int32) (p1 : Int32) (σ : CS) (R : Int32) (h : f_X0_product p0 p1 σ = some R) : Ct l yX0_product wsX0_product ({ frames := 1, cells := 0, slots := 0, locals := 24 } : Room) D (cT k) (cW k a ρ σ) (cW k a ρ σ) [.ref (a 1), .int p0, .int p1] (some (.int R)) := by
  refine ct_of (cc := cX0_product) (maxL := 3) (ret := (some .int)) (by decide) rfl (Nat.le_of_ble_eq_true rfl) ?_
  intro p e s m args below meth c A ls X hr hlk hK hA hP hD hS hl
  have X : CallFix p m c cX0_product 3 s args wsX0_product RX0 := X
  have hl : lv_has ls 3 [(0, .ref (a 1)), (1, .int p0), (2, .int p1)] := hl
  rw [f_X0_product] at h
  refine lv_aload_n X.1 X.2.1 dX0_product_0 rfl (lv_at hl 0 rfl) ?_
  refine gX0_label X (fun w h => (List.mem_cons_of_mem _ (List.mem_append_right _ h))) hK hP (List.mem_cons_of_mem _ (List.mem_append_left _ (List.mem_of_getElem? (i := 0) rfl))) dX0_product_1 ?_
  refine lv_iload_n X.1 X.2.1 dX0_product_4 rfl (lv_at hl 1 rfl) ?_
  obtain ⟨g1, h⟩ := gd_e h
  refine lc_lb X hK hP g1 dX0_product_5 ?_
  refine lv_aload_n X.1 X.2.1 dX0_product_6 rfl (lv_at hl 0 rfl) ?_
  refine gX0_label X (fun w h => (List.mem_cons_of_mem _ (List.mem_append_right _ h))) hK hP (List.mem_cons_of_mem _ (List.mem_append_left _ (List.mem_of_getElem? (i := 0) rfl))) dX0_product_7 ?_
  refine lv_iload_n X.1 X.2.1 dX0_product_10 rfl (lv_at hl 2 rfl) ?_
  obtain ⟨g2, h⟩ := gd_e h
  refine lc_lb X hK hP g2 dX0_product_11 ?_
  refine lv_imul X.1 X.2.1 dX0_product_12 ?_
  refine lv_aload_n X.1 X.2.1 dX0_product_13 rfl (lv_at hl 0 rfl) ?_
  refine lv_iload_n X.1 X.2.1 dX0_product_14 rfl (lv_at hl 1 rfl) ?_
  refine lv_aload_n X.1 X.2.1 dX0_product_15 rfl (lv_at hl 0 rfl) ?_
  refine gX0_x X (fun w h => (List.mem_cons_of_mem _ (List.mem_append_right _ h))) hK hP (List.mem_cons_of_mem _ (List.mem_append_left _ (List.mem_of_getElem? (i := 1) rfl))) dX0_product_16 ?_
  refine lv_iload_n X.1 X.2.1 dX0_product_19 rfl (lv_at hl 2 rfl) ?_
  obtain ⟨g3, h⟩ := gd_e h
  refine lc_xx X hK hP g3 dX0_product_20 ?_
  refine lv_aload_n X.1 X.2.1 dX0_product_21 rfl (lv_at hl 0 rfl) ?_
  refine gX0_y X (fun w h => (List.mem_cons_of_mem _ (List.mem_append_right _ h))) hK hP (List.mem_cons_of_mem _ (List.mem_append_left _ (List.mem_of_getElem? (i := 2) rfl))) dX0_product_22 ?_
  refine lv_iload_n X.1 X.2.1 dX0_product_25 rfl (lv_at hl 2 rfl) ?_
  obtain ⟨g4, h⟩ := gd_e h
  refine lc_yy X hK hP g4 dX0_product_26 ?_
  obtain ⟨r5, q6, h⟩ := bd_e h
  refine kc_v (As := [.int p0, .int (c_xx σ p1.toNatClampNeg), .int (c_yy σ p1.toNatClampNeg)]) (rest := [.int ((c_lb σ p0.toNatClampNeg) * (c_lb σ p1.toNatClampNeg))]) X (k_X0_kernel p0 (c_xx σ p1.toNatClampNeg) (c_yy σ p1.toNatClampNeg) σ _ q6) (cwV 3 X.2.2.2.2 gX0_product_X0_kernel rfl rfl rfl hd_X0_kernel ⟨Nat.le_of_ble_eq_true rfl, Nat.le_of_ble_eq_true rfl⟩) hK hP hD hS hA (va_recv hK hP (ci := 0) (q0 := 1) rfl rfl) rfl hl.1 rfl (Nat.le_of_ble_eq_true rfl) dX0_product_27 ⟨Nat.le_of_ble_eq_true rfl, Nat.le_of_ble_eq_true rfl⟩ (fun H locs hP hD hS => ?_)
  refine lv_imul X.1 X.2.1 dX0_product_30 ?_
  have h := sm_e h
  subst h
  exact rt_i X hr hlk hK hP hD hS dX0_product_31
def f_X1_forget (σ : CS) : Option CS := lt_ (s_rw σ (0 : Int32)) (fun σ1 => lt_ (s_st σ1 (0 : Int32)) (fun σ3 => lt_ (s_sa σ3 (-1 : Int32)) (fun σ5 => some σ5)))
theorem hd_X1_forget : yX1_forget.cls = RX1 ∧ yX1_forget.cls ≠ "java/lang/invoke/MethodHandle" ∧ yX1_forget.cls ≠ "java/lang/invoke/VarHandle" ∧ (parseMethodDescriptor yX1_forget.desc).map (fun d => d.parameters.length) = some 0 := by decide +kernel
set_option maxHeartbeats 4000000 in
set_option maxRecDepth 100000 in
theorem k_X1_forget {l : Launch} {D : va_G} {k : Nat → ClassId} {a : Nat → Nat} {ρ : Nat → Nat}  (σ : CS) (R : CS) (h : f_X1_forget σ = some R) : Ct l yX1_forget wsX1_forget ({ frames := 0, cells := 0, slots := 0, locals := 0 } : Room) D (cT k) (cW k a ρ σ) (cW k a ρ R) [.ref (a 2)] none := by
  refine ct_of (cc := cX1_forget) (maxL := 1) (ret := none) (by decide) rfl (Nat.le_of_ble_eq_true rfl) ?_
  intro p e s m args below meth c A ls X hr hlk hK hA hP hD hS hl
  have X : CallFix p m c cX1_forget 1 s args wsX1_forget RX1 := X
  have hl : lv_has ls 1 [(0, .ref (a 2))] := hl
  rw [f_X1_forget] at h
  refine lv_aload_n X.1 X.2.1 dX1_forget_0 rfl (lv_at hl 0 rfl) ?_
  refine lv_iconst (v := (0 : Int32)) X.1 X.2.1 dX1_forget_1 (by decide) ?_
  obtain ⟨σ1, e2, h⟩ := lt_e h
  refine pX1_rows X (fun w h => (List.mem_cons_of_mem _ (List.mem_append_right _ h))) hK hP hD hS (List.mem_cons_of_mem _ (List.mem_append_left _ (List.mem_of_getElem? (i := 0) rfl))) e2 dX1_forget_2 (fun H locs hP hD hS => ?_)
  refine lv_aload_n X.1 X.2.1 dX1_forget_5 rfl (lv_at hl 0 rfl) ?_
  refine lv_iconst (v := (0 : Int32)) X.1 X.2.1 dX1_forget_6 (by decide) ?_
  obtain ⟨σ3, e4, h⟩ := lt_e h
  refine pX1_steps X (fun w h => (List.mem_cons_of_mem _ (List.mem_append_right _ h))) hK hP hD hS (List.mem_cons_of_mem _ (List.mem_append_left _ (List.mem_of_getElem? (i := 1) rfl))) e4 dX1_forget_7 (fun H locs hP hD hS => ?_)
  refine lv_aload_n X.1 X.2.1 dX1_forget_10 rfl (lv_at hl 0 rfl) ?_
  refine lv_iconst (v := (-1 : Int32)) X.1 X.2.1 dX1_forget_11 (by decide) ?_
  obtain ⟨σ5, e6, h⟩ := lt_e h
  refine pX1_state X (fun w h => (List.mem_cons_of_mem _ (List.mem_append_right _ h))) hK hP hD hS (List.mem_cons_of_mem _ (List.mem_append_left _ (List.mem_of_getElem? (i := 2) rfl))) e6 dX1_forget_12 (fun H locs hP hD hS => ?_)
  have h := sm_e h
  subst h
  exact rt_v X hr hlk hK hP hD hS dX1_forget_15
def f_X1_hasRow (p0 : Int32) (σ : CS) : Option Int32 := if p0 < 0 then some (0 : Int32) else if (c_rw σ) ≤ p0 then some (0 : Int32) else some (1 : Int32)
theorem hd_X1_hasRow : yX1_hasRow.cls = RX1 ∧ yX1_hasRow.cls ≠ "java/lang/invoke/MethodHandle" ∧ yX1_hasRow.cls ≠ "java/lang/invoke/VarHandle" ∧ (parseMethodDescriptor yX1_hasRow.desc).map (fun d => d.parameters.length) = some 1 := by decide +kernel
set_option maxHeartbeats 4000000 in
set_option maxRecDepth 100000 in
theorem k_X1_hasRow {l : Launch} {D : va_G} {k : Nat → ClassId} {a : Nat → Nat} {ρ : Nat → Nat} (p0 : Int32) (σ : CS) (R : Int32) (h : f_X1_hasRow p0 σ = some R) : Ct l yX1_hasRow wsX1_hasRow ({ frames := 0, cells := 0, slots := 0, locals := 0 } : Room) D (cT k) (cW k a ρ σ) (cW k a ρ σ) [.ref (a 2), .int p0] (some (.int R)) := by
  refine ct_of (cc := cX1_hasRow) (maxL := 2) (ret := (some .boolean)) (by decide) rfl (Nat.le_of_ble_eq_true rfl) ?_
  intro p e s m args below meth c A ls X hr hlk hK hA hP hD hS hl
  have X : CallFix p m c cX1_hasRow 2 s args wsX1_hasRow RX1 := X
  have hl : lv_has ls 2 [(0, .ref (a 2)), (1, .int p0)] := hl
  rw [f_X1_hasRow] at h
  refine lv_iload_n X.1 X.2.1 dX1_hasRow_0 rfl (lv_at hl 1 rfl) ?_
  refine lv_if_lt (tgt := 16) X.1 X.2.1 dX1_hasRow_1 (by decide) (fun c1 => ?_) (fun c1 => ?_)
  · rw [if_pos c1] at h
    refine lv_iconst (v := (0 : Int32)) X.1 X.2.1 dX1_hasRow_16 (by decide) ?_
    have h := sm_e h
    subst h
    exact rt_z X hr hlk rfl hK hP hD hS dX1_hasRow_17
  · rw [if_neg c1] at h
    refine lv_iload_n X.1 X.2.1 dX1_hasRow_4 rfl (lv_at hl 1 rfl) ?_
    refine lv_aload_n X.1 X.2.1 dX1_hasRow_5 rfl (lv_at hl 0 rfl) ?_
    refine gX1_rows X (fun w h => (List.mem_cons_of_mem _ (List.mem_append_right _ h))) hK hP (List.mem_cons_of_mem _ (List.mem_append_left _ (List.mem_of_getElem? (i := 0) rfl))) dX1_hasRow_6 ?_
    refine lv_icmp_ge (tgt := 16) X.1 X.2.1 dX1_hasRow_9 (by decide) (fun c2 => ?_) (fun c2 => ?_)
    · rw [if_pos c2] at h
      refine lv_iconst (v := (0 : Int32)) X.1 X.2.1 dX1_hasRow_16 (by decide) ?_
      have h := sm_e h
      subst h
      exact rt_z X hr hlk rfl hK hP hD hS dX1_hasRow_17
    · rw [if_neg c2] at h
      refine lv_iconst (v := (1 : Int32)) X.1 X.2.1 dX1_hasRow_12 (by decide) ?_
      refine lv_goto (tgt := 17) X.1 X.2.1 dX1_hasRow_13 (by decide) ?_
      have h := sm_e h
      subst h
      exact rt_z X hr hlk rfl hK hP hD hS dX1_hasRow_17
def f_X1_columnOfQ (σ : CS) : Option Int32 := some (((2 : Int32) * (c_rw σ)) + (1 : Int32))
theorem hd_X1_columnOfQ : yX1_columnOfQ.cls = RX1 ∧ yX1_columnOfQ.cls ≠ "java/lang/invoke/MethodHandle" ∧ yX1_columnOfQ.cls ≠ "java/lang/invoke/VarHandle" ∧ (parseMethodDescriptor yX1_columnOfQ.desc).map (fun d => d.parameters.length) = some 0 := by decide +kernel
set_option maxHeartbeats 4000000 in
set_option maxRecDepth 100000 in
theorem k_X1_columnOfQ {l : Launch} {D : va_G} {k : Nat → ClassId} {a : Nat → Nat} {ρ : Nat → Nat}  (σ : CS) (R : Int32) (h : f_X1_columnOfQ σ = some R) : Ct l yX1_columnOfQ wsX1_columnOfQ ({ frames := 0, cells := 0, slots := 0, locals := 0 } : Room) D (cT k) (cW k a ρ σ) (cW k a ρ σ) [.ref (a 2)] (some (.int R)) := by
  refine ct_of (cc := cX1_columnOfQ) (maxL := 1) (ret := (some .int)) (by decide) rfl (Nat.le_of_ble_eq_true rfl) ?_
  intro p e s m args below meth c A ls X hr hlk hK hA hP hD hS hl
  have X : CallFix p m c cX1_columnOfQ 1 s args wsX1_columnOfQ RX1 := X
  have hl : lv_has ls 1 [(0, .ref (a 2))] := hl
  rw [f_X1_columnOfQ] at h
  refine lv_iconst (v := (2 : Int32)) X.1 X.2.1 dX1_columnOfQ_0 (by decide) ?_
  refine lv_aload_n X.1 X.2.1 dX1_columnOfQ_1 rfl (lv_at hl 0 rfl) ?_
  refine gX1_rows X (fun w h => (List.mem_cons_of_mem _ (List.mem_append_right _ h))) hK hP (List.mem_cons_of_mem _ (List.mem_append_left _ (List.mem_of_getElem? (i := 0) rfl))) dX1_columnOfQ_2 ?_
  refine lv_imul X.1 X.2.1 dX1_columnOfQ_5 ?_
  refine lv_iconst (v := (1 : Int32)) X.1 X.2.1 dX1_columnOfQ_6 (by decide) ?_
  refine lv_iadd X.1 X.2.1 dX1_columnOfQ_7 ?_
  have h := sm_e h
  subst h
  exact rt_i X hr hlk hK hP hD hS dX1_columnOfQ_8
def f_X1_hasColumn (p0 : Int32) (σ : CS) : Option Int32 := if p0 < 0 then some (0 : Int32) else (f_X1_columnOfQ σ).bind (fun r2 => if r2 < p0 then some (0 : Int32) else some (1 : Int32))
theorem hd_X1_hasColumn : yX1_hasColumn.cls = RX1 ∧ yX1_hasColumn.cls ≠ "java/lang/invoke/MethodHandle" ∧ yX1_hasColumn.cls ≠ "java/lang/invoke/VarHandle" ∧ (parseMethodDescriptor yX1_hasColumn.desc).map (fun d => d.parameters.length) = some 1 := by decide +kernel
set_option maxHeartbeats 4000000 in
set_option maxRecDepth 100000 in
theorem k_X1_hasColumn {l : Launch} {D : va_G} {k : Nat → ClassId} {a : Nat → Nat} {ρ : Nat → Nat} (p0 : Int32) (σ : CS) (R : Int32) (h : f_X1_hasColumn p0 σ = some R) : Ct l yX1_hasColumn wsX1_hasColumn ({ frames := 1, cells := 0, slots := 0, locals := 20 } : Room) D (cT k) (cW k a ρ σ) (cW k a ρ σ) [.ref (a 2), .int p0] (some (.int R)) := by
  refine ct_of (cc := cX1_hasColumn) (maxL := 2) (ret := (some .boolean)) (by decide) rfl (Nat.le_of_ble_eq_true rfl) ?_
  intro p e s m args below meth c A ls X hr hlk hK hA hP hD hS hl
  have X : CallFix p m c cX1_hasColumn 2 s args wsX1_hasColumn RX1 := X
  have hl : lv_has ls 2 [(0, .ref (a 2)), (1, .int p0)] := hl
  rw [f_X1_hasColumn] at h
  refine lv_iload_n X.1 X.2.1 dX1_hasColumn_0 rfl (lv_at hl 1 rfl) ?_
  refine lv_if_lt (tgt := 16) X.1 X.2.1 dX1_hasColumn_1 (by decide) (fun c1 => ?_) (fun c1 => ?_)
  · rw [if_pos c1] at h
    refine lv_iconst (v := (0 : Int32)) X.1 X.2.1 dX1_hasColumn_16 (by decide) ?_
    have h := sm_e h
    subst h
    exact rt_z X hr hlk rfl hK hP hD hS dX1_hasColumn_17
  · rw [if_neg c1] at h
    refine lv_iload_n X.1 X.2.1 dX1_hasColumn_4 rfl (lv_at hl 1 rfl) ?_
    refine lv_aload_n X.1 X.2.1 dX1_hasColumn_5 rfl (lv_at hl 0 rfl) ?_
    obtain ⟨r2, q3, h⟩ := bd_e h
    refine kc_v (As := []) (rest := [.int p0]) X (k_X1_columnOfQ σ _ q3) (cwV 0 X.2.2.2.2 gX1_hasColumn_X1_columnOfQ rfl rfl rfl hd_X1_columnOfQ ⟨Nat.le_of_ble_eq_true rfl, Nat.le_of_ble_eq_true rfl⟩) hK hP hD hS hA (va_recv hK hP (ci := 1) (q0 := 2) rfl rfl) rfl hl.1 rfl (Nat.le_of_ble_eq_true rfl) dX1_hasColumn_6 ⟨Nat.le_of_ble_eq_true rfl, Nat.le_of_ble_eq_true rfl⟩ (fun H locs hP hD hS => ?_)
    refine lv_icmp_gt (tgt := 16) X.1 X.2.1 dX1_hasColumn_9 (by decide) (fun c4 => ?_) (fun c4 => ?_)
    · rw [if_pos c4] at h
      refine lv_iconst (v := (0 : Int32)) X.1 X.2.1 dX1_hasColumn_16 (by decide) ?_
      have h := sm_e h
      subst h
      exact rt_z X hr hlk rfl hK hP hD hS dX1_hasColumn_17
    · rw [if_neg c4] at h
      refine lv_iconst (v := (1 : Int32)) X.1 X.2.1 dX1_hasColumn_12 (by decide) ?_
      refine lv_goto (tgt := 17) X.1 X.2.1 dX1_hasColumn_13 (by decide) ?_
      have h := sm_e h
      subst h
      exact rt_z X hr hlk rfl hK hP hD hS dX1_hasColumn_17
def f_X1_columnOfY (σ : CS) : Option Int32 := some ((2 : Int32) * (c_rw σ))
theorem hd_X1_columnOfY : yX1_columnOfY.cls = RX1 ∧ yX1_columnOfY.cls ≠ "java/lang/invoke/MethodHandle" ∧ yX1_columnOfY.cls ≠ "java/lang/invoke/VarHandle" ∧ (parseMethodDescriptor yX1_columnOfY.desc).map (fun d => d.parameters.length) = some 0 := by decide +kernel
set_option maxHeartbeats 4000000 in
set_option maxRecDepth 100000 in
theorem k_X1_columnOfY {l : Launch} {D : va_G} {k : Nat → ClassId} {a : Nat → Nat} {ρ : Nat → Nat}  (σ : CS) (R : Int32) (h : f_X1_columnOfY σ = some R) : Ct l yX1_columnOfY wsX1_columnOfY ({ frames := 0, cells := 0, slots := 0, locals := 0 } : Room) D (cT k) (cW k a ρ σ) (cW k a ρ σ) [.ref (a 2)] (some (.int R)) := by
  refine ct_of (cc := cX1_columnOfY) (maxL := 1) (ret := (some .int)) (by decide) rfl (Nat.le_of_ble_eq_true rfl) ?_
  intro p e s m args below meth c A ls X hr hlk hK hA hP hD hS hl
  have X : CallFix p m c cX1_columnOfY 1 s args wsX1_columnOfY RX1 := X
  have hl : lv_has ls 1 [(0, .ref (a 2))] := hl
  rw [f_X1_columnOfY] at h
  refine lv_iconst (v := (2 : Int32)) X.1 X.2.1 dX1_columnOfY_0 (by decide) ?_
  refine lv_aload_n X.1 X.2.1 dX1_columnOfY_1 rfl (lv_at hl 0 rfl) ?_
  refine gX1_rows X (fun w h => (List.mem_cons_of_mem _ (List.mem_append_right _ h))) hK hP (List.mem_cons_of_mem _ (List.mem_append_left _ (List.mem_of_getElem? (i := 0) rfl))) dX1_columnOfY_2 ?_
  refine lv_imul X.1 X.2.1 dX1_columnOfY_5 ?_
  have h := sm_e h
  subst h
  exact rt_i X hr hlk hK hP hD hS dX1_columnOfY_6
def f_X1_letter (p0 : Int32) (σ : CS) : Option Int32 := if (c_rw σ) ≤ p0 then (f_X1_columnOfY σ).bind (fun r2 => if r2 ≤ p0 then some (200 : Int32) else some (((100 : Int32) + p0) - (c_rw σ))) else some p0
theorem hd_X1_letter : yX1_letter.cls = RX1 ∧ yX1_letter.cls ≠ "java/lang/invoke/MethodHandle" ∧ yX1_letter.cls ≠ "java/lang/invoke/VarHandle" ∧ (parseMethodDescriptor yX1_letter.desc).map (fun d => d.parameters.length) = some 1 := by decide +kernel
set_option maxHeartbeats 4000000 in
set_option maxRecDepth 100000 in
theorem k_X1_letter {l : Launch} {D : va_G} {k : Nat → ClassId} {a : Nat → Nat} {ρ : Nat → Nat} (p0 : Int32) (σ : CS) (R : Int32) (h : f_X1_letter p0 σ = some R) : Ct l yX1_letter wsX1_letter ({ frames := 1, cells := 0, slots := 0, locals := 20 } : Room) D (cT k) (cW k a ρ σ) (cW k a ρ σ) [.ref (a 2), .int p0] (some (.int R)) := by
  refine ct_of (cc := cX1_letter) (maxL := 2) (ret := (some .int)) (by decide) rfl (Nat.le_of_ble_eq_true rfl) ?_
  intro p e s m args below meth c A ls X hr hlk hK hA hP hD hS hl
  have X : CallFix p m c cX1_letter 2 s args wsX1_letter RX1 := X
  have hl : lv_has ls 2 [(0, .ref (a 2)), (1, .int p0)] := hl
  rw [f_X1_letter] at h
  refine lv_iload_n X.1 X.2.1 dX1_letter_0 rfl (lv_at hl 1 rfl) ?_
  refine lv_aload_n X.1 X.2.1 dX1_letter_1 rfl (lv_at hl 0 rfl) ?_
  refine gX1_rows X (fun w h => (List.mem_cons_of_mem _ (List.mem_append_right _ h))) hK hP (List.mem_cons_of_mem _ (List.mem_append_left _ (List.mem_of_getElem? (i := 0) rfl))) dX1_letter_2 ?_
  refine lv_icmp_ge (tgt := 10) X.1 X.2.1 dX1_letter_5 (by decide) (fun c1 => ?_) (fun c1 => ?_)
  · rw [if_pos c1] at h
    refine lv_iload_n X.1 X.2.1 dX1_letter_10 rfl (lv_at hl 1 rfl) ?_
    refine lv_aload_n X.1 X.2.1 dX1_letter_11 rfl (lv_at hl 0 rfl) ?_
    obtain ⟨r2, q3, h⟩ := bd_e h
    refine kc_v (As := []) (rest := [.int p0]) X (k_X1_columnOfY σ _ q3) (cwV 0 X.2.2.2.2 gX1_letter_X1_columnOfY rfl rfl rfl hd_X1_columnOfY ⟨Nat.le_of_ble_eq_true rfl, Nat.le_of_ble_eq_true rfl⟩) hK hP hD hS hA (va_recv hK hP (ci := 1) (q0 := 2) rfl rfl) rfl hl.1 rfl (Nat.le_of_ble_eq_true rfl) dX1_letter_12 ⟨Nat.le_of_ble_eq_true rfl, Nat.le_of_ble_eq_true rfl⟩ (fun H locs hP hD hS => ?_)
    refine lv_icmp_ge (tgt := 30) X.1 X.2.1 dX1_letter_15 (by decide) (fun c4 => ?_) (fun c4 => ?_)
    · rw [if_pos c4] at h
      refine lv_sipush (v := (200 : Int32)) X.1 X.2.1 dX1_letter_30 (by decide) ?_
      have h := sm_e h
      subst h
      exact rt_i X hr hlk hK hP hD hS dX1_letter_33
    · rw [if_neg c4] at h
      refine lv_bipush (v := (100 : Int32)) X.1 X.2.1 dX1_letter_18 (by decide) ?_
      refine lv_iload_n X.1 X.2.1 dX1_letter_20 rfl (lv_at hl 1 rfl) ?_
      refine lv_iadd X.1 X.2.1 dX1_letter_21 ?_
      refine lv_aload_n X.1 X.2.1 dX1_letter_22 rfl (lv_at hl 0 rfl) ?_
      refine gX1_rows X (fun w h => (List.mem_cons_of_mem _ (List.mem_append_right _ h))) hK hP (List.mem_cons_of_mem _ (List.mem_append_left _ (List.mem_of_getElem? (i := 0) rfl))) dX1_letter_23 ?_
      refine lv_isub X.1 X.2.1 dX1_letter_26 ?_
      refine lv_goto (tgt := 33) X.1 X.2.1 dX1_letter_27 (by decide) ?_
      have h := sm_e h
      subst h
      exact rt_i X hr hlk hK hP hD hS dX1_letter_33
  · rw [if_neg c1] at h
    refine lv_iload_n X.1 X.2.1 dX1_letter_8 rfl (lv_at hl 1 rfl) ?_
    have h := sm_e h
    subst h
    exact rt_i X hr hlk hK hP hD hS dX1_letter_9
def f_X1_complement (p0 : Int32) (σ : CS) : Option Int32 := if (c_rw σ) ≤ p0 then some (p0 - (c_rw σ)) else some (p0 + (c_rw σ))
theorem hd_X1_complement : yX1_complement.cls = RX1 ∧ yX1_complement.cls ≠ "java/lang/invoke/MethodHandle" ∧ yX1_complement.cls ≠ "java/lang/invoke/VarHandle" ∧ (parseMethodDescriptor yX1_complement.desc).map (fun d => d.parameters.length) = some 1 := by decide +kernel
set_option maxHeartbeats 4000000 in
set_option maxRecDepth 100000 in
theorem k_X1_complement {l : Launch} {D : va_G} {k : Nat → ClassId} {a : Nat → Nat} {ρ : Nat → Nat} (p0 : Int32) (σ : CS) (R : Int32) (h : f_X1_complement p0 σ = some R) : Ct l yX1_complement wsX1_complement ({ frames := 0, cells := 0, slots := 0, locals := 0 } : Room) D (cT k) (cW k a ρ σ) (cW k a ρ σ) [.ref (a 2), .int p0] (some (.int R)) := by
  refine ct_of (cc := cX1_complement) (maxL := 2) (ret := (some .int)) (by decide) rfl (Nat.le_of_ble_eq_true rfl) ?_
  intro p e s m args below meth c A ls X hr hlk hK hA hP hD hS hl
  have X : CallFix p m c cX1_complement 2 s args wsX1_complement RX1 := X
  have hl : lv_has ls 2 [(0, .ref (a 2)), (1, .int p0)] := hl
  rw [f_X1_complement] at h
  refine lv_iload_n X.1 X.2.1 dX1_complement_0 rfl (lv_at hl 1 rfl) ?_
  refine lv_aload_n X.1 X.2.1 dX1_complement_1 rfl (lv_at hl 0 rfl) ?_
  refine gX1_rows X (fun w h => (List.mem_cons_of_mem _ (List.mem_append_right _ h))) hK hP (List.mem_cons_of_mem _ (List.mem_append_left _ (List.mem_of_getElem? (i := 0) rfl))) dX1_complement_2 ?_
  refine lv_icmp_ge (tgt := 17) X.1 X.2.1 dX1_complement_5 (by decide) (fun c1 => ?_) (fun c1 => ?_)
  · rw [if_pos c1] at h
    refine lv_iload_n X.1 X.2.1 dX1_complement_17 rfl (lv_at hl 1 rfl) ?_
    refine lv_aload_n X.1 X.2.1 dX1_complement_18 rfl (lv_at hl 0 rfl) ?_
    refine gX1_rows X (fun w h => (List.mem_cons_of_mem _ (List.mem_append_right _ h))) hK hP (List.mem_cons_of_mem _ (List.mem_append_left _ (List.mem_of_getElem? (i := 0) rfl))) dX1_complement_19 ?_
    refine lv_isub X.1 X.2.1 dX1_complement_22 ?_
    have h := sm_e h
    subst h
    exact rt_i X hr hlk hK hP hD hS dX1_complement_23
  · rw [if_neg c1] at h
    refine lv_iload_n X.1 X.2.1 dX1_complement_8 rfl (lv_at hl 1 rfl) ?_
    refine lv_aload_n X.1 X.2.1 dX1_complement_9 rfl (lv_at hl 0 rfl) ?_
    refine gX1_rows X (fun w h => (List.mem_cons_of_mem _ (List.mem_append_right _ h))) hK hP (List.mem_cons_of_mem _ (List.mem_append_left _ (List.mem_of_getElem? (i := 0) rfl))) dX1_complement_10 ?_
    refine lv_iadd X.1 X.2.1 dX1_complement_13 ?_
    refine lv_goto (tgt := 23) X.1 X.2.1 dX1_complement_14 (by decide) ?_
    have h := sm_e h
    subst h
    exact rt_i X hr hlk hK hP hD hS dX1_complement_23
def f_X1_matrix (p1 : Int32) (p2 : Int32) (σ : CS) : Option Int32 := lt_ (c_sz σ) (fun x1 => if x1 ≤ p1 then if p2 = (x1 + p1) then some (1 : Int32) else if p1 = (x1 + p2) then some (-1 : Int32) else some (0 : Int32) else if x1 ≤ p2 then if p2 = (x1 + p1) then some (1 : Int32) else if p1 = (x1 + p2) then some (-1 : Int32) else some (0 : Int32) else (f_X0_product p1 p2 σ).bind (fun r9 => some r9))
theorem hd_X1_matrix : yX1_matrix.cls ≠ "java/lang/invoke/MethodHandle" ∧ yX1_matrix.cls ≠ "java/lang/invoke/VarHandle" ∧ (parseMethodDescriptor yX1_matrix.desc).map (fun d => d.parameters.length) = some 3 := by decide +kernel
set_option maxHeartbeats 4000000 in
set_option maxRecDepth 100000 in
theorem k_X1_matrix {l : Launch} {D : va_G} {k : Nat → ClassId} {a : Nat → Nat} {ρ : Nat → Nat} (p1 : Int32) (p2 : Int32) (σ : CS) (R : Int32) (h : f_X1_matrix p1 p2 σ = some R) : Ct l yX1_matrix wsX1_matrix ({ frames := 2, cells := 0, slots := 0, locals := 46 } : Room) D (cT k) (cW k a ρ σ) (cW k a ρ σ) [.ref (a 1), .int p1, .int p2] (some (.int R)) := by
  refine ct_of (cc := cX1_matrix) (maxL := 4) (ret := (some .int)) (by decide) rfl (Nat.le_of_ble_eq_true rfl) ?_
  intro p e s m args below meth c A ls X hr hlk hK hA hP hD hS hl
  have X : CallFix p m c cX1_matrix 4 s args wsX1_matrix RX1 := X
  have hl : lv_has ls 4 [(0, .ref (a 1)), (1, .int p1), (2, .int p2)] := hl
  rw [f_X1_matrix] at h
  refine lv_aload_n X.1 X.2.1 dX1_matrix_0 rfl (lv_at hl 0 rfl) ?_
  refine gX0_size X (fun w h => (List.mem_cons_of_mem _ (List.mem_append_right _ h))) hK hP (List.mem_cons_of_mem _ (List.mem_append_left _ (List.mem_of_getElem? (i := 0) rfl))) dX1_matrix_1 ?_
  obtain ⟨x1, e2, h⟩ := lt_e h
  refine nm_i e2 ?_
  refine lv_istore_n (lv' := [(3, .int x1), (0, .ref (a 1)), (1, .int p1), (2, .int p2)]) X.1 X.2.1 dX1_matrix_4 rfl hl (by decide) rfl (fun ls hl => ?_)
  refine lv_iload_n X.1 X.2.1 dX1_matrix_5 rfl (lv_at hl 2 rfl) ?_
  refine lv_iload_n X.1 X.2.1 dX1_matrix_6 rfl (lv_at hl 0 rfl) ?_
  refine lv_icmp_ge (tgt := 22) X.1 X.2.1 dX1_matrix_7 (by decide) (fun c3 => ?_) (fun c3 => ?_)
  · rw [if_pos c3] at h
    refine lv_iload_n X.1 X.2.1 dX1_matrix_22 rfl (lv_at hl 3 rfl) ?_
    refine lv_iload_n X.1 X.2.1 dX1_matrix_23 rfl (lv_at hl 0 rfl) ?_
    refine lv_iload_n X.1 X.2.1 dX1_matrix_24 rfl (lv_at hl 2 rfl) ?_
    refine lv_iadd X.1 X.2.1 dX1_matrix_25 ?_
    refine lv_icmp_ne (tgt := 31) X.1 X.2.1 dX1_matrix_26 (by decide) (fun c4 => ?_) (fun c4 => ?_)
    · rw [if_neg c4] at h
      refine lv_iload_n X.1 X.2.1 dX1_matrix_31 rfl (lv_at hl 2 rfl) ?_
      refine lv_iload_n X.1 X.2.1 dX1_matrix_32 rfl (lv_at hl 0 rfl) ?_
      refine lv_iload_n X.1 X.2.1 dX1_matrix_33 rfl (lv_at hl 3 rfl) ?_
      refine lv_iadd X.1 X.2.1 dX1_matrix_34 ?_
      refine lv_icmp_ne (tgt := 42) X.1 X.2.1 dX1_matrix_35 (by decide) (fun c5 => ?_) (fun c5 => ?_)
      · rw [if_neg c5] at h
        refine lv_iconst (v := (0 : Int32)) X.1 X.2.1 dX1_matrix_42 (by decide) ?_
        have h := sm_e h
        subst h
        exact rt_i X hr hlk hK hP hD hS dX1_matrix_43
      · rw [if_pos c5] at h
        refine lv_iconst (v := (-1 : Int32)) X.1 X.2.1 dX1_matrix_38 (by decide) ?_
        refine lv_goto (tgt := 43) X.1 X.2.1 dX1_matrix_39 (by decide) ?_
        have h := sm_e h
        subst h
        exact rt_i X hr hlk hK hP hD hS dX1_matrix_43
    · rw [if_pos c4] at h
      refine lv_iconst (v := (1 : Int32)) X.1 X.2.1 dX1_matrix_29 (by decide) ?_
      have h := sm_e h
      subst h
      exact rt_i X hr hlk hK hP hD hS dX1_matrix_30
  · rw [if_neg c3] at h
    refine lv_iload_n X.1 X.2.1 dX1_matrix_10 rfl (lv_at hl 3 rfl) ?_
    refine lv_iload_n X.1 X.2.1 dX1_matrix_11 rfl (lv_at hl 0 rfl) ?_
    refine lv_icmp_ge (tgt := 22) X.1 X.2.1 dX1_matrix_12 (by decide) (fun c6 => ?_) (fun c6 => ?_)
    · rw [if_pos c6] at h
      refine lv_iload_n X.1 X.2.1 dX1_matrix_22 rfl (lv_at hl 3 rfl) ?_
      refine lv_iload_n X.1 X.2.1 dX1_matrix_23 rfl (lv_at hl 0 rfl) ?_
      refine lv_iload_n X.1 X.2.1 dX1_matrix_24 rfl (lv_at hl 2 rfl) ?_
      refine lv_iadd X.1 X.2.1 dX1_matrix_25 ?_
      refine lv_icmp_ne (tgt := 31) X.1 X.2.1 dX1_matrix_26 (by decide) (fun c7 => ?_) (fun c7 => ?_)
      · rw [if_neg c7] at h
        refine lv_iload_n X.1 X.2.1 dX1_matrix_31 rfl (lv_at hl 2 rfl) ?_
        refine lv_iload_n X.1 X.2.1 dX1_matrix_32 rfl (lv_at hl 0 rfl) ?_
        refine lv_iload_n X.1 X.2.1 dX1_matrix_33 rfl (lv_at hl 3 rfl) ?_
        refine lv_iadd X.1 X.2.1 dX1_matrix_34 ?_
        refine lv_icmp_ne (tgt := 42) X.1 X.2.1 dX1_matrix_35 (by decide) (fun c8 => ?_) (fun c8 => ?_)
        · rw [if_neg c8] at h
          refine lv_iconst (v := (0 : Int32)) X.1 X.2.1 dX1_matrix_42 (by decide) ?_
          have h := sm_e h
          subst h
          exact rt_i X hr hlk hK hP hD hS dX1_matrix_43
        · rw [if_pos c8] at h
          refine lv_iconst (v := (-1 : Int32)) X.1 X.2.1 dX1_matrix_38 (by decide) ?_
          refine lv_goto (tgt := 43) X.1 X.2.1 dX1_matrix_39 (by decide) ?_
          have h := sm_e h
          subst h
          exact rt_i X hr hlk hK hP hD hS dX1_matrix_43
      · rw [if_pos c7] at h
        refine lv_iconst (v := (1 : Int32)) X.1 X.2.1 dX1_matrix_29 (by decide) ?_
        have h := sm_e h
        subst h
        exact rt_i X hr hlk hK hP hD hS dX1_matrix_30
    · rw [if_neg c6] at h
      refine lv_aload_n X.1 X.2.1 dX1_matrix_15 rfl (lv_at hl 1 rfl) ?_
      refine lv_iload_n X.1 X.2.1 dX1_matrix_16 rfl (lv_at hl 2 rfl) ?_
      refine lv_iload_n X.1 X.2.1 dX1_matrix_17 rfl (lv_at hl 3 rfl) ?_
      obtain ⟨r9, q10, h⟩ := bd_e h
      refine kc_v (As := [.int p1, .int p2]) (rest := []) X (k_X0_product p1 p2 σ _ q10) (cwV 2 X.2.2.2.2 gX1_matrix_X0_product rfl rfl rfl hd_X0_product ⟨Nat.le_of_ble_eq_true rfl, Nat.le_of_ble_eq_true rfl⟩) hK hP hD hS hA (va_recv hK hP (ci := 0) (q0 := 1) rfl rfl) rfl hl.1 rfl (Nat.le_of_ble_eq_true rfl) dX1_matrix_18 ⟨Nat.le_of_ble_eq_true rfl, Nat.le_of_ble_eq_true rfl⟩ (fun H locs hP hD hS => ?_)
      have h := sm_e h
      subst h
      exact rt_i X hr hlk hK hP hD hS dX1_matrix_21
def f_X1_lay_L53 (N : Nat) : Nat → Int32 → Int32 → Int32 → Int32 → Int32 → CS → Option CS
  | 0, _, _, _, _, _, _ => none
  | n + 1, v2, v3, v4, v5, v6, σ => if (c_rw σ) ≤ v6 then some σ else gd (inB v5 12) (if v6 = v5 then gd (inB v5 12) (gd (inB v6 26) (lt_ (s_gg σ (upG (c_gg σ) v5.toNatClampNeg v6.toNatClampNeg (1 : Int64))) (fun σ19 => gd (inB v5 12) ((f_X1_matrix v5 v6 σ19).bind (fun r22 => gd (inB v5 12) (gd (inB ((c_rw σ19) + v6) 26) (lt_ (s_gg σ19 (upG (c_gg σ19) v5.toNatClampNeg ((c_rw σ19) + v6).toNatClampNeg ((-r22).toInt64))) (fun σ26 => lt_ (v6 + (1 : Int32)) (fun x28 => f_X1_lay_L53 N n v2 v3 v4 v5 x28 σ26))))))))) else gd (inB v5 12) (gd (inB v6 26) (lt_ (s_gg σ (upG (c_gg σ) v5.toNatClampNeg v6.toNatClampNeg (0 : Int64))) (fun σ6 => gd (inB v5 12) ((f_X1_matrix v5 v6 σ6).bind (fun r9 => gd (inB v5 12) (gd (inB ((c_rw σ6) + v6) 26) (lt_ (s_gg σ6 (upG (c_gg σ6) v5.toNatClampNeg ((c_rw σ6) + v6).toNatClampNeg ((-r9).toInt64))) (fun σ13 => lt_ (v6 + (1 : Int32)) (fun x15 => f_X1_lay_L53 N n v2 v3 v4 v5 x15 σ13))))))))))
set_option maxHeartbeats 4000000 in
set_option maxRecDepth 100000 in
theorem t_X1_lay_L53 {p : Program} {l : Launch} {e : Env} {s : State} {m : MethodId} {args : Array Value} {below : List Frame} {meth : Method} {c : Code} {D : va_G} {A : Nat → Prop} {k : Nat → ClassId} {a : Nat → Nat} {ρ : Nat → Nat} (X : CallFix p m c cX1_lay 7 s args wsX1_lay RX1) (hK : va_K D vwCl (cT k) s) (hA : ∀ q : Nat, s.heap.size ≤ q → A q) (N : Nat) {Q : State → Prop} : ∀ (n : Nat) (v2 : Int32) (v3 : Int32) (v4 : Int32) (v5 : Int32) (v6 : Int32) (σ : CS) (R : CS), f_X1_lay_L53 N n v2 v3 v4 v5 v6 σ = some R → ∀ (H : Heap) (locs : List Loc) (ls : Array Slot), va_P D vwCl (cW k a ρ σ) H → va_D A (cW k a ρ σ) → va_S A s.heap H locs → lv_has ls 7 [(0, .ref (a 2)), (1, .ref (a 1)), (2, .int v2), (3, .int v3), (4, .int v4), (5, .int v5), (6, .int v6)] → (∀ (H : Heap) (locs : List Loc) (ls : Array Slot), va_P D vwCl (cW k a ρ R) H → va_D A (cW k a ρ R) → va_S A s.heap H locs → lv_has ls 7 [(0, .ref (a 2)), (1, .ref (a 1)), (2, .int v2), (3, .int v3), (4, .int v4), (5, .int v5)] → W p l e ({ frames := 3, cells := 0, slots := 0, locals := 69 } : Room) s m args below meth c H locs 0 0 Q (F0 m 115 ls [])) → W p l e ({ frames := 3, cells := 0, slots := 0, locals := 69 } : Room) s m args below meth c H locs 0 0 Q (F0 m 53 ls []) := by
  intro n
  induction n with
  | zero =>
    intro v2 v3 v4 v5 v6 σ R h
    exact absurd h (by simp [f_X1_lay_L53])
  | succ n ih =>
    intro v2 v3 v4 v5 v6 σ R h H locs ls hP hD hS hl kk
    rw [f_X1_lay_L53] at h
    refine lv_iload X.1 X.2.1 dX1_lay_53 (lv_at hl 6 rfl) ?_
    refine lv_aload_n X.1 X.2.1 dX1_lay_55 rfl (lv_at hl 0 rfl) ?_
    refine gX1_rows X (fun w h => (List.mem_cons_of_mem _ (List.mem_append_right _ h))) hK hP (List.mem_cons_of_mem _ (List.mem_append_left _ (List.mem_append_left _ (List.mem_append_left _ (List.mem_of_getElem? (i := 1) rfl))))) dX1_lay_56 ?_
    refine lv_icmp_ge (tgt := 115) X.1 X.2.1 dX1_lay_59 (by decide) (fun c1 => ?_) (fun c1 => ?_)
    · rw [if_pos c1] at h
      have h := sm_e h
      subst h
      exact kk _ _ _ hP hD hS (lv_sub hl [0, 1, 2, 3, 4, 5] rfl)
    · rw [if_neg c1] at h
      refine lv_aload_n X.1 X.2.1 dX1_lay_62 rfl (lv_at hl 0 rfl) ?_
      refine gX1_cell X (fun w h => (List.mem_cons_of_mem _ (List.mem_append_right _ h))) hK hP (List.mem_cons_of_mem _ (List.mem_append_left _ (List.mem_append_left _ (List.mem_append_left _ (List.mem_of_getElem? (i := 6) rfl))))) dX1_lay_63 ?_
      refine lv_iload X.1 X.2.1 dX1_lay_66 (lv_at hl 5 rfl) ?_
      obtain ⟨g2, h⟩ := gd_e h
      refine lc_cell X hK hP g2 dX1_lay_68 ?_
      refine lv_iload X.1 X.2.1 dX1_lay_69 (lv_at hl 6 rfl) ?_
      refine lv_iload X.1 X.2.1 dX1_lay_71 (lv_at hl 6 rfl) ?_
      refine lv_iload X.1 X.2.1 dX1_lay_73 (lv_at hl 5 rfl) ?_
      refine lv_icmp_ne (tgt := 82) X.1 X.2.1 dX1_lay_75 (by decide) (fun c3 => ?_) (fun c3 => ?_)
      · rw [if_neg c3] at h
        refine lv_lconst (v := (0 : Int64)) X.1 X.2.1 dX1_lay_82 (by decide) ?_
        obtain ⟨g4, h⟩ := gd_e h
        obtain ⟨g5, h⟩ := gd_e h
        obtain ⟨σ6, e7, h⟩ := lt_e h
        refine tc_row X hK hP hD hS g4 g5 e7 dX1_lay_83 (fun H locs hP hD hS => ?_)
        refine lv_aload_n X.1 X.2.1 dX1_lay_84 rfl (lv_at hl 0 rfl) ?_
        refine gX1_cell X (fun w h => (List.mem_cons_of_mem _ (List.mem_append_right _ h))) hK hP (List.mem_cons_of_mem _ (List.mem_append_left _ (List.mem_append_left _ (List.mem_append_left _ (List.mem_of_getElem? (i := 6) rfl))))) dX1_lay_85 ?_
        refine lv_iload X.1 X.2.1 dX1_lay_88 (lv_at hl 5 rfl) ?_
        obtain ⟨g8, h⟩ := gd_e h
        refine lc_cell X hK hP g8 dX1_lay_90 ?_
        refine lv_aload_n X.1 X.2.1 dX1_lay_91 rfl (lv_at hl 0 rfl) ?_
        refine gX1_rows X (fun w h => (List.mem_cons_of_mem _ (List.mem_append_right _ h))) hK hP (List.mem_cons_of_mem _ (List.mem_append_left _ (List.mem_append_left _ (List.mem_append_left _ (List.mem_of_getElem? (i := 1) rfl))))) dX1_lay_92 ?_
        refine lv_iload X.1 X.2.1 dX1_lay_95 (lv_at hl 6 rfl) ?_
        refine lv_iadd X.1 X.2.1 dX1_lay_97 ?_
        refine lv_aload_n X.1 X.2.1 dX1_lay_98 rfl (lv_at hl 1 rfl) ?_
        refine lv_iload X.1 X.2.1 dX1_lay_99 (lv_at hl 5 rfl) ?_
        refine lv_iload X.1 X.2.1 dX1_lay_101 (lv_at hl 6 rfl) ?_
        obtain ⟨r9, q10, h⟩ := bd_e h
        refine kc_t (As := [.ref (a 1), .int v5, .int v6]) (rest := [.int ((c_rw σ6) + v6), .ref (ρ (v5).toNatClampNeg)]) X (k_X1_matrix v5 v6 σ6 _ q10) (va_cwS 3 X.2.2.2.2 gX1_lay_X1_matrix rfl rfl rfl hd_X1_matrix ⟨Nat.le_of_ble_eq_true rfl, Nat.le_of_ble_eq_true rfl⟩) hK hP hD hS hA rfl hl.1 rfl (Nat.le_of_ble_eq_true rfl) dX1_lay_103 ⟨Nat.le_of_ble_eq_true rfl, Nat.le_of_ble_eq_true rfl⟩ (fun H locs hP hD hS => ?_)
        refine lv_ineg X.1 X.2.1 dX1_lay_106 ?_
        refine lv_i2l (v := (-r9).toInt64) X.1 X.2.1 dX1_lay_107 rfl ?_
        obtain ⟨g11, h⟩ := gd_e h
        obtain ⟨g12, h⟩ := gd_e h
        obtain ⟨σ13, e14, h⟩ := lt_e h
        refine tc_row X hK hP hD hS g11 g12 e14 dX1_lay_108 (fun H locs hP hD hS => ?_)
        obtain ⟨x15, e16, h⟩ := lt_e h
        refine lv_iinc (v := x15) (lv' := [(6, .int x15), (0, .ref (a 2)), (1, .ref (a 1)), (2, .int v2), (3, .int v3), (4, .int v4), (5, .int v5)]) X.1 X.2.1 dX1_lay_109 hl (k := 6) rfl e16.symm (by decide) rfl (fun ls hl => ?_)
        refine lv_goto (tgt := 53) X.1 X.2.1 dX1_lay_112 (by decide) ?_
        exact ih v2 v3 v4 v5 x15 σ13 _ h _ _ _ hP hD hS (lv_sub hl [1, 2, 3, 4, 5, 6, 0] rfl) kk
      · rw [if_pos c3] at h
        refine lv_lconst (v := (1 : Int64)) X.1 X.2.1 dX1_lay_78 (by decide) ?_
        refine lv_goto (tgt := 83) X.1 X.2.1 dX1_lay_79 (by decide) ?_
        obtain ⟨g17, h⟩ := gd_e h
        obtain ⟨g18, h⟩ := gd_e h
        obtain ⟨σ19, e20, h⟩ := lt_e h
        refine tc_row X hK hP hD hS g17 g18 e20 dX1_lay_83 (fun H locs hP hD hS => ?_)
        refine lv_aload_n X.1 X.2.1 dX1_lay_84 rfl (lv_at hl 0 rfl) ?_
        refine gX1_cell X (fun w h => (List.mem_cons_of_mem _ (List.mem_append_right _ h))) hK hP (List.mem_cons_of_mem _ (List.mem_append_left _ (List.mem_append_left _ (List.mem_append_left _ (List.mem_of_getElem? (i := 6) rfl))))) dX1_lay_85 ?_
        refine lv_iload X.1 X.2.1 dX1_lay_88 (lv_at hl 5 rfl) ?_
        obtain ⟨g21, h⟩ := gd_e h
        refine lc_cell X hK hP g21 dX1_lay_90 ?_
        refine lv_aload_n X.1 X.2.1 dX1_lay_91 rfl (lv_at hl 0 rfl) ?_
        refine gX1_rows X (fun w h => (List.mem_cons_of_mem _ (List.mem_append_right _ h))) hK hP (List.mem_cons_of_mem _ (List.mem_append_left _ (List.mem_append_left _ (List.mem_append_left _ (List.mem_of_getElem? (i := 1) rfl))))) dX1_lay_92 ?_
        refine lv_iload X.1 X.2.1 dX1_lay_95 (lv_at hl 6 rfl) ?_
        refine lv_iadd X.1 X.2.1 dX1_lay_97 ?_
        refine lv_aload_n X.1 X.2.1 dX1_lay_98 rfl (lv_at hl 1 rfl) ?_
        refine lv_iload X.1 X.2.1 dX1_lay_99 (lv_at hl 5 rfl) ?_
        refine lv_iload X.1 X.2.1 dX1_lay_101 (lv_at hl 6 rfl) ?_
        obtain ⟨r22, q23, h⟩ := bd_e h
        refine kc_t (As := [.ref (a 1), .int v5, .int v6]) (rest := [.int ((c_rw σ19) + v6), .ref (ρ (v5).toNatClampNeg)]) X (k_X1_matrix v5 v6 σ19 _ q23) (va_cwS 3 X.2.2.2.2 gX1_lay_X1_matrix rfl rfl rfl hd_X1_matrix ⟨Nat.le_of_ble_eq_true rfl, Nat.le_of_ble_eq_true rfl⟩) hK hP hD hS hA rfl hl.1 rfl (Nat.le_of_ble_eq_true rfl) dX1_lay_103 ⟨Nat.le_of_ble_eq_true rfl, Nat.le_of_ble_eq_true rfl⟩ (fun H locs hP hD hS => ?_)
        refine lv_ineg X.1 X.2.1 dX1_lay_106 ?_
        refine lv_i2l (v := (-r22).toInt64) X.1 X.2.1 dX1_lay_107 rfl ?_
        obtain ⟨g24, h⟩ := gd_e h
        obtain ⟨g25, h⟩ := gd_e h
        obtain ⟨σ26, e27, h⟩ := lt_e h
        refine tc_row X hK hP hD hS g24 g25 e27 dX1_lay_108 (fun H locs hP hD hS => ?_)
        obtain ⟨x28, e29, h⟩ := lt_e h
        refine lv_iinc (v := x28) (lv' := [(6, .int x28), (0, .ref (a 2)), (1, .ref (a 1)), (2, .int v2), (3, .int v3), (4, .int v4), (5, .int v5)]) X.1 X.2.1 dX1_lay_109 hl (k := 6) rfl e29.symm (by decide) rfl (fun ls hl => ?_)
        refine lv_goto (tgt := 53) X.1 X.2.1 dX1_lay_112 (by decide) ?_
        exact ih v2 v3 v4 v5 x28 σ26 _ h _ _ _ hP hD hS (lv_sub hl [1, 2, 3, 4, 5, 6, 0] rfl) kk
def f_X1_lay_L32 (N : Nat) : Nat → Int32 → Int32 → Int32 → Int32 → CS → Option CS
  | 0, _, _, _, _, _ => none
  | n + 1, v2, v3, v4, v5, σ => if (c_rw σ) ≤ v5 then some σ else gd (inB v5 12) (lt_ (s_tl σ (upd (c_tl σ) v5.toNatClampNeg v5)) (fun σ3 => (f_X1_lay_L53 N N v2 v3 v4 v5 (0 : Int32) σ3).bind (fun r30 => gd (inB v5 12) ((f_X1_columnOfY r30).bind (fun r33 => gd (inB v5 12) (gd (inB r33 26) (lt_ (s_gg r30 (upG (c_gg r30) v5.toNatClampNeg r33.toNatClampNeg (-1 : Int64))) (fun σ37 => gd (inB v5 12) ((f_X1_columnOfQ σ37).bind (fun r40 => if v4 ≤ v5 then gd (inB v5 12) (gd (inB r40 26) (lt_ (s_gg σ37 (upG (c_gg σ37) v5.toNatClampNeg r40.toNatClampNeg (v2.toInt64))) (fun σ45 => lt_ (v5 + (1 : Int32)) (fun x47 => f_X1_lay_L32 N n v2 v3 v4 x47 σ45)))) else gd (inB v5 12) (gd (inB r40 26) (lt_ (s_gg σ37 (upG (c_gg σ37) v5.toNatClampNeg r40.toNatClampNeg ((-v3).toInt64))) (fun σ51 => lt_ (v5 + (1 : Int32)) (fun x53 => f_X1_lay_L32 N n v2 v3 v4 x53 σ51))))))))))))))
set_option maxHeartbeats 4000000 in
set_option maxRecDepth 100000 in
theorem t_X1_lay_L32 {p : Program} {l : Launch} {e : Env} {s : State} {m : MethodId} {args : Array Value} {below : List Frame} {meth : Method} {c : Code} {D : va_G} {A : Nat → Prop} {k : Nat → ClassId} {a : Nat → Nat} {ρ : Nat → Nat} (X : CallFix p m c cX1_lay 7 s args wsX1_lay RX1) (hr : meth.sig.returnType = none) (hlk : meth.locks = false) (hK : va_K D vwCl (cT k) s) (hA : ∀ q : Nat, s.heap.size ≤ q → A q) (N : Nat) : ∀ (n : Nat) (v2 : Int32) (v3 : Int32) (v4 : Int32) (v5 : Int32) (σ : CS) (R : CS), f_X1_lay_L32 N n v2 v3 v4 v5 σ = some R → ∀ (H : Heap) (locs : List Loc) (ls : Array Slot), va_P D vwCl (cW k a ρ σ) H → va_D A (cW k a ρ σ) → va_S A s.heap H locs → lv_has ls 7 [(0, .ref (a 2)), (1, .ref (a 1)), (2, .int v2), (3, .int v3), (4, .int v4), (5, .int v5)] → W p l e ({ frames := 3, cells := 0, slots := 0, locals := 69 } : Room) s m args below meth c H locs 0 0 (MQ below (cQ D (cT k) A (cW k a ρ R) none) args s 0 0 A) (F0 m 32 ls []) := by
  intro n
  induction n with
  | zero =>
    intro v2 v3 v4 v5 σ R h
    exact absurd h (by simp [f_X1_lay_L32])
  | succ n ih =>
    intro v2 v3 v4 v5 σ R h H locs ls hP hD hS hl
    rw [f_X1_lay_L32] at h
    refine lv_iload X.1 X.2.1 dX1_lay_32 (lv_at hl 5 rfl) ?_
    refine lv_aload_n X.1 X.2.1 dX1_lay_34 rfl (lv_at hl 0 rfl) ?_
    refine gX1_rows X (fun w h => (List.mem_cons_of_mem _ (List.mem_append_right _ h))) hK hP (List.mem_cons_of_mem _ (List.mem_append_left _ (List.mem_append_left _ (List.mem_append_left _ (List.mem_of_getElem? (i := 1) rfl))))) dX1_lay_35 ?_
    refine lv_icmp_ge (tgt := 163) X.1 X.2.1 dX1_lay_38 (by decide) (fun c1 => ?_) (fun c1 => ?_)
    · rw [if_pos c1] at h
      have h := sm_e h
      subst h
      exact rt_v X hr hlk hK hP hD hS dX1_lay_163
    · rw [if_neg c1] at h
      refine lv_aload_n X.1 X.2.1 dX1_lay_41 rfl (lv_at hl 0 rfl) ?_
      refine gX1_tells X (fun w h => (List.mem_cons_of_mem _ (List.mem_append_right _ h))) hK hP (List.mem_cons_of_mem _ (List.mem_append_left _ (List.mem_append_left _ (List.mem_append_left _ (List.mem_of_getElem? (i := 5) rfl))))) dX1_lay_42 ?_
      refine lv_iload X.1 X.2.1 dX1_lay_45 (lv_at hl 5 rfl) ?_
      refine lv_iload X.1 X.2.1 dX1_lay_47 (lv_at hl 5 rfl) ?_
      obtain ⟨g2, h⟩ := gd_e h
      obtain ⟨σ3, e4, h⟩ := lt_e h
      refine tc_tl X hK hP hD hS g2 e4 dX1_lay_49 (fun H locs hP hD hS => ?_)
      refine lv_iconst (v := (0 : Int32)) X.1 X.2.1 dX1_lay_50 (by decide) ?_
      refine lv_istore (lv' := [(6, .int (0 : Int32)), (0, .ref (a 2)), (1, .ref (a 1)), (2, .int v2), (3, .int v3), (4, .int v4), (5, .int v5)]) X.1 X.2.1 dX1_lay_51 hl (by decide) rfl (fun ls hl => ?_)
      obtain ⟨r30, q31, h⟩ := bd_e h
      refine t_X1_lay_L53 X hK hA N N v2 v3 v4 v5 (0 : Int32) σ3 _ q31 _ _ _ hP hD hS (lv_sub hl [1, 2, 3, 4, 5, 6, 0] rfl) (fun H locs ls hP hD hS hl => ?_)
      refine lv_aload_n X.1 X.2.1 dX1_lay_115 rfl (lv_at hl 0 rfl) ?_
      refine gX1_cell X (fun w h => (List.mem_cons_of_mem _ (List.mem_append_right _ h))) hK hP (List.mem_cons_of_mem _ (List.mem_append_left _ (List.mem_append_left _ (List.mem_append_left _ (List.mem_of_getElem? (i := 6) rfl))))) dX1_lay_116 ?_
      refine lv_iload X.1 X.2.1 dX1_lay_119 (lv_at hl 5 rfl) ?_
      obtain ⟨g32, h⟩ := gd_e h
      refine lc_cell X hK hP g32 dX1_lay_121 ?_
      refine lv_aload_n X.1 X.2.1 dX1_lay_122 rfl (lv_at hl 0 rfl) ?_
      obtain ⟨r33, q34, h⟩ := bd_e h
      refine kc_v (As := []) (rest := [.ref (ρ (v5).toNatClampNeg)]) X (k_X1_columnOfY r30 _ q34) (cwV 0 X.2.2.2.2 gX1_lay_X1_columnOfY rfl rfl rfl hd_X1_columnOfY ⟨Nat.le_of_ble_eq_true rfl, Nat.le_of_ble_eq_true rfl⟩) hK hP hD hS hA (va_recv hK hP (ci := 1) (q0 := 2) rfl rfl) rfl hl.1 rfl (Nat.le_of_ble_eq_true rfl) dX1_lay_123 ⟨Nat.le_of_ble_eq_true rfl, Nat.le_of_ble_eq_true rfl⟩ (fun H locs hP hD hS => ?_)
      refine lv_ldc2 (v := (-1 : Int64)) X.1 X.2.1 X.2.2.2.1 (X.2.2.2.2 _ (List.mem_cons_of_mem _ (List.mem_append_left _ (List.mem_append_left _ (List.mem_append_left _ (List.mem_of_getElem? (i := 7) rfl)))))) dX1_lay_126 ?_
      obtain ⟨g35, h⟩ := gd_e h
      obtain ⟨g36, h⟩ := gd_e h
      obtain ⟨σ37, e38, h⟩ := lt_e h
      refine tc_row X hK hP hD hS g35 g36 e38 dX1_lay_129 (fun H locs hP hD hS => ?_)
      refine lv_aload_n X.1 X.2.1 dX1_lay_130 rfl (lv_at hl 0 rfl) ?_
      refine gX1_cell X (fun w h => (List.mem_cons_of_mem _ (List.mem_append_right _ h))) hK hP (List.mem_cons_of_mem _ (List.mem_append_left _ (List.mem_append_left _ (List.mem_append_left _ (List.mem_of_getElem? (i := 6) rfl))))) dX1_lay_131 ?_
      refine lv_iload X.1 X.2.1 dX1_lay_134 (lv_at hl 5 rfl) ?_
      obtain ⟨g39, h⟩ := gd_e h
      refine lc_cell X hK hP g39 dX1_lay_136 ?_
      refine lv_aload_n X.1 X.2.1 dX1_lay_137 rfl (lv_at hl 0 rfl) ?_
      obtain ⟨r40, q41, h⟩ := bd_e h
      refine kc_v (As := []) (rest := [.ref (ρ (v5).toNatClampNeg)]) X (k_X1_columnOfQ σ37 _ q41) (cwV 0 X.2.2.2.2 gX1_lay_X1_columnOfQ rfl rfl rfl hd_X1_columnOfQ ⟨Nat.le_of_ble_eq_true rfl, Nat.le_of_ble_eq_true rfl⟩) hK hP hD hS hA (va_recv hK hP (ci := 1) (q0 := 2) rfl rfl) rfl hl.1 rfl (Nat.le_of_ble_eq_true rfl) dX1_lay_138 ⟨Nat.le_of_ble_eq_true rfl, Nat.le_of_ble_eq_true rfl⟩ (fun H locs hP hD hS => ?_)
      refine lv_iload X.1 X.2.1 dX1_lay_141 (lv_at hl 5 rfl) ?_
      refine lv_iload X.1 X.2.1 dX1_lay_143 (lv_at hl 4 rfl) ?_
      refine lv_icmp_ge (tgt := 154) X.1 X.2.1 dX1_lay_145 (by decide) (fun c42 => ?_) (fun c42 => ?_)
      · rw [if_pos c42] at h
        refine lv_iload_n X.1 X.2.1 dX1_lay_154 rfl (lv_at hl 2 rfl) ?_
        refine lv_i2l (v := v2.toInt64) X.1 X.2.1 dX1_lay_155 rfl ?_
        obtain ⟨g43, h⟩ := gd_e h
        obtain ⟨g44, h⟩ := gd_e h
        obtain ⟨σ45, e46, h⟩ := lt_e h
        refine tc_row X hK hP hD hS g43 g44 e46 dX1_lay_156 (fun H locs hP hD hS => ?_)
        obtain ⟨x47, e48, h⟩ := lt_e h
        refine lv_iinc (v := x47) (lv' := [(5, .int x47), (0, .ref (a 2)), (1, .ref (a 1)), (2, .int v2), (3, .int v3), (4, .int v4)]) X.1 X.2.1 dX1_lay_157 hl (k := 5) rfl e48.symm (by decide) rfl (fun ls hl => ?_)
        refine lv_goto (tgt := 32) X.1 X.2.1 dX1_lay_160 (by decide) ?_
        exact ih v2 v3 v4 x47 σ45 _ h _ _ _ hP hD hS (lv_sub hl [1, 2, 3, 4, 5, 0] rfl)
      · rw [if_neg c42] at h
        refine lv_iload_n X.1 X.2.1 dX1_lay_148 rfl (lv_at hl 3 rfl) ?_
        refine lv_ineg X.1 X.2.1 dX1_lay_149 ?_
        refine lv_i2l (v := (-v3).toInt64) X.1 X.2.1 dX1_lay_150 rfl ?_
        refine lv_goto (tgt := 156) X.1 X.2.1 dX1_lay_151 (by decide) ?_
        obtain ⟨g49, h⟩ := gd_e h
        obtain ⟨g50, h⟩ := gd_e h
        obtain ⟨σ51, e52, h⟩ := lt_e h
        refine tc_row X hK hP hD hS g49 g50 e52 dX1_lay_156 (fun H locs hP hD hS => ?_)
        obtain ⟨x53, e54, h⟩ := lt_e h
        refine lv_iinc (v := x53) (lv' := [(5, .int x53), (0, .ref (a 2)), (1, .ref (a 1)), (2, .int v2), (3, .int v3), (4, .int v4)]) X.1 X.2.1 dX1_lay_157 hl (k := 5) rfl e54.symm (by decide) rfl (fun ls hl => ?_)
        refine lv_goto (tgt := 32) X.1 X.2.1 dX1_lay_160 (by decide) ?_
        exact ih v2 v3 v4 x53 σ51 _ h _ _ _ hP hD hS (lv_sub hl [1, 2, 3, 4, 5, 0] rfl)
def f_X1_lay (N : Nat) (p1 : Int32) (p2 : Int32) (σ : CS) : Option CS := lt_ (c_sz σ) (fun x1 => lt_ (s_rw σ ((2 : Int32) * x1)) (fun σ3 => lt_ (s_st σ3 (0 : Int32)) (fun σ5 => lt_ (s_sa σ5 (0 : Int32)) (fun σ7 => lt_ (s_sc σ7 (1 : Int64)) (fun σ9 => f_X1_lay_L32 N N p1 p2 x1 (0 : Int32) σ9)))))
theorem hd_X1_lay : yX1_lay.cls = RX1 ∧ yX1_lay.cls ≠ "java/lang/invoke/MethodHandle" ∧ yX1_lay.cls ≠ "java/lang/invoke/VarHandle" ∧ (parseMethodDescriptor yX1_lay.desc).map (fun d => d.parameters.length) = some 3 := by decide +kernel
set_option maxHeartbeats 4000000 in
set_option maxRecDepth 100000 in
theorem k_X1_lay {l : Launch} {D : va_G} {k : Nat → ClassId} {a : Nat → Nat} {ρ : Nat → Nat} (N : Nat) (p1 : Int32) (p2 : Int32) (σ : CS) (R : CS) (h : f_X1_lay N p1 p2 σ = some R) : Ct l yX1_lay wsX1_lay ({ frames := 3, cells := 0, slots := 0, locals := 69 } : Room) D (cT k) (cW k a ρ σ) (cW k a ρ R) [.ref (a 2), .ref (a 1), .int p1, .int p2] none := by
  refine ct_of (cc := cX1_lay) (maxL := 7) (ret := none) (by decide) rfl (Nat.le_of_ble_eq_true rfl) ?_
  intro p e s m args below meth c A ls X hr hlk hK hA hP hD hS hl
  have X : CallFix p m c cX1_lay 7 s args wsX1_lay RX1 := X
  have hl : lv_has ls 7 [(0, .ref (a 2)), (1, .ref (a 1)), (2, .int p1), (3, .int p2)] := hl
  rw [f_X1_lay] at h
  refine lv_aload_n X.1 X.2.1 dX1_lay_0 rfl (lv_at hl 1 rfl) ?_
  refine gX0_size X (fun w h => (List.mem_cons_of_mem _ (List.mem_append_left _ (List.mem_append_right _ h)))) hK hP (List.mem_cons_of_mem _ (List.mem_append_left _ (List.mem_append_left _ (List.mem_append_left _ (List.mem_of_getElem? (i := 0) rfl))))) dX1_lay_1 ?_
  obtain ⟨x1, e2, h⟩ := lt_e h
  refine nm_i e2 ?_
  refine lv_istore (lv' := [(4, .int x1), (0, .ref (a 2)), (1, .ref (a 1)), (2, .int p1), (3, .int p2)]) X.1 X.2.1 dX1_lay_4 hl (by decide) rfl (fun ls hl => ?_)
  refine lv_aload_n X.1 X.2.1 dX1_lay_6 rfl (lv_at hl 1 rfl) ?_
  refine lv_iconst (v := (2 : Int32)) X.1 X.2.1 dX1_lay_7 (by decide) ?_
  refine lv_iload X.1 X.2.1 dX1_lay_8 (lv_at hl 0 rfl) ?_
  refine lv_imul X.1 X.2.1 dX1_lay_10 ?_
  obtain ⟨σ3, e4, h⟩ := lt_e h
  refine pX1_rows X (fun w h => (List.mem_cons_of_mem _ (List.mem_append_right _ h))) hK hP hD hS (List.mem_cons_of_mem _ (List.mem_append_left _ (List.mem_append_left _ (List.mem_append_left _ (List.mem_of_getElem? (i := 1) rfl))))) e4 dX1_lay_11 (fun H locs hP hD hS => ?_)
  refine lv_aload_n X.1 X.2.1 dX1_lay_14 rfl (lv_at hl 1 rfl) ?_
  refine lv_iconst (v := (0 : Int32)) X.1 X.2.1 dX1_lay_15 (by decide) ?_
  obtain ⟨σ5, e6, h⟩ := lt_e h
  refine pX1_steps X (fun w h => (List.mem_cons_of_mem _ (List.mem_append_right _ h))) hK hP hD hS (List.mem_cons_of_mem _ (List.mem_append_left _ (List.mem_append_left _ (List.mem_append_left _ (List.mem_of_getElem? (i := 2) rfl))))) e6 dX1_lay_16 (fun H locs hP hD hS => ?_)
  refine lv_aload_n X.1 X.2.1 dX1_lay_19 rfl (lv_at hl 1 rfl) ?_
  refine lv_iconst (v := (0 : Int32)) X.1 X.2.1 dX1_lay_20 (by decide) ?_
  obtain ⟨σ7, e8, h⟩ := lt_e h
  refine pX1_state X (fun w h => (List.mem_cons_of_mem _ (List.mem_append_right _ h))) hK hP hD hS (List.mem_cons_of_mem _ (List.mem_append_left _ (List.mem_append_left _ (List.mem_append_left _ (List.mem_of_getElem? (i := 3) rfl))))) e8 dX1_lay_21 (fun H locs hP hD hS => ?_)
  refine lv_aload_n X.1 X.2.1 dX1_lay_24 rfl (lv_at hl 1 rfl) ?_
  refine lv_lconst (v := (1 : Int64)) X.1 X.2.1 dX1_lay_25 (by decide) ?_
  obtain ⟨σ9, e10, h⟩ := lt_e h
  refine pX1_scale X (fun w h => (List.mem_cons_of_mem _ (List.mem_append_right _ h))) hK hP hD hS (List.mem_cons_of_mem _ (List.mem_append_left _ (List.mem_append_left _ (List.mem_append_left _ (List.mem_of_getElem? (i := 4) rfl))))) e10 dX1_lay_26 (fun H locs hP hD hS => ?_)
  refine lv_iconst (v := (0 : Int32)) X.1 X.2.1 dX1_lay_29 (by decide) ?_
  refine lv_istore (lv' := [(5, .int (0 : Int32)), (4, .int x1), (0, .ref (a 2)), (1, .ref (a 1)), (2, .int p1), (3, .int p2)]) X.1 X.2.1 dX1_lay_30 hl (by decide) rfl (fun ls hl => ?_)
  exact t_X1_lay_L32 X hr hlk hK hA N N p1 p2 x1 (0 : Int32) σ9 _ h _ _ _ hP hD hS (lv_sub hl [2, 3, 4, 5, 1, 0] rfl)
def f_X1_shareOfZ_L2 (N : Nat) : Nat → Int32 → Int32 → CS → Option Int64
  | 0, _, _, _ => none
  | n + 1, v1, v2, σ => if (c_rw σ) ≤ v2 then some (0 : Int64) else gd (inB v2 12) (if (c_tl σ v2.toNatClampNeg) = ((c_rw σ) + v1) then gd (inB v2 12) ((f_X1_columnOfQ σ).bind (fun r7 => gd (inB v2 12) (gd (inB r7 26) (some (c_gg σ v2.toNatClampNeg r7.toNatClampNeg))))) else lt_ (v2 + (1 : Int32)) (fun x4 => f_X1_shareOfZ_L2 N n v1 x4 σ))
set_option maxHeartbeats 4000000 in
set_option maxRecDepth 100000 in
theorem t_X1_shareOfZ_L2 {p : Program} {l : Launch} {e : Env} {s : State} {m : MethodId} {args : Array Value} {below : List Frame} {meth : Method} {c : Code} {D : va_G} {A : Nat → Prop} {k : Nat → ClassId} {a : Nat → Nat} {ρ : Nat → Nat} (X : CallFix p m c cX1_shareOfZ 3 s args wsX1_shareOfZ RX1) (hr : meth.sig.returnType = some .long) (hlk : meth.locks = false) (hK : va_K D vwCl (cT k) s) (hA : ∀ q : Nat, s.heap.size ≤ q → A q) (N : Nat) : ∀ (n : Nat) (v1 : Int32) (v2 : Int32) (σ : CS) (R : Int64), f_X1_shareOfZ_L2 N n v1 v2 σ = some R → ∀ (H : Heap) (locs : List Loc) (ls : Array Slot), va_P D vwCl (cW k a ρ σ) H → va_D A (cW k a ρ σ) → va_S A s.heap H locs → lv_has ls 3 [(0, .ref (a 2)), (1, .int v1), (2, .int v2)] → W p l e ({ frames := 1, cells := 0, slots := 0, locals := 20 } : Room) s m args below meth c H locs 0 0 (MQ below (cQ D (cT k) A (cW k a ρ σ) (some (.long R))) args s 0 0 A) (F0 m 2 ls []) := by
  intro n
  induction n with
  | zero =>
    intro v1 v2 σ R h
    exact absurd h (by simp [f_X1_shareOfZ_L2])
  | succ n ih =>
    intro v1 v2 σ R h H locs ls hP hD hS hl
    rw [f_X1_shareOfZ_L2] at h
    refine lv_iload_n X.1 X.2.1 dX1_shareOfZ_2 rfl (lv_at hl 2 rfl) ?_
    refine lv_aload_n X.1 X.2.1 dX1_shareOfZ_3 rfl (lv_at hl 0 rfl) ?_
    refine gX1_rows X (fun w h => (List.mem_cons_of_mem _ (List.mem_append_right _ h))) hK hP (List.mem_cons_of_mem _ (List.mem_append_left _ (List.mem_of_getElem? (i := 0) rfl))) dX1_shareOfZ_4 ?_
    refine lv_icmp_ge (tgt := 43) X.1 X.2.1 dX1_shareOfZ_7 (by decide) (fun c1 => ?_) (fun c1 => ?_)
    · rw [if_pos c1] at h
      refine lv_lconst (v := (0 : Int64)) X.1 X.2.1 dX1_shareOfZ_43 (by decide) ?_
      have h := sm_e h
      subst h
      exact rt_l X hr hlk hK hP hD hS dX1_shareOfZ_44
    · rw [if_neg c1] at h
      refine lv_aload_n X.1 X.2.1 dX1_shareOfZ_10 rfl (lv_at hl 0 rfl) ?_
      refine gX1_tells X (fun w h => (List.mem_cons_of_mem _ (List.mem_append_right _ h))) hK hP (List.mem_cons_of_mem _ (List.mem_append_left _ (List.mem_of_getElem? (i := 1) rfl))) dX1_shareOfZ_11 ?_
      refine lv_iload_n X.1 X.2.1 dX1_shareOfZ_14 rfl (lv_at hl 2 rfl) ?_
      obtain ⟨g2, h⟩ := gd_e h
      refine lc_tl X hK hP g2 dX1_shareOfZ_15 ?_
      refine lv_aload_n X.1 X.2.1 dX1_shareOfZ_16 rfl (lv_at hl 0 rfl) ?_
      refine gX1_rows X (fun w h => (List.mem_cons_of_mem _ (List.mem_append_right _ h))) hK hP (List.mem_cons_of_mem _ (List.mem_append_left _ (List.mem_of_getElem? (i := 0) rfl))) dX1_shareOfZ_17 ?_
      refine lv_iload_n X.1 X.2.1 dX1_shareOfZ_20 rfl (lv_at hl 1 rfl) ?_
      refine lv_iadd X.1 X.2.1 dX1_shareOfZ_21 ?_
      refine lv_icmp_ne (tgt := 37) X.1 X.2.1 dX1_shareOfZ_22 (by decide) (fun c3 => ?_) (fun c3 => ?_)
      · rw [if_neg c3] at h
        obtain ⟨x4, e5, h⟩ := lt_e h
        refine lv_iinc (v := x4) (lv' := [(2, .int x4), (0, .ref (a 2)), (1, .int v1)]) X.1 X.2.1 dX1_shareOfZ_37 hl (k := 2) rfl e5.symm (by decide) rfl (fun ls hl => ?_)
        refine lv_goto (tgt := 2) X.1 X.2.1 dX1_shareOfZ_40 (by decide) ?_
        exact ih v1 x4 σ _ h _ _ _ hP hD hS (lv_sub hl [1, 2, 0] rfl)
      · rw [if_pos c3] at h
        refine lv_aload_n X.1 X.2.1 dX1_shareOfZ_25 rfl (lv_at hl 0 rfl) ?_
        refine gX1_cell X (fun w h => (List.mem_cons_of_mem _ (List.mem_append_right _ h))) hK hP (List.mem_cons_of_mem _ (List.mem_append_left _ (List.mem_of_getElem? (i := 2) rfl))) dX1_shareOfZ_26 ?_
        refine lv_iload_n X.1 X.2.1 dX1_shareOfZ_29 rfl (lv_at hl 2 rfl) ?_
        obtain ⟨g6, h⟩ := gd_e h
        refine lc_cell X hK hP g6 dX1_shareOfZ_30 ?_
        refine lv_aload_n X.1 X.2.1 dX1_shareOfZ_31 rfl (lv_at hl 0 rfl) ?_
        obtain ⟨r7, q8, h⟩ := bd_e h
        refine kc_v (As := []) (rest := [.ref (ρ (v2).toNatClampNeg)]) X (k_X1_columnOfQ σ _ q8) (cwV 0 X.2.2.2.2 gX1_shareOfZ_X1_columnOfQ rfl rfl rfl hd_X1_columnOfQ ⟨Nat.le_of_ble_eq_true rfl, Nat.le_of_ble_eq_true rfl⟩) hK hP hD hS hA (va_recv hK hP (ci := 1) (q0 := 2) rfl rfl) rfl hl.1 rfl (Nat.le_of_ble_eq_true rfl) dX1_shareOfZ_32 ⟨Nat.le_of_ble_eq_true rfl, Nat.le_of_ble_eq_true rfl⟩ (fun H locs hP hD hS => ?_)
        obtain ⟨g9, h⟩ := gd_e h
        obtain ⟨g10, h⟩ := gd_e h
        refine lc_row X hK hP g9 g10 dX1_shareOfZ_35 ?_
        have h := sm_e h
        subst h
        exact rt_l X hr hlk hK hP hD hS dX1_shareOfZ_36
def f_X1_shareOfZ (N : Nat) (p0 : Int32) (σ : CS) : Option Int64 := f_X1_shareOfZ_L2 N N p0 (0 : Int32) σ
theorem hd_X1_shareOfZ : yX1_shareOfZ.cls = RX1 ∧ yX1_shareOfZ.cls ≠ "java/lang/invoke/MethodHandle" ∧ yX1_shareOfZ.cls ≠ "java/lang/invoke/VarHandle" ∧ (parseMethodDescriptor yX1_shareOfZ.desc).map (fun d => d.parameters.length) = some 1 := by decide +kernel
set_option maxHeartbeats 4000000 in
set_option maxRecDepth 100000 in
theorem k_X1_shareOfZ {l : Launch} {D : va_G} {k : Nat → ClassId} {a : Nat → Nat} {ρ : Nat → Nat} (N : Nat) (p0 : Int32) (σ : CS) (R : Int64) (h : f_X1_shareOfZ N p0 σ = some R) : Ct l yX1_shareOfZ wsX1_shareOfZ ({ frames := 1, cells := 0, slots := 0, locals := 20 } : Room) D (cT k) (cW k a ρ σ) (cW k a ρ σ) [.ref (a 2), .int p0] (some (.long R)) := by
  refine ct_of (cc := cX1_shareOfZ) (maxL := 3) (ret := (some .long)) (by decide) rfl (Nat.le_of_ble_eq_true rfl) ?_
  intro p e s m args below meth c A ls X hr hlk hK hA hP hD hS hl
  have X : CallFix p m c cX1_shareOfZ 3 s args wsX1_shareOfZ RX1 := X
  have hl : lv_has ls 3 [(0, .ref (a 2)), (1, .int p0)] := hl
  rw [f_X1_shareOfZ] at h
  refine lv_iconst (v := (0 : Int32)) X.1 X.2.1 dX1_shareOfZ_0 (by decide) ?_
  refine lv_istore_n (lv' := [(2, .int (0 : Int32)), (0, .ref (a 2)), (1, .int p0)]) X.1 X.2.1 dX1_shareOfZ_1 rfl hl (by decide) rfl (fun ls hl => ?_)
  exact t_X1_shareOfZ_L2 X hr hlk hK hA N N p0 (0 : Int32) σ _ h _ _ _ hP hD hS (lv_sub hl [1, 2, 0] rfl)

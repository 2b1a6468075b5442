def f_X3_point (p0 : Int32) (p1 : Int32) (p2 : Int32) (σ : CS) : Option (Int32 × CS) := (f_X0_isPlace p0 p1 ).bind (fun r1 => if r1 = 0 then some ((-2 : Int32), σ) else if p2 = (1 : Int32) then (f_X0_mostWith (c_pw σ) ).bind (fun r5 => if (c_sz σ) < r5 then (f_X0_add p0 p1 p2 σ).bind (fun r8 => (f_X1_forget r8).bind (fun r10 => some (((c_sz r10) - (1 : Int32)), r10))) else some ((-4 : Int32), σ)) else if p2 = (-1 : Int32) then (f_X0_mostWith (c_pw σ) ).bind (fun r13 => if (c_sz σ) < r13 then (f_X0_add p0 p1 p2 σ).bind (fun r16 => (f_X1_forget r16).bind (fun r18 => some (((c_sz r18) - (1 : Int32)), r18))) else some ((-4 : Int32), σ)) else some ((-2 : Int32), σ))
theorem hd_X3_point : yX3_point.cls = RX3 ∧ yX3_point.cls ≠ "java/lang/invoke/MethodHandle" ∧ yX3_point.cls ≠ "java/lang/invoke/VarHandle" ∧ (parseMethodDescriptor yX3_point.desc).map (fun d => d.parameters.length) = some 3 := by decide +kernel
set_option maxHeartbeats 4000000 in
set_option maxRecDepth 100000 in
theorem k_X3_point {l : Launch} {D : va_G} {k : Nat → ClassId} {a : Nat → Nat} {ρ : Nat → Nat} (p0 : Int32) (p1 : Int32) (p2 : Int32) (σ : CS) (R : (Int32 × CS)) (h : f_X3_point p0 p1 p2 σ = some R) : Ct l yX3_point wsX3_point ({ frames := 1, cells := 0, slots := 0, locals := 23 } : Room) D (cT k) (cW k a ρ σ) (cW k a ρ R.2) [.ref (a 0), .int p0, .int p1, .int p2] (some (.int R.1)) := by
  refine ct_of (cc := cX3_point) (maxL := 4) (ret := (some .int)) (by decide) rfl (Nat.le_of_ble_eq_true rfl) ?_
  intro p e s m args below meth c A ls X hr hlk hK hA hP hD hS hl
  have X : CallFix p m c cX3_point 4 s args wsX3_point RX3 := X
  have hl : lv_has ls 4 [(0, .ref (a 0)), (1, .int p0), (2, .int p1), (3, .int p2)] := hl
  rw [f_X3_point] at h
  refine lv_iload_n X.1 X.2.1 dX3_point_0 rfl (lv_at hl 1 rfl) ?_
  refine lv_iload_n X.1 X.2.1 dX3_point_1 rfl (lv_at hl 2 rfl) ?_
  obtain ⟨r1, q2, h⟩ := bd_e h
  refine kc_s (As := [.int p0, .int p1]) (rest := []) X (k_X0_isPlace p0 p1 _ q2) (va_cwS 2 X.2.2.2.2 gX3_point_X0_isPlace rfl rfl rfl hd_X0_isPlace ⟨Nat.le_of_ble_eq_true rfl, Nat.le_of_ble_eq_true rfl⟩) hK hP hS hA rfl hl.1 rfl (Nat.le_of_ble_eq_true rfl) dX3_point_2 ⟨Nat.le_of_ble_eq_true rfl, Nat.le_of_ble_eq_true rfl⟩ (fun H locs hP hS => ?_)
  refine lv_if_eq (tgt := 18) X.1 X.2.1 dX3_point_5 (by decide) (fun c3 => ?_) (fun c3 => ?_)
  · rw [if_pos c3] at h
    refine lv_bipush (v := (-2 : Int32)) X.1 X.2.1 dX3_point_18 (by decide) ?_
    have h := sm_e h
    subst h
    exact rt_i X hr hlk hK hP hD hS dX3_point_20
  · rw [if_neg c3] at h
    refine lv_iload_n X.1 X.2.1 dX3_point_8 rfl (lv_at hl 3 rfl) ?_
    refine lv_iconst (v := (1 : Int32)) X.1 X.2.1 dX3_point_9 (by decide) ?_
    refine lv_icmp_eq (tgt := 21) X.1 X.2.1 dX3_point_10 (by decide) (fun c4 => ?_) (fun c4 => ?_)
    · rw [if_pos c4] at h
      refine lv_aload_n X.1 X.2.1 dX3_point_21 rfl (lv_at hl 0 rfl) ?_
      refine gX3_points X (fun w h => (List.mem_cons_of_mem _ (List.mem_append_left _ (List.mem_append_left _ (List.mem_append_right _ h))))) hK hP (List.mem_cons_of_mem _ (List.mem_append_left _ (List.mem_append_left _ (List.mem_append_left _ (List.mem_append_left _ (List.mem_of_getElem? (i := 0) rfl)))))) dX3_point_22 ?_
      refine gX0_size X (fun w h => (List.mem_cons_of_mem _ (List.mem_append_left _ (List.mem_append_right _ h)))) hK hP (List.mem_cons_of_mem _ (List.mem_append_left _ (List.mem_append_left _ (List.mem_append_left _ (List.mem_append_left _ (List.mem_of_getElem? (i := 1) rfl)))))) dX3_point_25 ?_
      refine lv_aload_n X.1 X.2.1 dX3_point_28 rfl (lv_at hl 0 rfl) ?_
      refine gX3_points X (fun w h => (List.mem_cons_of_mem _ (List.mem_append_left _ (List.mem_append_left _ (List.mem_append_right _ h))))) hK hP (List.mem_cons_of_mem _ (List.mem_append_left _ (List.mem_append_left _ (List.mem_append_left _ (List.mem_append_left _ (List.mem_of_getElem? (i := 0) rfl)))))) dX3_point_29 ?_
      refine gX0_power X (fun w h => (List.mem_cons_of_mem _ (List.mem_append_left _ (List.mem_append_right _ h)))) hK hP (List.mem_cons_of_mem _ (List.mem_append_left _ (List.mem_append_left _ (List.mem_append_left _ (List.mem_append_left _ (List.mem_of_getElem? (i := 2) rfl)))))) dX3_point_32 ?_
      obtain ⟨r5, q6, h⟩ := bd_e h
      refine kc_s (As := [.int (c_pw σ)]) (rest := [.int (c_sz σ)]) X (k_X0_mostWith (c_pw σ) _ q6) (va_cwS 1 X.2.2.2.2 gX3_point_X0_mostWith rfl rfl rfl hd_X0_mostWith ⟨Nat.le_of_ble_eq_true rfl, Nat.le_of_ble_eq_true rfl⟩) hK hP hS hA rfl hl.1 rfl (Nat.le_of_ble_eq_true rfl) dX3_point_35 ⟨Nat.le_of_ble_eq_true rfl, Nat.le_of_ble_eq_true rfl⟩ (fun H locs hP hS => ?_)
      refine lv_icmp_lt (tgt := 44) X.1 X.2.1 dX3_point_38 (by decide) (fun c7 => ?_) (fun c7 => ?_)
      · rw [if_pos c7] at h
        refine lv_aload_n X.1 X.2.1 dX3_point_44 rfl (lv_at hl 0 rfl) ?_
        refine gX3_points X (fun w h => (List.mem_cons_of_mem _ (List.mem_append_left _ (List.mem_append_left _ (List.mem_append_right _ h))))) hK hP (List.mem_cons_of_mem _ (List.mem_append_left _ (List.mem_append_left _ (List.mem_append_left _ (List.mem_append_left _ (List.mem_of_getElem? (i := 0) rfl)))))) dX3_point_45 ?_
        refine lv_iload_n X.1 X.2.1 dX3_point_48 rfl (lv_at hl 1 rfl) ?_
        refine lv_iload_n X.1 X.2.1 dX3_point_49 rfl (lv_at hl 2 rfl) ?_
        refine lv_iload_n X.1 X.2.1 dX3_point_50 rfl (lv_at hl 3 rfl) ?_
        obtain ⟨r8, q9, h⟩ := bd_e h
        refine kc_v (As := [.int p0, .int p1, .int p2]) (rest := []) X (k_X0_add p0 p1 p2 σ _ q9) (cwV 3 X.2.2.2.2 gX3_point_X0_add rfl rfl rfl hd_X0_add ⟨Nat.le_of_ble_eq_true rfl, Nat.le_of_ble_eq_true rfl⟩) hK hP hD hS hA (va_recv hK hP (ci := 0) (q0 := 1) rfl rfl) rfl hl.1 rfl (Nat.le_of_ble_eq_true rfl) dX3_point_51 ⟨Nat.le_of_ble_eq_true rfl, Nat.le_of_ble_eq_true rfl⟩ (fun H locs hP hD hS => ?_)
        refine lv_aload_n X.1 X.2.1 dX3_point_54 rfl (lv_at hl 0 rfl) ?_
        refine gX3_table X (fun w h => (List.mem_cons_of_mem _ (List.mem_append_left _ (List.mem_append_left _ (List.mem_append_right _ h))))) hK hP (List.mem_cons_of_mem _ (List.mem_append_left _ (List.mem_append_left _ (List.mem_append_left _ (List.mem_append_left _ (List.mem_of_getElem? (i := 3) rfl)))))) dX3_point_55 ?_
        obtain ⟨r10, q11, h⟩ := bd_e h
        refine kc_v (As := []) (rest := []) X (k_X1_forget r8 _ q11) (cwV 0 X.2.2.2.2 gX3_point_X1_forget rfl rfl rfl hd_X1_forget ⟨Nat.le_of_ble_eq_true rfl, Nat.le_of_ble_eq_true rfl⟩) hK hP hD hS hA (va_recv hK hP (ci := 1) (q0 := 2) rfl rfl) rfl hl.1 rfl (Nat.le_of_ble_eq_true rfl) dX3_point_58 ⟨Nat.le_of_ble_eq_true rfl, Nat.le_of_ble_eq_true rfl⟩ (fun H locs hP hD hS => ?_)
        refine lv_aload_n X.1 X.2.1 dX3_point_61 rfl (lv_at hl 0 rfl) ?_
        refine gX3_points X (fun w h => (List.mem_cons_of_mem _ (List.mem_append_left _ (List.mem_append_left _ (List.mem_append_right _ h))))) hK hP (List.mem_cons_of_mem _ (List.mem_append_left _ (List.mem_append_left _ (List.mem_append_left _ (List.mem_append_left _ (List.mem_of_getElem? (i := 0) rfl)))))) dX3_point_62 ?_
        refine gX0_size X (fun w h => (List.mem_cons_of_mem _ (List.mem_append_left _ (List.mem_append_right _ h)))) hK hP (List.mem_cons_of_mem _ (List.mem_append_left _ (List.mem_append_left _ (List.mem_append_left _ (List.mem_append_left _ (List.mem_of_getElem? (i := 1) rfl)))))) dX3_point_65 ?_
        refine lv_iconst (v := (1 : Int32)) X.1 X.2.1 dX3_point_68 (by decide) ?_
        refine lv_isub X.1 X.2.1 dX3_point_69 ?_
        have h := sm_e h
        subst h
        exact rt_i X hr hlk hK hP hD hS dX3_point_70
      · rw [if_neg c7] at h
        refine lv_bipush (v := (-4 : Int32)) X.1 X.2.1 dX3_point_41 (by decide) ?_
        have h := sm_e h
        subst h
        exact rt_i X hr hlk hK hP hD hS dX3_point_43
    · rw [if_neg c4] at h
      refine lv_iload_n X.1 X.2.1 dX3_point_13 rfl (lv_at hl 3 rfl) ?_
      refine lv_iconst (v := (-1 : Int32)) X.1 X.2.1 dX3_point_14 (by decide) ?_
      refine lv_icmp_eq (tgt := 21) X.1 X.2.1 dX3_point_15 (by decide) (fun c12 => ?_) (fun c12 => ?_)
      · rw [if_pos c12] at h
        refine lv_aload_n X.1 X.2.1 dX3_point_21 rfl (lv_at hl 0 rfl) ?_
        refine gX3_points X (fun w h => (List.mem_cons_of_mem _ (List.mem_append_left _ (List.mem_append_left _ (List.mem_append_right _ h))))) hK hP (List.mem_cons_of_mem _ (List.mem_append_left _ (List.mem_append_left _ (List.mem_append_left _ (List.mem_append_left _ (List.mem_of_getElem? (i := 0) rfl)))))) dX3_point_22 ?_
        refine gX0_size X (fun w h => (List.mem_cons_of_mem _ (List.mem_append_left _ (List.mem_append_right _ h)))) hK hP (List.mem_cons_of_mem _ (List.mem_append_left _ (List.mem_append_left _ (List.mem_append_left _ (List.mem_append_left _ (List.mem_of_getElem? (i := 1) rfl)))))) dX3_point_25 ?_
        refine lv_aload_n X.1 X.2.1 dX3_point_28 rfl (lv_at hl 0 rfl) ?_
        refine gX3_points X (fun w h => (List.mem_cons_of_mem _ (List.mem_append_left _ (List.mem_append_left _ (List.mem_append_right _ h))))) hK hP (List.mem_cons_of_mem _ (List.mem_append_left _ (List.mem_append_left _ (List.mem_append_left _ (List.mem_append_left _ (List.mem_of_getElem? (i := 0) rfl)))))) dX3_point_29 ?_
        refine gX0_power X (fun w h => (List.mem_cons_of_mem _ (List.mem_append_left _ (List.mem_append_right _ h)))) hK hP (List.mem_cons_of_mem _ (List.mem_append_left _ (List.mem_append_left _ (List.mem_append_left _ (List.mem_append_left _ (List.mem_of_getElem? (i := 2) rfl)))))) dX3_point_32 ?_
        obtain ⟨r13, q14, h⟩ := bd_e h
        refine kc_s (As := [.int (c_pw σ)]) (rest := [.int (c_sz σ)]) X (k_X0_mostWith (c_pw σ) _ q14) (va_cwS 1 X.2.2.2.2 gX3_point_X0_mostWith rfl rfl rfl hd_X0_mostWith ⟨Nat.le_of_ble_eq_true rfl, Nat.le_of_ble_eq_true rfl⟩) hK hP hS hA rfl hl.1 rfl (Nat.le_of_ble_eq_true rfl) dX3_point_35 ⟨Nat.le_of_ble_eq_true rfl, Nat.le_of_ble_eq_true rfl⟩ (fun H locs hP hS => ?_)
        refine lv_icmp_lt (tgt := 44) X.1 X.2.1 dX3_point_38 (by decide) (fun c15 => ?_) (fun c15 => ?_)
        · rw [if_pos c15] at h
          refine lv_aload_n X.1 X.2.1 dX3_point_44 rfl (lv_at hl 0 rfl) ?_
          refine gX3_points X (fun w h => (List.mem_cons_of_mem _ (List.mem_append_left _ (List.mem_append_left _ (List.mem_append_right _ h))))) hK hP (List.mem_cons_of_mem _ (List.mem_append_left _ (List.mem_append_left _ (List.mem_append_left _ (List.mem_append_left _ (List.mem_of_getElem? (i := 0) rfl)))))) dX3_point_45 ?_
          refine lv_iload_n X.1 X.2.1 dX3_point_48 rfl (lv_at hl 1 rfl) ?_
          refine lv_iload_n X.1 X.2.1 dX3_point_49 rfl (lv_at hl 2 rfl) ?_
          refine lv_iload_n X.1 X.2.1 dX3_point_50 rfl (lv_at hl 3 rfl) ?_
          obtain ⟨r16, q17, h⟩ := bd_e h
          refine kc_v (As := [.int p0, .int p1, .int p2]) (rest := []) X (k_X0_add p0 p1 p2 σ _ q17) (cwV 3 X.2.2.2.2 gX3_point_X0_add rfl rfl rfl hd_X0_add ⟨Nat.le_of_ble_eq_true rfl, Nat.le_of_ble_eq_true rfl⟩) hK hP hD hS hA (va_recv hK hP (ci := 0) (q0 := 1) rfl rfl) rfl hl.1 rfl (Nat.le_of_ble_eq_true rfl) dX3_point_51 ⟨Nat.le_of_ble_eq_true rfl, Nat.le_of_ble_eq_true rfl⟩ (fun H locs hP hD hS => ?_)
          refine lv_aload_n X.1 X.2.1 dX3_point_54 rfl (lv_at hl 0 rfl) ?_
          refine gX3_table X (fun w h => (List.mem_cons_of_mem _ (List.mem_append_left _ (List.mem_append_left _ (List.mem_append_right _ h))))) hK hP (List.mem_cons_of_mem _ (List.mem_append_left _ (List.mem_append_left _ (List.mem_append_left _ (List.mem_append_left _ (List.mem_of_getElem? (i := 3) rfl)))))) dX3_point_55 ?_
          obtain ⟨r18, q19, h⟩ := bd_e h
          refine kc_v (As := []) (rest := []) X (k_X1_forget r16 _ q19) (cwV 0 X.2.2.2.2 gX3_point_X1_forget rfl rfl rfl hd_X1_forget ⟨Nat.le_of_ble_eq_true rfl, Nat.le_of_ble_eq_true rfl⟩) hK hP hD hS hA (va_recv hK hP (ci := 1) (q0 := 2) rfl rfl) rfl hl.1 rfl (Nat.le_of_ble_eq_true rfl) dX3_point_58 ⟨Nat.le_of_ble_eq_true rfl, Nat.le_of_ble_eq_true rfl⟩ (fun H locs hP hD hS => ?_)
          refine lv_aload_n X.1 X.2.1 dX3_point_61 rfl (lv_at hl 0 rfl) ?_
          refine gX3_points X (fun w h => (List.mem_cons_of_mem _ (List.mem_append_left _ (List.mem_append_left _ (List.mem_append_right _ h))))) hK hP (List.mem_cons_of_mem _ (List.mem_append_left _ (List.mem_append_left _ (List.mem_append_left _ (List.mem_append_left _ (List.mem_of_getElem? (i := 0) rfl)))))) dX3_point_62 ?_
          refine gX0_size X (fun w h => (List.mem_cons_of_mem _ (List.mem_append_left _ (List.mem_append_right _ h)))) hK hP (List.mem_cons_of_mem _ (List.mem_append_left _ (List.mem_append_left _ (List.mem_append_left _ (List.mem_append_left _ (List.mem_of_getElem? (i := 1) rfl)))))) dX3_point_65 ?_
          refine lv_iconst (v := (1 : Int32)) X.1 X.2.1 dX3_point_68 (by decide) ?_
          refine lv_isub X.1 X.2.1 dX3_point_69 ?_
          have h := sm_e h
          subst h
          exact rt_i X hr hlk hK hP hD hS dX3_point_70
        · rw [if_neg c15] at h
          refine lv_bipush (v := (-4 : Int32)) X.1 X.2.1 dX3_point_41 (by decide) ?_
          have h := sm_e h
          subst h
          exact rt_i X hr hlk hK hP hD hS dX3_point_43
      · rw [if_neg c12] at h
        refine lv_bipush (v := (-2 : Int32)) X.1 X.2.1 dX3_point_18 (by decide) ?_
        have h := sm_e h
        subst h
        exact rt_i X hr hlk hK hP hD hS dX3_point_20
def f_X3_drop (σ : CS) : Option (Int32 × CS) := if (c_sz σ) = 0 then some ((-3 : Int32), σ) else lt_ (s_sz σ ((c_sz σ) - (1 : Int32))) (fun σ2 => (f_X1_forget σ2).bind (fun r4 => some ((c_sz r4), r4)))
theorem hd_X3_drop : yX3_drop.cls = RX3 ∧ yX3_drop.cls ≠ "java/lang/invoke/MethodHandle" ∧ yX3_drop.cls ≠ "java/lang/invoke/VarHandle" ∧ (parseMethodDescriptor yX3_drop.desc).map (fun d => d.parameters.length) = some 0 := by decide +kernel
set_option maxHeartbeats 4000000 in
set_option maxRecDepth 100000 in
theorem k_X3_drop {l : Launch} {D : va_G} {k : Nat → ClassId} {a : Nat → Nat} {ρ : Nat → Nat}  (σ : CS) (R : (Int32 × CS)) (h : f_X3_drop σ = some R) : Ct l yX3_drop wsX3_drop ({ frames := 1, cells := 0, slots := 0, locals := 20 } : Room) D (cT k) (cW k a ρ σ) (cW k a ρ R.2) [.ref (a 0)] (some (.int R.1)) := by
  refine ct_of (cc := cX3_drop) (maxL := 1) (ret := (some .int)) (by decide) rfl (Nat.le_of_ble_eq_true rfl) ?_
  intro p e s m args below meth c A ls X hr hlk hK hA hP hD hS hl
  have X : CallFix p m c cX3_drop 1 s args wsX3_drop RX3 := X
  have hl : lv_has ls 1 [(0, .ref (a 0))] := hl
  rw [f_X3_drop] at h
  refine lv_aload_n X.1 X.2.1 dX3_drop_0 rfl (lv_at hl 0 rfl) ?_
  refine gX3_points X (fun w h => (List.mem_cons_of_mem _ (List.mem_append_left _ (List.mem_append_left _ (List.mem_append_right _ h))))) hK hP (List.mem_cons_of_mem _ (List.mem_append_left _ (List.mem_append_left _ (List.mem_append_left _ (List.mem_of_getElem? (i := 0) rfl))))) dX3_drop_1 ?_
  refine gX0_size X (fun w h => (List.mem_cons_of_mem _ (List.mem_append_left _ (List.mem_append_right _ h)))) hK hP (List.mem_cons_of_mem _ (List.mem_append_left _ (List.mem_append_left _ (List.mem_append_left _ (List.mem_of_getElem? (i := 1) rfl))))) dX3_drop_4 ?_
  refine lv_if_ne (tgt := 13) X.1 X.2.1 dX3_drop_7 (by decide) (fun c1 => ?_) (fun c1 => ?_)
  · rw [if_neg c1] at h
    refine lv_aload_n X.1 X.2.1 dX3_drop_13 rfl (lv_at hl 0 rfl) ?_
    refine gX3_points X (fun w h => (List.mem_cons_of_mem _ (List.mem_append_left _ (List.mem_append_left _ (List.mem_append_right _ h))))) hK hP (List.mem_cons_of_mem _ (List.mem_append_left _ (List.mem_append_left _ (List.mem_append_left _ (List.mem_of_getElem? (i := 0) rfl))))) dX3_drop_14 ?_
    refine lv_dup X.1 X.2.1 dX3_drop_17 rfl ?_
    refine gX0_size X (fun w h => (List.mem_cons_of_mem _ (List.mem_append_left _ (List.mem_append_right _ h)))) hK hP (List.mem_cons_of_mem _ (List.mem_append_left _ (List.mem_append_left _ (List.mem_append_left _ (List.mem_of_getElem? (i := 1) rfl))))) dX3_drop_18 ?_
    refine lv_iconst (v := (1 : Int32)) X.1 X.2.1 dX3_drop_21 (by decide) ?_
    refine lv_isub X.1 X.2.1 dX3_drop_22 ?_
    obtain ⟨σ2, e3, h⟩ := lt_e h
    refine pX0_size X (fun w h => (List.mem_cons_of_mem _ (List.mem_append_left _ (List.mem_append_right _ h)))) hK hP hD hS (List.mem_cons_of_mem _ (List.mem_append_left _ (List.mem_append_left _ (List.mem_append_left _ (List.mem_of_getElem? (i := 1) rfl))))) e3 dX3_drop_23 (fun H locs hP hD hS => ?_)
    refine lv_aload_n X.1 X.2.1 dX3_drop_26 rfl (lv_at hl 0 rfl) ?_
    refine gX3_table X (fun w h => (List.mem_cons_of_mem _ (List.mem_append_left _ (List.mem_append_left _ (List.mem_append_right _ h))))) hK hP (List.mem_cons_of_mem _ (List.mem_append_left _ (List.mem_append_left _ (List.mem_append_left _ (List.mem_of_getElem? (i := 2) rfl))))) dX3_drop_27 ?_
    obtain ⟨r4, q5, h⟩ := bd_e h
    refine kc_v (As := []) (rest := []) X (k_X1_forget σ2 _ q5) (cwV 0 X.2.2.2.2 gX3_drop_X1_forget rfl rfl rfl hd_X1_forget ⟨Nat.le_of_ble_eq_true rfl, Nat.le_of_ble_eq_true rfl⟩) hK hP hD hS hA (va_recv hK hP (ci := 1) (q0 := 2) rfl rfl) rfl hl.1 rfl (Nat.le_of_ble_eq_true rfl) dX3_drop_30 ⟨Nat.le_of_ble_eq_true rfl, Nat.le_of_ble_eq_true rfl⟩ (fun H locs hP hD hS => ?_)
    refine lv_aload_n X.1 X.2.1 dX3_drop_33 rfl (lv_at hl 0 rfl) ?_
    refine gX3_points X (fun w h => (List.mem_cons_of_mem _ (List.mem_append_left _ (List.mem_append_left _ (List.mem_append_right _ h))))) hK hP (List.mem_cons_of_mem _ (List.mem_append_left _ (List.mem_append_left _ (List.mem_append_left _ (List.mem_of_getElem? (i := 0) rfl))))) dX3_drop_34 ?_
    refine gX0_size X (fun w h => (List.mem_cons_of_mem _ (List.mem_append_left _ (List.mem_append_right _ h)))) hK hP (List.mem_cons_of_mem _ (List.mem_append_left _ (List.mem_append_left _ (List.mem_append_left _ (List.mem_of_getElem? (i := 1) rfl))))) dX3_drop_37 ?_
    have h := sm_e h
    subst h
    exact rt_i X hr hlk hK hP hD hS dX3_drop_40
  · rw [if_pos c1] at h
    refine lv_bipush (v := (-3 : Int32)) X.1 X.2.1 dX3_drop_10 (by decide) ?_
    have h := sm_e h
    subst h
    exact rt_i X hr hlk hK hP hD hS dX3_drop_12
def f_X3_degree (p0 : Int32) (σ : CS) : Option (Int32 × CS) := if p0 = (1 : Int32) then (f_X0_mostWith p0 ).bind (fun r2 => if (c_sz σ) ≤ r2 then lt_ (c_pw σ) (fun x5 => lt_ (s_pw σ p0) (fun σ7 => (f_X1_forget σ7).bind (fun r9 => some (x5, r9)))) else some ((-3 : Int32), σ)) else if p0 = (2 : Int32) then (f_X0_mostWith p0 ).bind (fun r12 => if (c_sz σ) ≤ r12 then lt_ (c_pw σ) (fun x15 => lt_ (s_pw σ p0) (fun σ17 => (f_X1_forget σ17).bind (fun r19 => some (x15, r19)))) else some ((-3 : Int32), σ)) else some ((-2 : Int32), σ)
theorem hd_X3_degree : yX3_degree.cls = RX3 ∧ yX3_degree.cls ≠ "java/lang/invoke/MethodHandle" ∧ yX3_degree.cls ≠ "java/lang/invoke/VarHandle" ∧ (parseMethodDescriptor yX3_degree.desc).map (fun d => d.parameters.length) = some 1 := by decide +kernel
set_option maxHeartbeats 4000000 in
set_option maxRecDepth 100000 in
theorem k_X3_degree {l : Launch} {D : va_G} {k : Nat → ClassId} {a : Nat → Nat} {ρ : Nat → Nat} (p0 : Int32) (σ : CS) (R : (Int32 × CS)) (h : f_X3_degree p0 σ = some R) : Ct l yX3_degree wsX3_degree ({ frames := 1, cells := 0, slots := 0, locals := 20 } : Room) D (cT k) (cW k a ρ σ) (cW k a ρ R.2) [.ref (a 0), .int p0] (some (.int R.1)) := by
  refine ct_of (cc := cX3_degree) (maxL := 3) (ret := (some .int)) (by decide) rfl (Nat.le_of_ble_eq_true rfl) ?_
  intro p e s m args below meth c A ls X hr hlk hK hA hP hD hS hl
  have X : CallFix p m c cX3_degree 3 s args wsX3_degree RX3 := X
  have hl : lv_has ls 3 [(0, .ref (a 0)), (1, .int p0)] := hl
  rw [f_X3_degree] at h
  refine lv_iload_n X.1 X.2.1 dX3_degree_0 rfl (lv_at hl 1 rfl) ?_
  refine lv_iconst (v := (1 : Int32)) X.1 X.2.1 dX3_degree_1 (by decide) ?_
  refine lv_icmp_eq (tgt := 13) X.1 X.2.1 dX3_degree_2 (by decide) (fun c1 => ?_) (fun c1 => ?_)
  · rw [if_pos c1] at h
    refine lv_aload_n X.1 X.2.1 dX3_degree_13 rfl (lv_at hl 0 rfl) ?_
    refine gX3_points X (fun w h => (List.mem_cons_of_mem _ (List.mem_append_left _ (List.mem_append_left _ (List.mem_append_right _ h))))) hK hP (List.mem_cons_of_mem _ (List.mem_append_left _ (List.mem_append_left _ (List.mem_append_left _ (List.mem_of_getElem? (i := 0) rfl))))) dX3_degree_14 ?_
    refine gX0_size X (fun w h => (List.mem_cons_of_mem _ (List.mem_append_left _ (List.mem_append_right _ h)))) hK hP (List.mem_cons_of_mem _ (List.mem_append_left _ (List.mem_append_left _ (List.mem_append_left _ (List.mem_of_getElem? (i := 1) rfl))))) dX3_degree_17 ?_
    refine lv_iload_n X.1 X.2.1 dX3_degree_20 rfl (lv_at hl 1 rfl) ?_
    obtain ⟨r2, q3, h⟩ := bd_e h
    refine kc_s (As := [.int p0]) (rest := [.int (c_sz σ)]) X (k_X0_mostWith p0 _ q3) (va_cwS 1 X.2.2.2.2 gX3_degree_X0_mostWith rfl rfl rfl hd_X0_mostWith ⟨Nat.le_of_ble_eq_true rfl, Nat.le_of_ble_eq_true rfl⟩) hK hP hS hA rfl hl.1 rfl (Nat.le_of_ble_eq_true rfl) dX3_degree_21 ⟨Nat.le_of_ble_eq_true rfl, Nat.le_of_ble_eq_true rfl⟩ (fun H locs hP hS => ?_)
    refine lv_icmp_le (tgt := 30) X.1 X.2.1 dX3_degree_24 (by decide) (fun c4 => ?_) (fun c4 => ?_)
    · rw [if_pos c4] at h
      refine lv_aload_n X.1 X.2.1 dX3_degree_30 rfl (lv_at hl 0 rfl) ?_
      refine gX3_points X (fun w h => (List.mem_cons_of_mem _ (List.mem_append_left _ (List.mem_append_left _ (List.mem_append_right _ h))))) hK hP (List.mem_cons_of_mem _ (List.mem_append_left _ (List.mem_append_left _ (List.mem_append_left _ (List.mem_of_getElem? (i := 0) rfl))))) dX3_degree_31 ?_
      refine gX0_power X (fun w h => (List.mem_cons_of_mem _ (List.mem_append_left _ (List.mem_append_right _ h)))) hK hP (List.mem_cons_of_mem _ (List.mem_append_left _ (List.mem_append_left _ (List.mem_append_left _ (List.mem_of_getElem? (i := 2) rfl))))) dX3_degree_34 ?_
      obtain ⟨x5, e6, h⟩ := lt_e h
      refine nm_i e6 ?_
      refine lv_istore_n (lv' := [(2, .int x5), (0, .ref (a 0)), (1, .int p0)]) X.1 X.2.1 dX3_degree_37 rfl hl (by decide) rfl (fun ls hl => ?_)
      refine lv_aload_n X.1 X.2.1 dX3_degree_38 rfl (lv_at hl 1 rfl) ?_
      refine gX3_points X (fun w h => (List.mem_cons_of_mem _ (List.mem_append_left _ (List.mem_append_left _ (List.mem_append_right _ h))))) hK hP (List.mem_cons_of_mem _ (List.mem_append_left _ (List.mem_append_left _ (List.mem_append_left _ (List.mem_of_getElem? (i := 0) rfl))))) dX3_degree_39 ?_
      refine lv_iload_n X.1 X.2.1 dX3_degree_42 rfl (lv_at hl 2 rfl) ?_
      obtain ⟨σ7, e8, h⟩ := lt_e h
      refine pX0_power X (fun w h => (List.mem_cons_of_mem _ (List.mem_append_left _ (List.mem_append_right _ h)))) hK hP hD hS (List.mem_cons_of_mem _ (List.mem_append_left _ (List.mem_append_left _ (List.mem_append_left _ (List.mem_of_getElem? (i := 2) rfl))))) e8 dX3_degree_43 (fun H locs hP hD hS => ?_)
      refine lv_aload_n X.1 X.2.1 dX3_degree_46 rfl (lv_at hl 1 rfl) ?_
      refine gX3_table X (fun w h => (List.mem_cons_of_mem _ (List.mem_append_left _ (List.mem_append_left _ (List.mem_append_right _ h))))) hK hP (List.mem_cons_of_mem _ (List.mem_append_left _ (List.mem_append_left _ (List.mem_append_left _ (List.mem_of_getElem? (i := 3) rfl))))) dX3_degree_47 ?_
      obtain ⟨r9, q10, h⟩ := bd_e h
      refine kc_v (As := []) (rest := []) X (k_X1_forget σ7 _ q10) (cwV 0 X.2.2.2.2 gX3_degree_X1_forget rfl rfl rfl hd_X1_forget ⟨Nat.le_of_ble_eq_true rfl, Nat.le_of_ble_eq_true rfl⟩) hK hP hD hS hA (va_recv hK hP (ci := 1) (q0 := 2) rfl rfl) rfl hl.1 rfl (Nat.le_of_ble_eq_true rfl) dX3_degree_50 ⟨Nat.le_of_ble_eq_true rfl, Nat.le_of_ble_eq_true rfl⟩ (fun H locs hP hD hS => ?_)
      refine lv_iload_n X.1 X.2.1 dX3_degree_53 rfl (lv_at hl 0 rfl) ?_
      have h := sm_e h
      subst h
      exact rt_i X hr hlk hK hP hD hS dX3_degree_54
    · rw [if_neg c4] at h
      refine lv_bipush (v := (-3 : Int32)) X.1 X.2.1 dX3_degree_27 (by decide) ?_
      have h := sm_e h
      subst h
      exact rt_i X hr hlk hK hP hD hS dX3_degree_29
  · rw [if_neg c1] at h
    refine lv_iload_n X.1 X.2.1 dX3_degree_5 rfl (lv_at hl 1 rfl) ?_
    refine lv_iconst (v := (2 : Int32)) X.1 X.2.1 dX3_degree_6 (by decide) ?_
    refine lv_icmp_eq (tgt := 13) X.1 X.2.1 dX3_degree_7 (by decide) (fun c11 => ?_) (fun c11 => ?_)
    · rw [if_pos c11] at h
      refine lv_aload_n X.1 X.2.1 dX3_degree_13 rfl (lv_at hl 0 rfl) ?_
      refine gX3_points X (fun w h => (List.mem_cons_of_mem _ (List.mem_append_left _ (List.mem_append_left _ (List.mem_append_right _ h))))) hK hP (List.mem_cons_of_mem _ (List.mem_append_left _ (List.mem_append_left _ (List.mem_append_left _ (List.mem_of_getElem? (i := 0) rfl))))) dX3_degree_14 ?_
      refine gX0_size X (fun w h => (List.mem_cons_of_mem _ (List.mem_append_left _ (List.mem_append_right _ h)))) hK hP (List.mem_cons_of_mem _ (List.mem_append_left _ (List.mem_append_left _ (List.mem_append_left _ (List.mem_of_getElem? (i := 1) rfl))))) dX3_degree_17 ?_
      refine lv_iload_n X.1 X.2.1 dX3_degree_20 rfl (lv_at hl 1 rfl) ?_
      obtain ⟨r12, q13, h⟩ := bd_e h
      refine kc_s (As := [.int p0]) (rest := [.int (c_sz σ)]) X (k_X0_mostWith p0 _ q13) (va_cwS 1 X.2.2.2.2 gX3_degree_X0_mostWith rfl rfl rfl hd_X0_mostWith ⟨Nat.le_of_ble_eq_true rfl, Nat.le_of_ble_eq_true rfl⟩) hK hP hS hA rfl hl.1 rfl (Nat.le_of_ble_eq_true rfl) dX3_degree_21 ⟨Nat.le_of_ble_eq_true rfl, Nat.le_of_ble_eq_true rfl⟩ (fun H locs hP hS => ?_)
      refine lv_icmp_le (tgt := 30) X.1 X.2.1 dX3_degree_24 (by decide) (fun c14 => ?_) (fun c14 => ?_)
      · rw [if_pos c14] at h
        refine lv_aload_n X.1 X.2.1 dX3_degree_30 rfl (lv_at hl 0 rfl) ?_
        refine gX3_points X (fun w h => (List.mem_cons_of_mem _ (List.mem_append_left _ (List.mem_append_left _ (List.mem_append_right _ h))))) hK hP (List.mem_cons_of_mem _ (List.mem_append_left _ (List.mem_append_left _ (List.mem_append_left _ (List.mem_of_getElem? (i := 0) rfl))))) dX3_degree_31 ?_
        refine gX0_power X (fun w h => (List.mem_cons_of_mem _ (List.mem_append_left _ (List.mem_append_right _ h)))) hK hP (List.mem_cons_of_mem _ (List.mem_append_left _ (List.mem_append_left _ (List.mem_append_left _ (List.mem_of_getElem? (i := 2) rfl))))) dX3_degree_34 ?_
        obtain ⟨x15, e16, h⟩ := lt_e h
        refine nm_i e16 ?_
        refine lv_istore_n (lv' := [(2, .int x15), (0, .ref (a 0)), (1, .int p0)]) X.1 X.2.1 dX3_degree_37 rfl hl (by decide) rfl (fun ls hl => ?_)
        refine lv_aload_n X.1 X.2.1 dX3_degree_38 rfl (lv_at hl 1 rfl) ?_
        refine gX3_points X (fun w h => (List.mem_cons_of_mem _ (List.mem_append_left _ (List.mem_append_left _ (List.mem_append_right _ h))))) hK hP (List.mem_cons_of_mem _ (List.mem_append_left _ (List.mem_append_left _ (List.mem_append_left _ (List.mem_of_getElem? (i := 0) rfl))))) dX3_degree_39 ?_
        refine lv_iload_n X.1 X.2.1 dX3_degree_42 rfl (lv_at hl 2 rfl) ?_
        obtain ⟨σ17, e18, h⟩ := lt_e h
        refine pX0_power X (fun w h => (List.mem_cons_of_mem _ (List.mem_append_left _ (List.mem_append_right _ h)))) hK hP hD hS (List.mem_cons_of_mem _ (List.mem_append_left _ (List.mem_append_left _ (List.mem_append_left _ (List.mem_of_getElem? (i := 2) rfl))))) e18 dX3_degree_43 (fun H locs hP hD hS => ?_)
        refine lv_aload_n X.1 X.2.1 dX3_degree_46 rfl (lv_at hl 1 rfl) ?_
        refine gX3_table X (fun w h => (List.mem_cons_of_mem _ (List.mem_append_left _ (List.mem_append_left _ (List.mem_append_right _ h))))) hK hP (List.mem_cons_of_mem _ (List.mem_append_left _ (List.mem_append_left _ (List.mem_append_left _ (List.mem_of_getElem? (i := 3) rfl))))) dX3_degree_47 ?_
        obtain ⟨r19, q20, h⟩ := bd_e h
        refine kc_v (As := []) (rest := []) X (k_X1_forget σ17 _ q20) (cwV 0 X.2.2.2.2 gX3_degree_X1_forget rfl rfl rfl hd_X1_forget ⟨Nat.le_of_ble_eq_true rfl, Nat.le_of_ble_eq_true rfl⟩) hK hP hD hS hA (va_recv hK hP (ci := 1) (q0 := 2) rfl rfl) rfl hl.1 rfl (Nat.le_of_ble_eq_true rfl) dX3_degree_50 ⟨Nat.le_of_ble_eq_true rfl, Nat.le_of_ble_eq_true rfl⟩ (fun H locs hP hD hS => ?_)
        refine lv_iload_n X.1 X.2.1 dX3_degree_53 rfl (lv_at hl 0 rfl) ?_
        have h := sm_e h
        subst h
        exact rt_i X hr hlk hK hP hD hS dX3_degree_54
      · rw [if_neg c14] at h
        refine lv_bipush (v := (-3 : Int32)) X.1 X.2.1 dX3_degree_27 (by decide) ?_
        have h := sm_e h
        subst h
        exact rt_i X hr hlk hK hP hD hS dX3_degree_29
    · rw [if_neg c11] at h
      refine lv_bipush (v := (-2 : Int32)) X.1 X.2.1 dX3_degree_10 (by decide) ?_
      have h := sm_e h
      subst h
      exact rt_i X hr hlk hK hP hD hS dX3_degree_12
def f_X3_box (p0 : Int32) (p1 : Int32) (σ : CS) : Option (Int32 × CS) := if p0 < (1 : Int32) then some ((-2 : Int32), σ) else if (20 : Int32) < p0 then some ((-2 : Int32), σ) else if p1 < (1 : Int32) then some ((-2 : Int32), σ) else if p1 ≤ (6 : Int32) then lt_ (s_bA σ p0) (fun σ5 => lt_ (s_bB σ5 p1) (fun σ7 => (f_X1_forget σ7).bind (fun r9 => some ((1 : Int32), r9)))) else some ((-2 : Int32), σ)
theorem hd_X3_box : yX3_box.cls = RX3 ∧ yX3_box.cls ≠ "java/lang/invoke/MethodHandle" ∧ yX3_box.cls ≠ "java/lang/invoke/VarHandle" ∧ (parseMethodDescriptor yX3_box.desc).map (fun d => d.parameters.length) = some 2 := by decide +kernel
set_option maxHeartbeats 4000000 in
set_option maxRecDepth 100000 in
theorem k_X3_box {l : Launch} {D : va_G} {k : Nat → ClassId} {a : Nat → Nat} {ρ : Nat → Nat} (p0 : Int32) (p1 : Int32) (σ : CS) (R : (Int32 × CS)) (h : f_X3_box p0 p1 σ = some R) : Ct l yX3_box wsX3_box ({ frames := 1, cells := 0, slots := 0, locals := 20 } : Room) D (cT k) (cW k a ρ σ) (cW k a ρ R.2) [.ref (a 0), .int p0, .int p1] (some (.int R.1)) := by
  refine ct_of (cc := cX3_box) (maxL := 3) (ret := (some .int)) (by decide) rfl (Nat.le_of_ble_eq_true rfl) ?_
  intro p e s m args below meth c A ls X hr hlk hK hA hP hD hS hl
  have X : CallFix p m c cX3_box 3 s args wsX3_box RX3 := X
  have hl : lv_has ls 3 [(0, .ref (a 0)), (1, .int p0), (2, .int p1)] := hl
  rw [f_X3_box] at h
  refine lv_iload_n X.1 X.2.1 dX3_box_0 rfl (lv_at hl 1 rfl) ?_
  refine lv_iconst (v := (1 : Int32)) X.1 X.2.1 dX3_box_1 (by decide) ?_
  refine lv_icmp_lt (tgt := 22) X.1 X.2.1 dX3_box_2 (by decide) (fun c1 => ?_) (fun c1 => ?_)
  · rw [if_pos c1] at h
    refine lv_bipush (v := (-2 : Int32)) X.1 X.2.1 dX3_box_22 (by decide) ?_
    have h := sm_e h
    subst h
    exact rt_i X hr hlk hK hP hD hS dX3_box_24
  · rw [if_neg c1] at h
    refine lv_iload_n X.1 X.2.1 dX3_box_5 rfl (lv_at hl 1 rfl) ?_
    refine lv_bipush (v := (20 : Int32)) X.1 X.2.1 dX3_box_6 (by decide) ?_
    refine lv_icmp_gt (tgt := 22) X.1 X.2.1 dX3_box_8 (by decide) (fun c2 => ?_) (fun c2 => ?_)
    · rw [if_pos c2] at h
      refine lv_bipush (v := (-2 : Int32)) X.1 X.2.1 dX3_box_22 (by decide) ?_
      have h := sm_e h
      subst h
      exact rt_i X hr hlk hK hP hD hS dX3_box_24
    · rw [if_neg c2] at h
      refine lv_iload_n X.1 X.2.1 dX3_box_11 rfl (lv_at hl 2 rfl) ?_
      refine lv_iconst (v := (1 : Int32)) X.1 X.2.1 dX3_box_12 (by decide) ?_
      refine lv_icmp_lt (tgt := 22) X.1 X.2.1 dX3_box_13 (by decide) (fun c3 => ?_) (fun c3 => ?_)
      · rw [if_pos c3] at h
        refine lv_bipush (v := (-2 : Int32)) X.1 X.2.1 dX3_box_22 (by decide) ?_
        have h := sm_e h
        subst h
        exact rt_i X hr hlk hK hP hD hS dX3_box_24
      · rw [if_neg c3] at h
        refine lv_iload_n X.1 X.2.1 dX3_box_16 rfl (lv_at hl 2 rfl) ?_
        refine lv_bipush (v := (6 : Int32)) X.1 X.2.1 dX3_box_17 (by decide) ?_
        refine lv_icmp_le (tgt := 25) X.1 X.2.1 dX3_box_19 (by decide) (fun c4 => ?_) (fun c4 => ?_)
        · rw [if_pos c4] at h
          refine lv_aload_n X.1 X.2.1 dX3_box_25 rfl (lv_at hl 0 rfl) ?_
          refine lv_iload_n X.1 X.2.1 dX3_box_26 rfl (lv_at hl 1 rfl) ?_
          obtain ⟨σ5, e6, h⟩ := lt_e h
          refine pX3_boxAbove X (fun w h => (List.mem_cons_of_mem _ (List.mem_append_left _ (List.mem_append_right _ h)))) hK hP hD hS (List.mem_cons_of_mem _ (List.mem_append_left _ (List.mem_append_left _ (List.mem_of_getElem? (i := 0) rfl)))) e6 dX3_box_27 (fun H locs hP hD hS => ?_)
          refine lv_aload_n X.1 X.2.1 dX3_box_30 rfl (lv_at hl 0 rfl) ?_
          refine lv_iload_n X.1 X.2.1 dX3_box_31 rfl (lv_at hl 2 rfl) ?_
          obtain ⟨σ7, e8, h⟩ := lt_e h
          refine pX3_boxBelow X (fun w h => (List.mem_cons_of_mem _ (List.mem_append_left _ (List.mem_append_right _ h)))) hK hP hD hS (List.mem_cons_of_mem _ (List.mem_append_left _ (List.mem_append_left _ (List.mem_of_getElem? (i := 1) rfl)))) e8 dX3_box_32 (fun H locs hP hD hS => ?_)
          refine lv_aload_n X.1 X.2.1 dX3_box_35 rfl (lv_at hl 0 rfl) ?_
          refine gX3_table X (fun w h => (List.mem_cons_of_mem _ (List.mem_append_left _ (List.mem_append_right _ h)))) hK hP (List.mem_cons_of_mem _ (List.mem_append_left _ (List.mem_append_left _ (List.mem_of_getElem? (i := 2) rfl)))) dX3_box_36 ?_
          obtain ⟨r9, q10, h⟩ := bd_e h
          refine kc_v (As := []) (rest := []) X (k_X1_forget σ7 _ q10) (cwV 0 X.2.2.2.2 gX3_box_X1_forget rfl rfl rfl hd_X1_forget ⟨Nat.le_of_ble_eq_true rfl, Nat.le_of_ble_eq_true rfl⟩) hK hP hD hS hA (va_recv hK hP (ci := 1) (q0 := 2) rfl rfl) rfl hl.1 rfl (Nat.le_of_ble_eq_true rfl) dX3_box_39 ⟨Nat.le_of_ble_eq_true rfl, Nat.le_of_ble_eq_true rfl⟩ (fun H locs hP hD hS => ?_)
          refine lv_iconst (v := (1 : Int32)) X.1 X.2.1 dX3_box_42 (by decide) ?_
          have h := sm_e h
          subst h
          exact rt_i X hr hlk hK hP hD hS dX3_box_43
        · rw [if_neg c4] at h
          refine lv_bipush (v := (-2 : Int32)) X.1 X.2.1 dX3_box_22 (by decide) ?_
          have h := sm_e h
          subst h
          exact rt_i X hr hlk hK hP hD hS dX3_box_24
def f_X3_q (p0 : Int32) (p1 : Int32) (σ : CS) : Option Int32 := (f_X0_has p0 σ).bind (fun r1 => if r1 = 0 then some (1000000 : Int32) else (f_X0_has p1 σ).bind (fun r4 => if r4 = 0 then some (1000000 : Int32) else (f_X0_product p0 p1 σ).bind (fun r7 => some r7)))
theorem hd_X3_q : yX3_q.cls = RX3 ∧ yX3_q.cls ≠ "java/lang/invoke/MethodHandle" ∧ yX3_q.cls ≠ "java/lang/invoke/VarHandle" ∧ (parseMethodDescriptor yX3_q.desc).map (fun d => d.parameters.length) = some 2 := by decide +kernel
set_option maxHeartbeats 4000000 in
set_option maxRecDepth 100000 in
theorem k_X3_q {l : Launch} {D : va_G} {k : Nat → ClassId} {a : Nat → Nat} {ρ : Nat → Nat} (p0 : Int32) (p1 : Int32) (σ : CS) (R : Int32) (h : f_X3_q p0 p1 σ = some R) : Ct l yX3_q wsX3_q ({ frames := 2, cells := 0, slots := 0, locals := 46 } : Room) D (cT k) (cW k a ρ σ) (cW k a ρ σ) [.ref (a 0), .int p0, .int p1] (some (.int R)) := by
  refine ct_of (cc := cX3_q) (maxL := 3) (ret := (some .int)) (by decide) rfl (Nat.le_of_ble_eq_true rfl) ?_
  intro p e s m args below meth c A ls X hr hlk hK hA hP hD hS hl
  have X : CallFix p m c cX3_q 3 s args wsX3_q RX3 := X
  have hl : lv_has ls 3 [(0, .ref (a 0)), (1, .int p0), (2, .int p1)] := hl
  rw [f_X3_q] at h
  refine lv_aload_n X.1 X.2.1 dX3_q_0 rfl (lv_at hl 0 rfl) ?_
  refine gX3_points X (fun w h => (List.mem_cons_of_mem _ (List.mem_append_left _ (List.mem_append_right _ h)))) hK hP (List.mem_cons_of_mem _ (List.mem_append_left _ (List.mem_append_left _ (List.mem_of_getElem? (i := 0) rfl)))) dX3_q_1 ?_
  refine lv_iload_n X.1 X.2.1 dX3_q_4 rfl (lv_at hl 1 rfl) ?_
  obtain ⟨r1, q2, h⟩ := bd_e h
  refine kc_v (As := [.int p0]) (rest := []) X (k_X0_has p0 σ _ q2) (cwV 1 X.2.2.2.2 gX3_q_X0_has rfl rfl rfl hd_X0_has ⟨Nat.le_of_ble_eq_true rfl, Nat.le_of_ble_eq_true rfl⟩) hK hP hD hS hA (va_recv hK hP (ci := 0) (q0 := 1) rfl rfl) rfl hl.1 rfl (Nat.le_of_ble_eq_true rfl) dX3_q_5 ⟨Nat.le_of_ble_eq_true rfl, Nat.le_of_ble_eq_true rfl⟩ (fun H locs hP hD hS => ?_)
  refine lv_if_eq (tgt := 34) X.1 X.2.1 dX3_q_8 (by decide) (fun c3 => ?_) (fun c3 => ?_)
  · rw [if_pos c3] at h
    refine lv_ldc (v := (1000000 : Int32)) X.1 X.2.1 X.2.2.2.1 (X.2.2.2.2 _ (List.mem_cons_of_mem _ (List.mem_append_left _ (List.mem_append_left _ (List.mem_of_getElem? (i := 1) rfl))))) dX3_q_34 ?_
    have h := sm_e h
    subst h
    exact rt_i X hr hlk hK hP hD hS dX3_q_36
  · rw [if_neg c3] at h
    refine lv_aload_n X.1 X.2.1 dX3_q_11 rfl (lv_at hl 0 rfl) ?_
    refine gX3_points X (fun w h => (List.mem_cons_of_mem _ (List.mem_append_left _ (List.mem_append_right _ h)))) hK hP (List.mem_cons_of_mem _ (List.mem_append_left _ (List.mem_append_left _ (List.mem_of_getElem? (i := 0) rfl)))) dX3_q_12 ?_
    refine lv_iload_n X.1 X.2.1 dX3_q_15 rfl (lv_at hl 2 rfl) ?_
    obtain ⟨r4, q5, h⟩ := bd_e h
    refine kc_v (As := [.int p1]) (rest := []) X (k_X0_has p1 σ _ q5) (cwV 1 X.2.2.2.2 gX3_q_X0_has rfl rfl rfl hd_X0_has ⟨Nat.le_of_ble_eq_true rfl, Nat.le_of_ble_eq_true rfl⟩) hK hP hD hS hA (va_recv hK hP (ci := 0) (q0 := 1) rfl rfl) rfl hl.1 rfl (Nat.le_of_ble_eq_true rfl) dX3_q_16 ⟨Nat.le_of_ble_eq_true rfl, Nat.le_of_ble_eq_true rfl⟩ (fun H locs hP hD hS => ?_)
    refine lv_if_eq (tgt := 34) X.1 X.2.1 dX3_q_19 (by decide) (fun c6 => ?_) (fun c6 => ?_)
    · rw [if_pos c6] at h
      refine lv_ldc (v := (1000000 : Int32)) X.1 X.2.1 X.2.2.2.1 (X.2.2.2.2 _ (List.mem_cons_of_mem _ (List.mem_append_left _ (List.mem_append_left _ (List.mem_of_getElem? (i := 1) rfl))))) dX3_q_34 ?_
      have h := sm_e h
      subst h
      exact rt_i X hr hlk hK hP hD hS dX3_q_36
    · rw [if_neg c6] at h
      refine lv_aload_n X.1 X.2.1 dX3_q_22 rfl (lv_at hl 0 rfl) ?_
      refine gX3_points X (fun w h => (List.mem_cons_of_mem _ (List.mem_append_left _ (List.mem_append_right _ h)))) hK hP (List.mem_cons_of_mem _ (List.mem_append_left _ (List.mem_append_left _ (List.mem_of_getElem? (i := 0) rfl)))) dX3_q_23 ?_
      refine lv_iload_n X.1 X.2.1 dX3_q_26 rfl (lv_at hl 1 rfl) ?_
      refine lv_iload_n X.1 X.2.1 dX3_q_27 rfl (lv_at hl 2 rfl) ?_
      obtain ⟨r7, q8, h⟩ := bd_e h
      refine kc_v (As := [.int p0, .int p1]) (rest := []) X (k_X0_product p0 p1 σ _ q8) (cwV 2 X.2.2.2.2 gX3_q_X0_product rfl rfl rfl hd_X0_product ⟨Nat.le_of_ble_eq_true rfl, Nat.le_of_ble_eq_true rfl⟩) hK hP hD hS hA (va_recv hK hP (ci := 0) (q0 := 1) rfl rfl) rfl hl.1 rfl (Nat.le_of_ble_eq_true rfl) dX3_q_28 ⟨Nat.le_of_ble_eq_true rfl, Nat.le_of_ble_eq_true rfl⟩ (fun H locs hP hD hS => ?_)
      refine lv_goto (tgt := 36) X.1 X.2.1 dX3_q_31 (by decide) ?_
      have h := sm_e h
      subst h
      exact rt_i X hr hlk hK hP hD hS dX3_q_36
def f_X3_begin (N : Nat) (σ : CS) : Option (Int32 × CS) := if (c_sz σ) = 0 then some ((-3 : Int32), σ) else (f_X1_lay N (c_bA σ) (c_bB σ) σ).bind (fun r2 => some ((c_rw r2), r2))
theorem hd_X3_begin : yX3_begin.cls = RX3 ∧ yX3_begin.cls ≠ "java/lang/invoke/MethodHandle" ∧ yX3_begin.cls ≠ "java/lang/invoke/VarHandle" ∧ (parseMethodDescriptor yX3_begin.desc).map (fun d => d.parameters.length) = some 0 := by decide +kernel
set_option maxHeartbeats 4000000 in
set_option maxRecDepth 100000 in
theorem k_X3_begin {l : Launch} {D : va_G} {k : Nat → ClassId} {a : Nat → Nat} {ρ : Nat → Nat} (N : Nat)  (σ : CS) (R : (Int32 × CS)) (h : f_X3_begin N σ = some R) : Ct l yX3_begin wsX3_begin ({ frames := 4, cells := 0, slots := 0, locals := 95 } : Room) D (cT k) (cW k a ρ σ) (cW k a ρ R.2) [.ref (a 0)] (some (.int R.1)) := by
  refine ct_of (cc := cX3_begin) (maxL := 1) (ret := (some .int)) (by decide) rfl (Nat.le_of_ble_eq_true rfl) ?_
  intro p e s m args below meth c A ls X hr hlk hK hA hP hD hS hl
  have X : CallFix p m c cX3_begin 1 s args wsX3_begin RX3 := X
  have hl : lv_has ls 1 [(0, .ref (a 0))] := hl
  rw [f_X3_begin] at h
  refine lv_aload_n X.1 X.2.1 dX3_begin_0 rfl (lv_at hl 0 rfl) ?_
  refine gX3_points X (fun w h => (List.mem_cons_of_mem _ (List.mem_append_left _ (List.mem_append_left _ (List.mem_append_right _ h))))) hK hP (List.mem_cons_of_mem _ (List.mem_append_left _ (List.mem_append_left _ (List.mem_append_left _ (List.mem_append_left _ (List.mem_of_getElem? (i := 0) rfl)))))) dX3_begin_1 ?_
  refine gX0_size X (fun w h => (List.mem_cons_of_mem _ (List.mem_append_left _ (List.mem_append_right _ h)))) hK hP (List.mem_cons_of_mem _ (List.mem_append_left _ (List.mem_append_left _ (List.mem_append_left _ (List.mem_append_left _ (List.mem_of_getElem? (i := 1) rfl)))))) dX3_begin_4 ?_
  refine lv_if_ne (tgt := 13) X.1 X.2.1 dX3_begin_7 (by decide) (fun c1 => ?_) (fun c1 => ?_)
  · rw [if_neg c1] at h
    refine lv_aload_n X.1 X.2.1 dX3_begin_13 rfl (lv_at hl 0 rfl) ?_
    refine gX3_table X (fun w h => (List.mem_cons_of_mem _ (List.mem_append_left _ (List.mem_append_left _ (List.mem_append_right _ h))))) hK hP (List.mem_cons_of_mem _ (List.mem_append_left _ (List.mem_append_left _ (List.mem_append_left _ (List.mem_append_left _ (List.mem_of_getElem? (i := 2) rfl)))))) dX3_begin_14 ?_
    refine lv_aload_n X.1 X.2.1 dX3_begin_17 rfl (lv_at hl 0 rfl) ?_
    refine gX3_points X (fun w h => (List.mem_cons_of_mem _ (List.mem_append_left _ (List.mem_append_left _ (List.mem_append_right _ h))))) hK hP (List.mem_cons_of_mem _ (List.mem_append_left _ (List.mem_append_left _ (List.mem_append_left _ (List.mem_append_left _ (List.mem_of_getElem? (i := 0) rfl)))))) dX3_begin_18 ?_
    refine lv_aload_n X.1 X.2.1 dX3_begin_21 rfl (lv_at hl 0 rfl) ?_
    refine gX3_boxAbove X (fun w h => (List.mem_cons_of_mem _ (List.mem_append_left _ (List.mem_append_left _ (List.mem_append_right _ h))))) hK hP (List.mem_cons_of_mem _ (List.mem_append_left _ (List.mem_append_left _ (List.mem_append_left _ (List.mem_append_left _ (List.mem_of_getElem? (i := 3) rfl)))))) dX3_begin_22 ?_
    refine lv_aload_n X.1 X.2.1 dX3_begin_25 rfl (lv_at hl 0 rfl) ?_
    refine gX3_boxBelow X (fun w h => (List.mem_cons_of_mem _ (List.mem_append_left _ (List.mem_append_left _ (List.mem_append_right _ h))))) hK hP (List.mem_cons_of_mem _ (List.mem_append_left _ (List.mem_append_left _ (List.mem_append_left _ (List.mem_append_left _ (List.mem_of_getElem? (i := 4) rfl)))))) dX3_begin_26 ?_
    obtain ⟨r2, q3, h⟩ := bd_e h
    refine kc_v (As := [.ref (a 1), .int (c_bA σ), .int (c_bB σ)]) (rest := []) X (k_X1_lay N (c_bA σ) (c_bB σ) σ _ q3) (cwV 3 X.2.2.2.2 gX3_begin_X1_lay rfl rfl rfl hd_X1_lay ⟨Nat.le_of_ble_eq_true rfl, Nat.le_of_ble_eq_true rfl⟩) hK hP hD hS hA (va_recv hK hP (ci := 1) (q0 := 2) rfl rfl) rfl hl.1 rfl (Nat.le_of_ble_eq_true rfl) dX3_begin_29 ⟨Nat.le_of_ble_eq_true rfl, Nat.le_of_ble_eq_true rfl⟩ (fun H locs hP hD hS => ?_)
    refine lv_aload_n X.1 X.2.1 dX3_begin_32 rfl (lv_at hl 0 rfl) ?_
    refine gX3_table X (fun w h => (List.mem_cons_of_mem _ (List.mem_append_left _ (List.mem_append_left _ (List.mem_append_right _ h))))) hK hP (List.mem_cons_of_mem _ (List.mem_append_left _ (List.mem_append_left _ (List.mem_append_left _ (List.mem_append_left _ (List.mem_of_getElem? (i := 2) rfl)))))) dX3_begin_33 ?_
    refine gX1_rows X (fun w h => (List.mem_cons_of_mem _ (List.mem_append_right _ h))) hK hP (List.mem_cons_of_mem _ (List.mem_append_left _ (List.mem_append_left _ (List.mem_append_left _ (List.mem_append_left _ (List.mem_of_getElem? (i := 5) rfl)))))) dX3_begin_36 ?_
    have h := sm_e h
    subst h
    exact rt_i X hr hlk hK hP hD hS dX3_begin_39
  · rw [if_pos c1] at h
    refine lv_bipush (v := (-3 : Int32)) X.1 X.2.1 dX3_begin_10 (by decide) ?_
    have h := sm_e h
    subst h
    exact rt_i X hr hlk hK hP hD hS dX3_begin_12
def f_X3_go_L30 (N : Nat) : Nat → Int32 → Int32 → CS → Option (Int32 × CS)
  | 0, _, _, _ => none
  | n + 1, v1, v2, σ => if v1 ≤ v2 then some ((c_sa σ), σ) else (f_X1_mayStep σ).bind (fun r2 => if r2 = 0 then some ((c_sa σ), σ) else (f_X1_makeStep N σ).bind (fun r5 => lt_ (v2 + (1 : Int32)) (fun x7 => f_X3_go_L30 N n v1 x7 r5)))
set_option maxHeartbeats 4000000 in
set_option maxRecDepth 100000 in
theorem t_X3_go_L30 {p : Program} {l : Launch} {e : Env} {s : State} {m : MethodId} {args : Array Value} {below : List Frame} {meth : Method} {c : Code} {D : va_G} {A : Nat → Prop} {k : Nat → ClassId} {a : Nat → Nat} {ρ : Nat → Nat} (X : CallFix p m c cX3_go 3 s args wsX3_go RX3) (hr : meth.sig.returnType = some .int) (hlk : meth.locks = false) (hK : va_K D vwCl (cT k) s) (hA : ∀ q : Nat, s.heap.size ≤ q → A q) (N : Nat) : ∀ (n : Nat) (v1 : Int32) (v2 : Int32) (σ : CS) (R : (Int32 × CS)), f_X3_go_L30 N n v1 v2 σ = some R → ∀ (H : Heap) (locs : List Loc) (ls : Array Slot), va_P D vwCl (cW k a ρ σ) H → va_D A (cW k a ρ σ) → va_S A s.heap H locs → lv_has ls 3 [(0, .ref (a 0)), (1, .int v1), (2, .int v2)] → W p l e ({ frames := 7, cells := 0, slots := 0, locals := 178 } : Room) s m args below meth c H locs 0 0 (MQ below (cQ D (cT k) A (cW k a ρ R.2) (some (.int R.1))) args s 0 0 A) (F0 m 30 ls []) := by
  intro n
  induction n with
  | zero =>
    intro v1 v2 σ R h
    exact absurd h (by simp [f_X3_go_L30])
  | succ n ih =>
    intro v1 v2 σ R h H locs ls hP hD hS hl
    rw [f_X3_go_L30] at h
    refine lv_iload_n X.1 X.2.1 dX3_go_30 rfl (lv_at hl 2 rfl) ?_
    refine lv_iload_n X.1 X.2.1 dX3_go_31 rfl (lv_at hl 1 rfl) ?_
    refine lv_icmp_ge (tgt := 58) X.1 X.2.1 dX3_go_32 (by decide) (fun c1 => ?_) (fun c1 => ?_)
    · rw [if_pos c1] at h
      refine lv_aload_n X.1 X.2.1 dX3_go_58 rfl (lv_at hl 0 rfl) ?_
      refine gX3_table X (fun w h => (List.mem_cons_of_mem _ (List.mem_append_left _ (List.mem_append_right _ h)))) hK hP (List.mem_cons_of_mem _ (List.mem_append_left _ (List.mem_append_left _ (List.mem_append_left _ (List.mem_of_getElem? (i := 0) rfl))))) dX3_go_59 ?_
      refine gX1_state X (fun w h => (List.mem_cons_of_mem _ (List.mem_append_right _ h))) hK hP (List.mem_cons_of_mem _ (List.mem_append_left _ (List.mem_append_left _ (List.mem_append_left _ (List.mem_of_getElem? (i := 1) rfl))))) dX3_go_62 ?_
      have h := sm_e h
      subst h
      exact rt_i X hr hlk hK hP hD hS dX3_go_65
    · rw [if_neg c1] at h
      refine lv_aload_n X.1 X.2.1 dX3_go_35 rfl (lv_at hl 0 rfl) ?_
      refine gX3_table X (fun w h => (List.mem_cons_of_mem _ (List.mem_append_left _ (List.mem_append_right _ h)))) hK hP (List.mem_cons_of_mem _ (List.mem_append_left _ (List.mem_append_left _ (List.mem_append_left _ (List.mem_of_getElem? (i := 0) rfl))))) dX3_go_36 ?_
      obtain ⟨r2, q3, h⟩ := bd_e h
      refine kc_v (As := []) (rest := []) X (k_X1_mayStep σ _ q3) (cwV 0 X.2.2.2.2 gX3_go_X1_mayStep rfl rfl rfl hd_X1_mayStep ⟨Nat.le_of_ble_eq_true rfl, Nat.le_of_ble_eq_true rfl⟩) hK hP hD hS hA (va_recv hK hP (ci := 1) (q0 := 2) rfl rfl) rfl hl.1 rfl (Nat.le_of_ble_eq_true rfl) dX3_go_39 ⟨Nat.le_of_ble_eq_true rfl, Nat.le_of_ble_eq_true rfl⟩ (fun H locs hP hD hS => ?_)
      refine lv_if_eq (tgt := 58) X.1 X.2.1 dX3_go_42 (by decide) (fun c4 => ?_) (fun c4 => ?_)
      · rw [if_pos c4] at h
        refine lv_aload_n X.1 X.2.1 dX3_go_58 rfl (lv_at hl 0 rfl) ?_
        refine gX3_table X (fun w h => (List.mem_cons_of_mem _ (List.mem_append_left _ (List.mem_append_right _ h)))) hK hP (List.mem_cons_of_mem _ (List.mem_append_left _ (List.mem_append_left _ (List.mem_append_left _ (List.mem_of_getElem? (i := 0) rfl))))) dX3_go_59 ?_
        refine gX1_state X (fun w h => (List.mem_cons_of_mem _ (List.mem_append_right _ h))) hK hP (List.mem_cons_of_mem _ (List.mem_append_left _ (List.mem_append_left _ (List.mem_append_left _ (List.mem_of_getElem? (i := 1) rfl))))) dX3_go_62 ?_
        have h := sm_e h
        subst h
        exact rt_i X hr hlk hK hP hD hS dX3_go_65
      · rw [if_neg c4] at h
        refine lv_aload_n X.1 X.2.1 dX3_go_45 rfl (lv_at hl 0 rfl) ?_
        refine gX3_table X (fun w h => (List.mem_cons_of_mem _ (List.mem_append_left _ (List.mem_append_right _ h)))) hK hP (List.mem_cons_of_mem _ (List.mem_append_left _ (List.mem_append_left _ (List.mem_append_left _ (List.mem_of_getElem? (i := 0) rfl))))) dX3_go_46 ?_
        obtain ⟨r5, q6, h⟩ := bd_e h
        refine kc_v (As := []) (rest := []) X (k_X1_makeStep N σ _ q6) (cwV 0 X.2.2.2.2 gX3_go_X1_makeStep rfl rfl rfl hd_X1_makeStep ⟨Nat.le_of_ble_eq_true rfl, Nat.le_of_ble_eq_true rfl⟩) hK hP hD hS hA (va_recv hK hP (ci := 1) (q0 := 2) rfl rfl) rfl hl.1 rfl (Nat.le_of_ble_eq_true rfl) dX3_go_49 ⟨Nat.le_of_ble_eq_true rfl, Nat.le_of_ble_eq_true rfl⟩ (fun H locs hP hD hS => ?_)
        obtain ⟨x7, e8, h⟩ := lt_e h
        refine lv_iinc (v := x7) (lv' := [(2, .int x7), (0, .ref (a 0)), (1, .int v1)]) X.1 X.2.1 dX3_go_52 hl (k := 2) rfl e8.symm (by decide) rfl (fun ls hl => ?_)
        refine lv_goto (tgt := 30) X.1 X.2.1 dX3_go_55 (by decide) ?_
        exact ih v1 x7 r5 _ h _ _ _ hP hD hS (lv_sub hl [1, 2, 0] rfl)
def f_X3_go (N : Nat) (p0 : Int32) (σ : CS) : Option (Int32 × CS) := if p0 < (1 : Int32) then some ((-2 : Int32), σ) else if p0 ≤ (60 : Int32) then if (c_sa σ) = (-1 : Int32) then some ((-3 : Int32), σ) else f_X3_go_L30 N N p0 (0 : Int32) σ else some ((-2 : Int32), σ)
theorem hd_X3_go : yX3_go.cls = RX3 ∧ yX3_go.cls ≠ "java/lang/invoke/MethodHandle" ∧ yX3_go.cls ≠ "java/lang/invoke/VarHandle" ∧ (parseMethodDescriptor yX3_go.desc).map (fun d => d.parameters.length) = some 1 := by decide +kernel
set_option maxHeartbeats 4000000 in
set_option maxRecDepth 100000 in
theorem k_X3_go {l : Launch} {D : va_G} {k : Nat → ClassId} {a : Nat → Nat} {ρ : Nat → Nat} (N : Nat) (p0 : Int32) (σ : CS) (R : (Int32 × CS)) (h : f_X3_go N p0 σ = some R) : Ct l yX3_go wsX3_go ({ frames := 7, cells := 0, slots := 0, locals := 178 } : Room) D (cT k) (cW k a ρ σ) (cW k a ρ R.2) [.ref (a 0), .int p0] (some (.int R.1)) := by
  refine ct_of (cc := cX3_go) (maxL := 3) (ret := (some .int)) (by decide) rfl (Nat.le_of_ble_eq_true rfl) ?_
  intro p e s m args below meth c A ls X hr hlk hK hA hP hD hS hl
  have X : CallFix p m c cX3_go 3 s args wsX3_go RX3 := X
  have hl : lv_has ls 3 [(0, .ref (a 0)), (1, .int p0)] := hl
  rw [f_X3_go] at h
  refine lv_iload_n X.1 X.2.1 dX3_go_0 rfl (lv_at hl 1 rfl) ?_
  refine lv_iconst (v := (1 : Int32)) X.1 X.2.1 dX3_go_1 (by decide) ?_
  refine lv_icmp_lt (tgt := 11) X.1 X.2.1 dX3_go_2 (by decide) (fun c1 => ?_) (fun c1 => ?_)
  · rw [if_pos c1] at h
    refine lv_bipush (v := (-2 : Int32)) X.1 X.2.1 dX3_go_11 (by decide) ?_
    have h := sm_e h
    subst h
    exact rt_i X hr hlk hK hP hD hS dX3_go_13
  · rw [if_neg c1] at h
    refine lv_iload_n X.1 X.2.1 dX3_go_5 rfl (lv_at hl 1 rfl) ?_
    refine lv_bipush (v := (60 : Int32)) X.1 X.2.1 dX3_go_6 (by decide) ?_
    refine lv_icmp_le (tgt := 14) X.1 X.2.1 dX3_go_8 (by decide) (fun c2 => ?_) (fun c2 => ?_)
    · rw [if_pos c2] at h
      refine lv_aload_n X.1 X.2.1 dX3_go_14 rfl (lv_at hl 0 rfl) ?_
      refine gX3_table X (fun w h => (List.mem_cons_of_mem _ (List.mem_append_left _ (List.mem_append_right _ h)))) hK hP (List.mem_cons_of_mem _ (List.mem_append_left _ (List.mem_append_left _ (List.mem_append_left _ (List.mem_of_getElem? (i := 0) rfl))))) dX3_go_15 ?_
      refine gX1_state X (fun w h => (List.mem_cons_of_mem _ (List.mem_append_right _ h))) hK hP (List.mem_cons_of_mem _ (List.mem_append_left _ (List.mem_append_left _ (List.mem_append_left _ (List.mem_of_getElem? (i := 1) rfl))))) dX3_go_18 ?_
      refine lv_iconst (v := (-1 : Int32)) X.1 X.2.1 dX3_go_21 (by decide) ?_
      refine lv_icmp_ne (tgt := 28) X.1 X.2.1 dX3_go_22 (by decide) (fun c3 => ?_) (fun c3 => ?_)
      · rw [if_neg c3] at h
        refine lv_iconst (v := (0 : Int32)) X.1 X.2.1 dX3_go_28 (by decide) ?_
        refine lv_istore_n (lv' := [(2, .int (0 : Int32)), (0, .ref (a 0)), (1, .int p0)]) X.1 X.2.1 dX3_go_29 rfl hl (by decide) rfl (fun ls hl => ?_)
        exact t_X3_go_L30 X hr hlk hK hA N N p0 (0 : Int32) σ _ h _ _ _ hP hD hS (lv_sub hl [1, 2, 0] rfl)
      · rw [if_pos c3] at h
        refine lv_bipush (v := (-3 : Int32)) X.1 X.2.1 dX3_go_25 (by decide) ?_
        have h := sm_e h
        subst h
        exact rt_i X hr hlk hK hP hD hS dX3_go_27
    · rw [if_neg c2] at h
      refine lv_bipush (v := (-2 : Int32)) X.1 X.2.1 dX3_go_11 (by decide) ?_
      have h := sm_e h
      subst h
      exact rt_i X hr hlk hK hP hD hS dX3_go_13
def f_X3_step (p0 : Int32) (p1 : Int32) (σ : CS) : Option Int32 := if p1 < 0 then some (-2 : Int32) else if p1 ≤ (2 : Int32) then if p0 < 0 then some (-1 : Int32) else if p0 < (c_st σ) then if p1 = (2 : Int32) then gd (inB p0 200) (some (c_ta σ p0.toNatClampNeg)) else if p1 = 0 then gd (inB p0 200) ((f_X1_letter (c_en σ p0.toNatClampNeg) σ).bind (fun r11 => some r11)) else gd (inB p0 200) ((f_X1_letter (c_lf σ p0.toNatClampNeg) σ).bind (fun r8 => some r8)) else some (-1 : Int32) else some (-2 : Int32)
theorem hd_X3_step : yX3_step.cls = RX3 ∧ yX3_step.cls ≠ "java/lang/invoke/MethodHandle" ∧ yX3_step.cls ≠ "java/lang/invoke/VarHandle" ∧ (parseMethodDescriptor yX3_step.desc).map (fun d => d.parameters.length) = some 2 := by decide +kernel
set_option maxHeartbeats 4000000 in
set_option maxRecDepth 100000 in
theorem k_X3_step {l : Launch} {D : va_G} {k : Nat → ClassId} {a : Nat → Nat} {ρ : Nat → Nat} (p0 : Int32) (p1 : Int32) (σ : CS) (R : Int32) (h : f_X3_step p0 p1 σ = some R) : Ct l yX3_step wsX3_step ({ frames := 2, cells := 0, slots := 0, locals := 41 } : Room) D (cT k) (cW k a ρ σ) (cW k a ρ σ) [.ref (a 0), .int p0, .int p1] (some (.int R)) := by
  refine ct_of (cc := cX3_step) (maxL := 3) (ret := (some .int)) (by decide) rfl (Nat.le_of_ble_eq_true rfl) ?_
  intro p e s m args below meth c A ls X hr hlk hK hA hP hD hS hl
  have X : CallFix p m c cX3_step 3 s args wsX3_step RX3 := X
  have hl : lv_has ls 3 [(0, .ref (a 0)), (1, .int p0), (2, .int p1)] := hl
  rw [f_X3_step] at h
  refine lv_iload_n X.1 X.2.1 dX3_step_0 rfl (lv_at hl 2 rfl) ?_
  refine lv_if_lt (tgt := 9) X.1 X.2.1 dX3_step_1 (by decide) (fun c1 => ?_) (fun c1 => ?_)
  · rw [if_pos c1] at h
    refine lv_bipush (v := (-2 : Int32)) X.1 X.2.1 dX3_step_9 (by decide) ?_
    have h := sm_e h
    subst h
    exact rt_i X hr hlk hK hP hD hS dX3_step_11
  · rw [if_neg c1] at h
    refine lv_iload_n X.1 X.2.1 dX3_step_4 rfl (lv_at hl 2 rfl) ?_
    refine lv_iconst (v := (2 : Int32)) X.1 X.2.1 dX3_step_5 (by decide) ?_
    refine lv_icmp_le (tgt := 12) X.1 X.2.1 dX3_step_6 (by decide) (fun c2 => ?_) (fun c2 => ?_)
    · rw [if_pos c2] at h
      refine lv_iload_n X.1 X.2.1 dX3_step_12 rfl (lv_at hl 1 rfl) ?_
      refine lv_if_lt (tgt := 27) X.1 X.2.1 dX3_step_13 (by decide) (fun c3 => ?_) (fun c3 => ?_)
      · rw [if_pos c3] at h
        refine lv_iconst (v := (-1 : Int32)) X.1 X.2.1 dX3_step_27 (by decide) ?_
        have h := sm_e h
        subst h
        exact rt_i X hr hlk hK hP hD hS dX3_step_28
      · rw [if_neg c3] at h
        refine lv_iload_n X.1 X.2.1 dX3_step_16 rfl (lv_at hl 1 rfl) ?_
        refine lv_aload_n X.1 X.2.1 dX3_step_17 rfl (lv_at hl 0 rfl) ?_
        refine gX3_table X (fun w h => (List.mem_cons_of_mem _ (List.mem_append_left _ (List.mem_append_right _ h)))) hK hP (List.mem_cons_of_mem _ (List.mem_append_left _ (List.mem_append_left _ (List.mem_of_getElem? (i := 0) rfl)))) dX3_step_18 ?_
        refine gX1_steps X (fun w h => (List.mem_cons_of_mem _ (List.mem_append_right _ h))) hK hP (List.mem_cons_of_mem _ (List.mem_append_left _ (List.mem_append_left _ (List.mem_of_getElem? (i := 1) rfl)))) dX3_step_21 ?_
        refine lv_icmp_lt (tgt := 29) X.1 X.2.1 dX3_step_24 (by decide) (fun c4 => ?_) (fun c4 => ?_)
        · rw [if_pos c4] at h
          refine lv_iload_n X.1 X.2.1 dX3_step_29 rfl (lv_at hl 2 rfl) ?_
          refine lv_iconst (v := (2 : Int32)) X.1 X.2.1 dX3_step_30 (by decide) ?_
          refine lv_icmp_ne (tgt := 44) X.1 X.2.1 dX3_step_31 (by decide) (fun c5 => ?_) (fun c5 => ?_)
          · rw [if_neg c5] at h
            refine lv_aload_n X.1 X.2.1 dX3_step_44 rfl (lv_at hl 0 rfl) ?_
            refine gX3_table X (fun w h => (List.mem_cons_of_mem _ (List.mem_append_left _ (List.mem_append_right _ h)))) hK hP (List.mem_cons_of_mem _ (List.mem_append_left _ (List.mem_append_left _ (List.mem_of_getElem? (i := 0) rfl)))) dX3_step_45 ?_
            refine lv_iload_n X.1 X.2.1 dX3_step_48 rfl (lv_at hl 2 rfl) ?_
            refine lv_if_ne (tgt := 64) X.1 X.2.1 dX3_step_49 (by decide) (fun c6 => ?_) (fun c6 => ?_)
            · rw [if_neg c6] at h
              refine lv_aload_n X.1 X.2.1 dX3_step_64 rfl (lv_at hl 0 rfl) ?_
              refine gX3_table X (fun w h => (List.mem_cons_of_mem _ (List.mem_append_left _ (List.mem_append_right _ h)))) hK hP (List.mem_cons_of_mem _ (List.mem_append_left _ (List.mem_append_left _ (List.mem_of_getElem? (i := 0) rfl)))) dX3_step_65 ?_
              refine gX1_left X (fun w h => (List.mem_cons_of_mem _ (List.mem_append_right _ h))) hK hP (List.mem_cons_of_mem _ (List.mem_append_left _ (List.mem_append_left _ (List.mem_of_getElem? (i := 4) rfl)))) dX3_step_68 ?_
              refine lv_iload_n X.1 X.2.1 dX3_step_71 rfl (lv_at hl 1 rfl) ?_
              obtain ⟨g7, h⟩ := gd_e h
              refine lc_lf X hK hP g7 dX3_step_72 ?_
              obtain ⟨r8, q9, h⟩ := bd_e h
              refine kc_v (As := [.int (c_lf σ p0.toNatClampNeg)]) (rest := []) X (k_X1_letter (c_lf σ p0.toNatClampNeg) σ _ q9) (cwV 1 X.2.2.2.2 gX3_step_X1_letter rfl rfl rfl hd_X1_letter ⟨Nat.le_of_ble_eq_true rfl, Nat.le_of_ble_eq_true rfl⟩) hK hP hD hS hA (va_recv hK hP (ci := 1) (q0 := 2) rfl rfl) rfl hl.1 rfl (Nat.le_of_ble_eq_true rfl) dX3_step_73 ⟨Nat.le_of_ble_eq_true rfl, Nat.le_of_ble_eq_true rfl⟩ (fun H locs hP hD hS => ?_)
              have h := sm_e h
              subst h
              exact rt_i X hr hlk hK hP hD hS dX3_step_76
            · rw [if_pos c6] at h
              refine lv_aload_n X.1 X.2.1 dX3_step_52 rfl (lv_at hl 0 rfl) ?_
              refine gX3_table X (fun w h => (List.mem_cons_of_mem _ (List.mem_append_left _ (List.mem_append_right _ h)))) hK hP (List.mem_cons_of_mem _ (List.mem_append_left _ (List.mem_append_left _ (List.mem_of_getElem? (i := 0) rfl)))) dX3_step_53 ?_
              refine gX1_entered X (fun w h => (List.mem_cons_of_mem _ (List.mem_append_right _ h))) hK hP (List.mem_cons_of_mem _ (List.mem_append_left _ (List.mem_append_left _ (List.mem_of_getElem? (i := 3) rfl)))) dX3_step_56 ?_
              refine lv_iload_n X.1 X.2.1 dX3_step_59 rfl (lv_at hl 1 rfl) ?_
              obtain ⟨g10, h⟩ := gd_e h
              refine lc_en X hK hP g10 dX3_step_60 ?_
              refine lv_goto (tgt := 73) X.1 X.2.1 dX3_step_61 (by decide) ?_
              obtain ⟨r11, q12, h⟩ := bd_e h
              refine kc_v (As := [.int (c_en σ p0.toNatClampNeg)]) (rest := []) X (k_X1_letter (c_en σ p0.toNatClampNeg) σ _ q12) (cwV 1 X.2.2.2.2 gX3_step_X1_letter rfl rfl rfl hd_X1_letter ⟨Nat.le_of_ble_eq_true rfl, Nat.le_of_ble_eq_true rfl⟩) hK hP hD hS hA (va_recv hK hP (ci := 1) (q0 := 2) rfl rfl) rfl hl.1 rfl (Nat.le_of_ble_eq_true rfl) dX3_step_73 ⟨Nat.le_of_ble_eq_true rfl, Nat.le_of_ble_eq_true rfl⟩ (fun H locs hP hD hS => ?_)
              have h := sm_e h
              subst h
              exact rt_i X hr hlk hK hP hD hS dX3_step_76
          · rw [if_pos c5] at h
            refine lv_aload_n X.1 X.2.1 dX3_step_34 rfl (lv_at hl 0 rfl) ?_
            refine gX3_table X (fun w h => (List.mem_cons_of_mem _ (List.mem_append_left _ (List.mem_append_right _ h)))) hK hP (List.mem_cons_of_mem _ (List.mem_append_left _ (List.mem_append_left _ (List.mem_of_getElem? (i := 0) rfl)))) dX3_step_35 ?_
            refine gX1_turnedAt X (fun w h => (List.mem_cons_of_mem _ (List.mem_append_right _ h))) hK hP (List.mem_cons_of_mem _ (List.mem_append_left _ (List.mem_append_left _ (List.mem_of_getElem? (i := 2) rfl)))) dX3_step_38 ?_
            refine lv_iload_n X.1 X.2.1 dX3_step_41 rfl (lv_at hl 1 rfl) ?_
            obtain ⟨g13, h⟩ := gd_e h
            refine lc_ta X hK hP g13 dX3_step_42 ?_
            have h := sm_e h
            subst h
            exact rt_i X hr hlk hK hP hD hS dX3_step_43
        · rw [if_neg c4] at h
          refine lv_iconst (v := (-1 : Int32)) X.1 X.2.1 dX3_step_27 (by decide) ?_
          have h := sm_e h
          subst h
          exact rt_i X hr hlk hK hP hD hS dX3_step_28
    · rw [if_neg c2] at h
      refine lv_bipush (v := (-2 : Int32)) X.1 X.2.1 dX3_step_9 (by decide) ?_
      have h := sm_e h
      subst h
      exact rt_i X hr hlk hK hP hD hS dX3_step_11
def f_X3_told (p0 : Int32) (σ : CS) : Option Int32 := (f_X1_hasRow p0 σ).bind (fun r1 => if r1 = 0 then some (-1 : Int32) else gd (inB p0 12) ((f_X1_letter (c_tl σ p0.toNatClampNeg) σ).bind (fun r5 => some r5)))
theorem hd_X3_told : yX3_told.cls = RX3 ∧ yX3_told.cls ≠ "java/lang/invoke/MethodHandle" ∧ yX3_told.cls ≠ "java/lang/invoke/VarHandle" ∧ (parseMethodDescriptor yX3_told.desc).map (fun d => d.parameters.length) = some 1 := by decide +kernel
set_option maxHeartbeats 4000000 in
set_option maxRecDepth 100000 in
theorem k_X3_told {l : Launch} {D : va_G} {k : Nat → ClassId} {a : Nat → Nat} {ρ : Nat → Nat} (p0 : Int32) (σ : CS) (R : Int32) (h : f_X3_told p0 σ = some R) : Ct l yX3_told wsX3_told ({ frames := 2, cells := 0, slots := 0, locals := 41 } : Room) D (cT k) (cW k a ρ σ) (cW k a ρ σ) [.ref (a 0), .int p0] (some (.int R)) := by
  refine ct_of (cc := cX3_told) (maxL := 2) (ret := (some .int)) (by decide) rfl (Nat.le_of_ble_eq_true rfl) ?_
  intro p e s m args below meth c A ls X hr hlk hK hA hP hD hS hl
  have X : CallFix p m c cX3_told 2 s args wsX3_told RX3 := X
  have hl : lv_has ls 2 [(0, .ref (a 0)), (1, .int p0)] := hl
  rw [f_X3_told] at h
  refine lv_aload_n X.1 X.2.1 dX3_told_0 rfl (lv_at hl 0 rfl) ?_
  refine gX3_table X (fun w h => (List.mem_cons_of_mem _ (List.mem_append_left _ (List.mem_append_right _ h)))) hK hP (List.mem_cons_of_mem _ (List.mem_append_left _ (List.mem_append_left _ (List.mem_of_getElem? (i := 0) rfl)))) dX3_told_1 ?_
  refine lv_iload_n X.1 X.2.1 dX3_told_4 rfl (lv_at hl 1 rfl) ?_
  obtain ⟨r1, q2, h⟩ := bd_e h
  refine kc_v (As := [.int p0]) (rest := []) X (k_X1_hasRow p0 σ _ q2) (cwV 1 X.2.2.2.2 gX3_told_X1_hasRow rfl rfl rfl hd_X1_hasRow ⟨Nat.le_of_ble_eq_true rfl, Nat.le_of_ble_eq_true rfl⟩) hK hP hD hS hA (va_recv hK hP (ci := 1) (q0 := 2) rfl rfl) rfl hl.1 rfl (Nat.le_of_ble_eq_true rfl) dX3_told_5 ⟨Nat.le_of_ble_eq_true rfl, Nat.le_of_ble_eq_true rfl⟩ (fun H locs hP hD hS => ?_)
  refine lv_if_eq (tgt := 30) X.1 X.2.1 dX3_told_8 (by decide) (fun c3 => ?_) (fun c3 => ?_)
  · rw [if_pos c3] at h
    refine lv_iconst (v := (-1 : Int32)) X.1 X.2.1 dX3_told_30 (by decide) ?_
    have h := sm_e h
    subst h
    exact rt_i X hr hlk hK hP hD hS dX3_told_31
  · rw [if_neg c3] at h
    refine lv_aload_n X.1 X.2.1 dX3_told_11 rfl (lv_at hl 0 rfl) ?_
    refine gX3_table X (fun w h => (List.mem_cons_of_mem _ (List.mem_append_left _ (List.mem_append_right _ h)))) hK hP (List.mem_cons_of_mem _ (List.mem_append_left _ (List.mem_append_left _ (List.mem_of_getElem? (i := 0) rfl)))) dX3_told_12 ?_
    refine lv_aload_n X.1 X.2.1 dX3_told_15 rfl (lv_at hl 0 rfl) ?_
    refine gX3_table X (fun w h => (List.mem_cons_of_mem _ (List.mem_append_left _ (List.mem_append_right _ h)))) hK hP (List.mem_cons_of_mem _ (List.mem_append_left _ (List.mem_append_left _ (List.mem_of_getElem? (i := 0) rfl)))) dX3_told_16 ?_
    refine gX1_tells X (fun w h => (List.mem_cons_of_mem _ (List.mem_append_right _ h))) hK hP (List.mem_cons_of_mem _ (List.mem_append_left _ (List.mem_append_left _ (List.mem_of_getElem? (i := 1) rfl)))) dX3_told_19 ?_
    refine lv_iload_n X.1 X.2.1 dX3_told_22 rfl (lv_at hl 1 rfl) ?_
    obtain ⟨g4, h⟩ := gd_e h
    refine lc_tl X hK hP g4 dX3_told_23 ?_
    obtain ⟨r5, q6, h⟩ := bd_e h
    refine kc_v (As := [.int (c_tl σ p0.toNatClampNeg)]) (rest := []) X (k_X1_letter (c_tl σ p0.toNatClampNeg) σ _ q6) (cwV 1 X.2.2.2.2 gX3_told_X1_letter rfl rfl rfl hd_X1_letter ⟨Nat.le_of_ble_eq_true rfl, Nat.le_of_ble_eq_true rfl⟩) hK hP hD hS hA (va_recv hK hP (ci := 1) (q0 := 2) rfl rfl) rfl hl.1 rfl (Nat.le_of_ble_eq_true rfl) dX3_told_24 ⟨Nat.le_of_ble_eq_true rfl, Nat.le_of_ble_eq_true rfl⟩ (fun H locs hP hD hS => ?_)
    refine lv_goto (tgt := 31) X.1 X.2.1 dX3_told_27 (by decide) ?_
    have h := sm_e h
    subst h
    exact rt_i X hr hlk hK hP hD hS dX3_told_31
def f_X3_isPart (p0 : Int32) : Option Int32 := if p0 = 0 then some (1 : Int32) else if p0 = (1 : Int32) then some (1 : Int32) else some (0 : Int32)
theorem hd_X3_isPart : yX3_isPart.cls ≠ "java/lang/invoke/MethodHandle" ∧ yX3_isPart.cls ≠ "java/lang/invoke/VarHandle" ∧ (parseMethodDescriptor yX3_isPart.desc).map (fun d => d.parameters.length) = some 1 := by decide +kernel
set_option maxHeartbeats 4000000 in
set_option maxRecDepth 100000 in
theorem k_X3_isPart {l : Launch} {D : va_G} (p0 : Int32) (R : Int32) (h : f_X3_isPart p0 = some R) : Ct l yX3_isPart wsX3_isPart ({ frames := 0, cells := 0, slots := 0, locals := 0 } : Room) D ([]) ([]) ([]) [.int p0] (some (.int R)) := by
  refine ct_of (cc := cX3_isPart) (maxL := 1) (ret := (some .boolean)) (by decide) rfl (Nat.le_of_ble_eq_true rfl) ?_
  intro p e s m args below meth c A ls X hr hlk hK hA hP hD hS hl
  have X : CallFix p m c cX3_isPart 1 s args wsX3_isPart RX3 := X
  have hl : lv_has ls 1 [(0, .int p0)] := hl
  rw [f_X3_isPart] at h
  refine lv_iload_n X.1 X.2.1 dX3_isPart_0 rfl (lv_at hl 0 rfl) ?_
  refine lv_if_eq (tgt := 9) X.1 X.2.1 dX3_isPart_1 (by decide) (fun c1 => ?_) (fun c1 => ?_)
  · rw [if_pos c1] at h
    refine lv_iconst (v := (1 : Int32)) X.1 X.2.1 dX3_isPart_9 (by decide) ?_
    refine lv_goto (tgt := 14) X.1 X.2.1 dX3_isPart_10 (by decide) ?_
    have h := sm_e h
    subst h
    exact rt_z X hr hlk rfl hK hP hD hS dX3_isPart_14
  · rw [if_neg c1] at h
    refine lv_iload_n X.1 X.2.1 dX3_isPart_4 rfl (lv_at hl 0 rfl) ?_
    refine lv_iconst (v := (1 : Int32)) X.1 X.2.1 dX3_isPart_5 (by decide) ?_
    refine lv_icmp_ne (tgt := 13) X.1 X.2.1 dX3_isPart_6 (by decide) (fun c2 => ?_) (fun c2 => ?_)
    · rw [if_neg c2] at h
      refine lv_iconst (v := (0 : Int32)) X.1 X.2.1 dX3_isPart_13 (by decide) ?_
      have h := sm_e h
      subst h
      exact rt_z X hr hlk rfl hK hP hD hS dX3_isPart_14
    · rw [if_pos c2] at h
      refine lv_iconst (v := (1 : Int32)) X.1 X.2.1 dX3_isPart_9 (by decide) ?_
      refine lv_goto (tgt := 14) X.1 X.2.1 dX3_isPart_10 (by decide) ?_
      have h := sm_e h
      subst h
      exact rt_z X hr hlk rfl hK hP hD hS dX3_isPart_14
def f_X3_at (N : Nat) (p0 : Int32) (p1 : Int32) (p2 : Int32) (σ : CS) : Option Int64 := (f_X1_hasRow p0 σ).bind (fun r1 => if r1 = 0 then some (0 : Int64) else (f_X1_hasColumn p1 σ).bind (fun r4 => if r4 = 0 then some (0 : Int64) else (f_X3_isPart p2 ).bind (fun r7 => if r7 = 0 then some (0 : Int64) else gd (inB p0 12) (gd (inB p0 12) (gd (inB p1 26) ((f_X2_part N (c_gg σ p0.toNatClampNeg p1.toNatClampNeg) (c_sc σ) p2 ).bind (fun r13 => some r13)))))))
theorem hd_X3_at : yX3_at.cls = RX3 ∧ yX3_at.cls ≠ "java/lang/invoke/MethodHandle" ∧ yX3_at.cls ≠ "java/lang/invoke/VarHandle" ∧ (parseMethodDescriptor yX3_at.desc).map (fun d => d.parameters.length) = some 3 := by decide +kernel
set_option maxHeartbeats 4000000 in
set_option maxRecDepth 100000 in
theorem k_X3_at {l : Launch} {D : va_G} {k : Nat → ClassId} {a : Nat → Nat} {ρ : Nat → Nat} (N : Nat) (p0 : Int32) (p1 : Int32) (p2 : Int32) (σ : CS) (R : Int64) (h : f_X3_at N p0 p1 p2 σ = some R) : Ct l yX3_at wsX3_at ({ frames := 2, cells := 0, slots := 0, locals := 54 } : Room) D (cT k) (cW k a ρ σ) (cW k a ρ σ) [.ref (a 0), .int p0, .int p1, .int p2] (some (.long R)) := by
  refine ct_of (cc := cX3_at) (maxL := 4) (ret := (some .long)) (by decide) rfl (Nat.le_of_ble_eq_true rfl) ?_
  intro p e s m args below meth c A ls X hr hlk hK hA hP hD hS hl
  have X : CallFix p m c cX3_at 4 s args wsX3_at RX3 := X
  have hl : lv_has ls 4 [(0, .ref (a 0)), (1, .int p0), (2, .int p1), (3, .int p2)] := hl
  rw [f_X3_at] at h
  refine lv_aload_n X.1 X.2.1 dX3_at_0 rfl (lv_at hl 0 rfl) ?_
  refine gX3_table X (fun w h => (List.mem_cons_of_mem _ (List.mem_append_left _ (List.mem_append_right _ h)))) hK hP (List.mem_cons_of_mem _ (List.mem_append_left _ (List.mem_append_left _ (List.mem_append_left _ (List.mem_of_getElem? (i := 0) rfl))))) dX3_at_1 ?_
  refine lv_iload_n X.1 X.2.1 dX3_at_4 rfl (lv_at hl 1 rfl) ?_
  obtain ⟨r1, q2, h⟩ := bd_e h
  refine kc_v (As := [.int p0]) (rest := []) X (k_X1_hasRow p0 σ _ q2) (cwV 1 X.2.2.2.2 gX3_at_X1_hasRow rfl rfl rfl hd_X1_hasRow ⟨Nat.le_of_ble_eq_true rfl, Nat.le_of_ble_eq_true rfl⟩) hK hP hD hS hA (va_recv hK hP (ci := 1) (q0 := 2) rfl rfl) rfl hl.1 rfl (Nat.le_of_ble_eq_true rfl) dX3_at_5 ⟨Nat.le_of_ble_eq_true rfl, Nat.le_of_ble_eq_true rfl⟩ (fun H locs hP hD hS => ?_)
  refine lv_if_eq (tgt := 29) X.1 X.2.1 dX3_at_8 (by decide) (fun c3 => ?_) (fun c3 => ?_)
  · rw [if_pos c3] at h
    refine lv_lconst (v := (0 : Int64)) X.1 X.2.1 dX3_at_29 (by decide) ?_
    have h := sm_e h
    subst h
    exact rt_l X hr hlk hK hP hD hS dX3_at_30
  · rw [if_neg c3] at h
    refine lv_aload_n X.1 X.2.1 dX3_at_11 rfl (lv_at hl 0 rfl) ?_
    refine gX3_table X (fun w h => (List.mem_cons_of_mem _ (List.mem_append_left _ (List.mem_append_right _ h)))) hK hP (List.mem_cons_of_mem _ (List.mem_append_left _ (List.mem_append_left _ (List.mem_append_left _ (List.mem_of_getElem? (i := 0) rfl))))) dX3_at_12 ?_
    refine lv_iload_n X.1 X.2.1 dX3_at_15 rfl (lv_at hl 2 rfl) ?_
    obtain ⟨r4, q5, h⟩ := bd_e h
    refine kc_v (As := [.int p1]) (rest := []) X (k_X1_hasColumn p1 σ _ q5) (cwV 1 X.2.2.2.2 gX3_at_X1_hasColumn rfl rfl rfl hd_X1_hasColumn ⟨Nat.le_of_ble_eq_true rfl, Nat.le_of_ble_eq_true rfl⟩) hK hP hD hS hA (va_recv hK hP (ci := 1) (q0 := 2) rfl rfl) rfl hl.1 rfl (Nat.le_of_ble_eq_true rfl) dX3_at_16 ⟨Nat.le_of_ble_eq_true rfl, Nat.le_of_ble_eq_true rfl⟩ (fun H locs hP hD hS => ?_)
    refine lv_if_eq (tgt := 29) X.1 X.2.1 dX3_at_19 (by decide) (fun c6 => ?_) (fun c6 => ?_)
    · rw [if_pos c6] at h
      refine lv_lconst (v := (0 : Int64)) X.1 X.2.1 dX3_at_29 (by decide) ?_
      have h := sm_e h
      subst h
      exact rt_l X hr hlk hK hP hD hS dX3_at_30
    · rw [if_neg c6] at h
      refine lv_iload_n X.1 X.2.1 dX3_at_22 rfl (lv_at hl 3 rfl) ?_
      obtain ⟨r7, q8, h⟩ := bd_e h
      refine kc_s (As := [.int p2]) (rest := []) X (k_X3_isPart p2 _ q8) (va_cwS 1 X.2.2.2.2 gX3_at_X3_isPart rfl rfl rfl hd_X3_isPart ⟨Nat.le_of_ble_eq_true rfl, Nat.le_of_ble_eq_true rfl⟩) hK hP hS hA rfl hl.1 rfl (Nat.le_of_ble_eq_true rfl) dX3_at_23 ⟨Nat.le_of_ble_eq_true rfl, Nat.le_of_ble_eq_true rfl⟩ (fun H locs hP hS => ?_)
      refine lv_if_ne (tgt := 31) X.1 X.2.1 dX3_at_26 (by decide) (fun c9 => ?_) (fun c9 => ?_)
      · rw [if_neg c9] at h
        refine lv_aload_n X.1 X.2.1 dX3_at_31 rfl (lv_at hl 0 rfl) ?_
        refine gX3_table X (fun w h => (List.mem_cons_of_mem _ (List.mem_append_left _ (List.mem_append_right _ h)))) hK hP (List.mem_cons_of_mem _ (List.mem_append_left _ (List.mem_append_left _ (List.mem_append_left _ (List.mem_of_getElem? (i := 0) rfl))))) dX3_at_32 ?_
        refine gX1_cell X (fun w h => (List.mem_cons_of_mem _ (List.mem_append_right _ h))) hK hP (List.mem_cons_of_mem _ (List.mem_append_left _ (List.mem_append_left _ (List.mem_append_left _ (List.mem_of_getElem? (i := 1) rfl))))) dX3_at_35 ?_
        refine lv_iload_n X.1 X.2.1 dX3_at_38 rfl (lv_at hl 1 rfl) ?_
        obtain ⟨g10, h⟩ := gd_e h
        refine lc_cell X hK hP g10 dX3_at_39 ?_
        refine lv_iload_n X.1 X.2.1 dX3_at_40 rfl (lv_at hl 2 rfl) ?_
        obtain ⟨g11, h⟩ := gd_e h
        obtain ⟨g12, h⟩ := gd_e h
        refine lc_row X hK hP g11 g12 dX3_at_41 ?_
        refine lv_aload_n X.1 X.2.1 dX3_at_42 rfl (lv_at hl 0 rfl) ?_
        refine gX3_table X (fun w h => (List.mem_cons_of_mem _ (List.mem_append_left _ (List.mem_append_right _ h)))) hK hP (List.mem_cons_of_mem _ (List.mem_append_left _ (List.mem_append_left _ (List.mem_append_left _ (List.mem_of_getElem? (i := 0) rfl))))) dX3_at_43 ?_
        refine gX1_scale X (fun w h => (List.mem_cons_of_mem _ (List.mem_append_right _ h))) hK hP (List.mem_cons_of_mem _ (List.mem_append_left _ (List.mem_append_left _ (List.mem_append_left _ (List.mem_of_getElem? (i := 2) rfl))))) dX3_at_46 ?_
        refine lv_iload_n X.1 X.2.1 dX3_at_49 rfl (lv_at hl 3 rfl) ?_
        obtain ⟨r13, q14, h⟩ := bd_e h
        refine kc_s (As := [.long (c_gg σ p0.toNatClampNeg p1.toNatClampNeg), .long (c_sc σ), .int p2]) (rest := []) X (k_X2_part N (c_gg σ p0.toNatClampNeg p1.toNatClampNeg) (c_sc σ) p2 _ q14) (va_cwS 3 X.2.2.2.2 gX3_at_X2_part rfl rfl rfl hd_X2_part ⟨Nat.le_of_ble_eq_true rfl, Nat.le_of_ble_eq_true rfl⟩) hK hP hS hA rfl hl.1 rfl (Nat.le_of_ble_eq_true rfl) dX3_at_50 ⟨Nat.le_of_ble_eq_true rfl, Nat.le_of_ble_eq_true rfl⟩ (fun H locs hP hS => ?_)
        have h := sm_e h
        subst h
        exact rt_l X hr hlk hK hP hD hS dX3_at_53
      · rw [if_pos c9] at h
        refine lv_lconst (v := (0 : Int64)) X.1 X.2.1 dX3_at_29 (by decide) ?_
        have h := sm_e h
        subst h
        exact rt_l X hr hlk hK hP hD hS dX3_at_30
def f_X3_isDone (σ : CS) : Option Int32 := if (c_sa σ) = (1 : Int32) then some (1 : Int32) else some (0 : Int32)
theorem hd_X3_isDone : yX3_isDone.cls = RX3 ∧ yX3_isDone.cls ≠ "java/lang/invoke/MethodHandle" ∧ yX3_isDone.cls ≠ "java/lang/invoke/VarHandle" ∧ (parseMethodDescriptor yX3_isDone.desc).map (fun d => d.parameters.length) = some 0 := by decide +kernel
set_option maxHeartbeats 4000000 in
set_option maxRecDepth 100000 in
theorem k_X3_isDone {l : Launch} {D : va_G} {k : Nat → ClassId} {a : Nat → Nat} {ρ : Nat → Nat}  (σ : CS) (R : Int32) (h : f_X3_isDone σ = some R) : Ct l yX3_isDone wsX3_isDone ({ frames := 0, cells := 0, slots := 0, locals := 0 } : Room) D (cT k) (cW k a ρ σ) (cW k a ρ σ) [.ref (a 0)] (some (.int R)) := by
  refine ct_of (cc := cX3_isDone) (maxL := 1) (ret := (some .boolean)) (by decide) rfl (Nat.le_of_ble_eq_true rfl) ?_
  intro p e s m args below meth c A ls X hr hlk hK hA hP hD hS hl
  have X : CallFix p m c cX3_isDone 1 s args wsX3_isDone RX3 := X
  have hl : lv_has ls 1 [(0, .ref (a 0))] := hl
  rw [f_X3_isDone] at h
  refine lv_aload_n X.1 X.2.1 dX3_isDone_0 rfl (lv_at hl 0 rfl) ?_
  refine gX3_table X (fun w h => (List.mem_cons_of_mem _ (List.mem_append_left _ (List.mem_append_right _ h)))) hK hP (List.mem_cons_of_mem _ (List.mem_append_left _ (List.mem_append_left _ (List.mem_of_getElem? (i := 0) rfl)))) dX3_isDone_1 ?_
  refine gX1_state X (fun w h => (List.mem_cons_of_mem _ (List.mem_append_right _ h))) hK hP (List.mem_cons_of_mem _ (List.mem_append_left _ (List.mem_append_left _ (List.mem_of_getElem? (i := 1) rfl)))) dX3_isDone_4 ?_
  refine lv_iconst (v := (1 : Int32)) X.1 X.2.1 dX3_isDone_7 (by decide) ?_
  refine lv_icmp_ne (tgt := 15) X.1 X.2.1 dX3_isDone_8 (by decide) (fun c1 => ?_) (fun c1 => ?_)
  · rw [if_neg c1] at h
    refine lv_iconst (v := (0 : Int32)) X.1 X.2.1 dX3_isDone_15 (by decide) ?_
    have h := sm_e h
    subst h
    exact rt_z X hr hlk rfl hK hP hD hS dX3_isDone_16
  · rw [if_pos c1] at h
    refine lv_iconst (v := (1 : Int32)) X.1 X.2.1 dX3_isDone_11 (by decide) ?_
    refine lv_goto (tgt := 16) X.1 X.2.1 dX3_isDone_12 (by decide) ?_
    have h := sm_e h
    subst h
    exact rt_z X hr hlk rfl hK hP hD hS dX3_isDone_16
def f_X3_share (N : Nat) (p0 : Int32) (σ : CS) : Option Int64 := (f_X1_shareOfZ N p0 σ).bind (fun r1 => some r1)
theorem hd_X3_share : yX3_share.cls = RX3 ∧ yX3_share.cls ≠ "java/lang/invoke/MethodHandle" ∧ yX3_share.cls ≠ "java/lang/invoke/VarHandle" ∧ (parseMethodDescriptor yX3_share.desc).map (fun d => d.parameters.length) = some 1 := by decide +kernel
set_option maxHeartbeats 4000000 in
set_option maxRecDepth 100000 in
theorem k_X3_share {l : Launch} {D : va_G} {k : Nat → ClassId} {a : Nat → Nat} {ρ : Nat → Nat} (N : Nat) (p0 : Int32) (σ : CS) (R : Int64) (h : f_X3_share N p0 σ = some R) : Ct l yX3_share wsX3_share ({ frames := 2, cells := 0, slots := 0, locals := 42 } : Room) D (cT k) (cW k a ρ σ) (cW k a ρ σ) [.ref (a 0), .int p0] (some (.long R)) := by
  refine ct_of (cc := cX3_share) (maxL := 2) (ret := (some .long)) (by decide) rfl (Nat.le_of_ble_eq_true rfl) ?_
  intro p e s m args below meth c A ls X hr hlk hK hA hP hD hS hl
  have X : CallFix p m c cX3_share 2 s args wsX3_share RX3 := X
  have hl : lv_has ls 2 [(0, .ref (a 0)), (1, .int p0)] := hl
  rw [f_X3_share] at h
  refine lv_aload_n X.1 X.2.1 dX3_share_0 rfl (lv_at hl 0 rfl) ?_
  refine gX3_table X (fun w h => (List.mem_cons_of_mem _ (List.mem_append_left _ (List.mem_append_right _ h)))) hK hP (List.mem_cons_of_mem _ (List.mem_append_left _ (List.mem_append_left _ (List.mem_of_getElem? (i := 0) rfl)))) dX3_share_1 ?_
  refine lv_iload_n X.1 X.2.1 dX3_share_4 rfl (lv_at hl 1 rfl) ?_
  obtain ⟨r1, q2, h⟩ := bd_e h
  refine kc_v (As := [.int p0]) (rest := []) X (k_X1_shareOfZ N p0 σ _ q2) (cwV 1 X.2.2.2.2 gX3_share_X1_shareOfZ rfl rfl rfl hd_X1_shareOfZ ⟨Nat.le_of_ble_eq_true rfl, Nat.le_of_ble_eq_true rfl⟩) hK hP hD hS hA (va_recv hK hP (ci := 1) (q0 := 2) rfl rfl) rfl hl.1 rfl (Nat.le_of_ble_eq_true rfl) dX3_share_5 ⟨Nat.le_of_ble_eq_true rfl, Nat.le_of_ble_eq_true rfl⟩ (fun H locs hP hD hS => ?_)
  have h := sm_e h
  subst h
  exact rt_l X hr hlk hK hP hD hS dX3_share_8
def f_X3_shareBase (σ : CS) : Option Int64 := some ((c_sc σ) * ((c_bB σ).toInt64))
theorem hd_X3_shareBase : yX3_shareBase.cls = RX3 ∧ yX3_shareBase.cls ≠ "java/lang/invoke/MethodHandle" ∧ yX3_shareBase.cls ≠ "java/lang/invoke/VarHandle" ∧ (parseMethodDescriptor yX3_shareBase.desc).map (fun d => d.parameters.length) = some 0 := by decide +kernel
set_option maxHeartbeats 4000000 in
set_option maxRecDepth 100000 in
theorem k_X3_shareBase {l : Launch} {D : va_G} {k : Nat → ClassId} {a : Nat → Nat} {ρ : Nat → Nat}  (σ : CS) (R : Int64) (h : f_X3_shareBase σ = some R) : Ct l yX3_shareBase wsX3_shareBase ({ frames := 0, cells := 0, slots := 0, locals := 0 } : Room) D (cT k) (cW k a ρ σ) (cW k a ρ σ) [.ref (a 0)] (some (.long R)) := by
  refine ct_of (cc := cX3_shareBase) (maxL := 1) (ret := (some .long)) (by decide) rfl (Nat.le_of_ble_eq_true rfl) ?_
  intro p e s m args below meth c A ls X hr hlk hK hA hP hD hS hl
  have X : CallFix p m c cX3_shareBase 1 s args wsX3_shareBase RX3 := X
  have hl : lv_has ls 1 [(0, .ref (a 0))] := hl
  rw [f_X3_shareBase] at h
  refine lv_aload_n X.1 X.2.1 dX3_shareBase_0 rfl (lv_at hl 0 rfl) ?_
  refine gX3_table X (fun w h => (List.mem_cons_of_mem _ (List.mem_append_left _ (List.mem_append_right _ h)))) hK hP (List.mem_cons_of_mem _ (List.mem_append_left _ (List.mem_append_left _ (List.mem_of_getElem? (i := 0) rfl)))) dX3_shareBase_1 ?_
  refine gX1_scale X (fun w h => (List.mem_cons_of_mem _ (List.mem_append_right _ h))) hK hP (List.mem_cons_of_mem _ (List.mem_append_left _ (List.mem_append_left _ (List.mem_of_getElem? (i := 1) rfl)))) dX3_shareBase_4 ?_
  refine lv_aload_n X.1 X.2.1 dX3_shareBase_7 rfl (lv_at hl 0 rfl) ?_
  refine gX3_boxBelow X (fun w h => (List.mem_cons_of_mem _ (List.mem_append_left _ (List.mem_append_right _ h)))) hK hP (List.mem_cons_of_mem _ (List.mem_append_left _ (List.mem_append_left _ (List.mem_of_getElem? (i := 2) rfl)))) dX3_shareBase_8 ?_
  refine lv_i2l (v := (c_bB σ).toInt64) X.1 X.2.1 dX3_shareBase_11 rfl ?_
  refine lv_lmul X.1 X.2.1 dX3_shareBase_12 ?_
  have h := sm_e h
  subst h
  exact rt_l X hr hlk hK hP hD hS dX3_shareBase_13
def f_X3_multiplier (N : Nat) (p0 : Int32) (p1 : Int32) (σ : CS) : Option Int64 := (f_X3_isDone σ).bind (fun r1 => if r1 = 0 then some (0 : Int64) else (f_X0_has p0 σ).bind (fun r4 => if r4 = 0 then some (0 : Int64) else (f_X3_isPart p1 ).bind (fun r7 => if r7 = 0 then some (0 : Int64) else (f_X3_share N p0 σ).bind (fun r10 => (f_X3_shareBase σ).bind (fun r12 => (f_X2_part N r10 r12 p1 ).bind (fun r14 => some r14))))))
theorem hd_X3_multiplier : yX3_multiplier.cls = RX3 ∧ yX3_multiplier.cls ≠ "java/lang/invoke/MethodHandle" ∧ yX3_multiplier.cls ≠ "java/lang/invoke/VarHandle" ∧ (parseMethodDescriptor yX3_multiplier.desc).map (fun d => d.parameters.length) = some 2 := by decide +kernel
set_option maxHeartbeats 4000000 in
set_option maxRecDepth 100000 in
theorem k_X3_multiplier {l : Launch} {D : va_G} {k : Nat → ClassId} {a : Nat → Nat} {ρ : Nat → Nat} (N : Nat) (p0 : Int32) (p1 : Int32) (σ : CS) (R : Int64) (h : f_X3_multiplier N p0 p1 σ = some R) : Ct l yX3_multiplier wsX3_multiplier ({ frames := 3, cells := 0, slots := 0, locals := 63 } : Room) D (cT k) (cW k a ρ σ) (cW k a ρ σ) [.ref (a 0), .int p0, .int p1] (some (.long R)) := by
  refine ct_of (cc := cX3_multiplier) (maxL := 3) (ret := (some .long)) (by decide) rfl (Nat.le_of_ble_eq_true rfl) ?_
  intro p e s m args below meth c A ls X hr hlk hK hA hP hD hS hl
  have X : CallFix p m c cX3_multiplier 3 s args wsX3_multiplier RX3 := X
  have hl : lv_has ls 3 [(0, .ref (a 0)), (1, .int p0), (2, .int p1)] := hl
  rw [f_X3_multiplier] at h
  refine lv_aload_n X.1 X.2.1 dX3_multiplier_0 rfl (lv_at hl 0 rfl) ?_
  obtain ⟨r1, q2, h⟩ := bd_e h
  refine kc_v (As := []) (rest := []) X (k_X3_isDone σ _ q2) (cwV 0 X.2.2.2.2 gX3_multiplier_X3_isDone rfl rfl rfl hd_X3_isDone ⟨Nat.le_of_ble_eq_true rfl, Nat.le_of_ble_eq_true rfl⟩) hK hP hD hS hA (va_recv hK hP (ci := 2) (q0 := 0) rfl rfl) rfl hl.1 rfl (Nat.le_of_ble_eq_true rfl) dX3_multiplier_1 ⟨Nat.le_of_ble_eq_true rfl, Nat.le_of_ble_eq_true rfl⟩ (fun H locs hP hD hS => ?_)
  refine lv_if_eq (tgt := 25) X.1 X.2.1 dX3_multiplier_4 (by decide) (fun c3 => ?_) (fun c3 => ?_)
  · rw [if_pos c3] at h
    refine lv_lconst (v := (0 : Int64)) X.1 X.2.1 dX3_multiplier_25 (by decide) ?_
    have h := sm_e h
    subst h
    exact rt_l X hr hlk hK hP hD hS dX3_multiplier_26
  · rw [if_neg c3] at h
    refine lv_aload_n X.1 X.2.1 dX3_multiplier_7 rfl (lv_at hl 0 rfl) ?_
    refine gX3_points X (fun w h => (List.mem_cons_of_mem _ (List.mem_append_left _ (List.mem_append_left _ (List.mem_append_right _ h))))) hK hP (List.mem_cons_of_mem _ (List.mem_append_left _ (List.mem_append_left _ (List.mem_append_left _ (List.mem_append_left _ (List.mem_of_getElem? (i := 0) rfl)))))) dX3_multiplier_8 ?_
    refine lv_iload_n X.1 X.2.1 dX3_multiplier_11 rfl (lv_at hl 1 rfl) ?_
    obtain ⟨r4, q5, h⟩ := bd_e h
    refine kc_v (As := [.int p0]) (rest := []) X (k_X0_has p0 σ _ q5) (cwV 1 X.2.2.2.2 gX3_multiplier_X0_has rfl rfl rfl hd_X0_has ⟨Nat.le_of_ble_eq_true rfl, Nat.le_of_ble_eq_true rfl⟩) hK hP hD hS hA (va_recv hK hP (ci := 0) (q0 := 1) rfl rfl) rfl hl.1 rfl (Nat.le_of_ble_eq_true rfl) dX3_multiplier_12 ⟨Nat.le_of_ble_eq_true rfl, Nat.le_of_ble_eq_true rfl⟩ (fun H locs hP hD hS => ?_)
    refine lv_if_eq (tgt := 25) X.1 X.2.1 dX3_multiplier_15 (by decide) (fun c6 => ?_) (fun c6 => ?_)
    · rw [if_pos c6] at h
      refine lv_lconst (v := (0 : Int64)) X.1 X.2.1 dX3_multiplier_25 (by decide) ?_
      have h := sm_e h
      subst h
      exact rt_l X hr hlk hK hP hD hS dX3_multiplier_26
    · rw [if_neg c6] at h
      refine lv_iload_n X.1 X.2.1 dX3_multiplier_18 rfl (lv_at hl 2 rfl) ?_
      obtain ⟨r7, q8, h⟩ := bd_e h
      refine kc_s (As := [.int p1]) (rest := []) X (k_X3_isPart p1 _ q8) (va_cwS 1 X.2.2.2.2 gX3_multiplier_X3_isPart rfl rfl rfl hd_X3_isPart ⟨Nat.le_of_ble_eq_true rfl, Nat.le_of_ble_eq_true rfl⟩) hK hP hS hA rfl hl.1 rfl (Nat.le_of_ble_eq_true rfl) dX3_multiplier_19 ⟨Nat.le_of_ble_eq_true rfl, Nat.le_of_ble_eq_true rfl⟩ (fun H locs hP hS => ?_)
      refine lv_if_ne (tgt := 27) X.1 X.2.1 dX3_multiplier_22 (by decide) (fun c9 => ?_) (fun c9 => ?_)
      · rw [if_neg c9] at h
        refine lv_aload_n X.1 X.2.1 dX3_multiplier_27 rfl (lv_at hl 0 rfl) ?_
        refine lv_iload_n X.1 X.2.1 dX3_multiplier_28 rfl (lv_at hl 1 rfl) ?_
        obtain ⟨r10, q11, h⟩ := bd_e h
        refine kc_v (As := [.int p0]) (rest := []) X (k_X3_share N p0 σ _ q11) (cwV 1 X.2.2.2.2 gX3_multiplier_X3_share rfl rfl rfl hd_X3_share ⟨Nat.le_of_ble_eq_true rfl, Nat.le_of_ble_eq_true rfl⟩) hK hP hD hS hA (va_recv hK hP (ci := 2) (q0 := 0) rfl rfl) rfl hl.1 rfl (Nat.le_of_ble_eq_true rfl) dX3_multiplier_29 ⟨Nat.le_of_ble_eq_true rfl, Nat.le_of_ble_eq_true rfl⟩ (fun H locs hP hD hS => ?_)
        refine lv_aload_n X.1 X.2.1 dX3_multiplier_32 rfl (lv_at hl 0 rfl) ?_
        obtain ⟨r12, q13, h⟩ := bd_e h
        refine kc_v (As := []) (rest := [.long r10]) X (k_X3_shareBase σ _ q13) (cwV 0 X.2.2.2.2 gX3_multiplier_X3_shareBase rfl rfl rfl hd_X3_shareBase ⟨Nat.le_of_ble_eq_true rfl, Nat.le_of_ble_eq_true rfl⟩) hK hP hD hS hA (va_recv hK hP (ci := 2) (q0 := 0) rfl rfl) rfl hl.1 rfl (Nat.le_of_ble_eq_true rfl) dX3_multiplier_33 ⟨Nat.le_of_ble_eq_true rfl, Nat.le_of_ble_eq_true rfl⟩ (fun H locs hP hD hS => ?_)
        refine lv_iload_n X.1 X.2.1 dX3_multiplier_36 rfl (lv_at hl 2 rfl) ?_
        obtain ⟨r14, q15, h⟩ := bd_e h
        refine kc_s (As := [.long r10, .long r12, .int p1]) (rest := []) X (k_X2_part N r10 r12 p1 _ q15) (va_cwS 3 X.2.2.2.2 gX3_multiplier_X2_part rfl rfl rfl hd_X2_part ⟨Nat.le_of_ble_eq_true rfl, Nat.le_of_ble_eq_true rfl⟩) hK hP hS hA rfl hl.1 rfl (Nat.le_of_ble_eq_true rfl) dX3_multiplier_37 ⟨Nat.le_of_ble_eq_true rfl, Nat.le_of_ble_eq_true rfl⟩ (fun H locs hP hS => ?_)
        have h := sm_e h
        subst h
        exact rt_l X hr hlk hK hP hD hS dX3_multiplier_40
      · rw [if_pos c9] at h
        refine lv_lconst (v := (0 : Int64)) X.1 X.2.1 dX3_multiplier_25 (by decide) ?_
        have h := sm_e h
        subst h
        exact rt_l X hr hlk hK hP hD hS dX3_multiplier_26
def f_X3_fullShare (σ : CS) : Option Int64 := some ((c_sc σ) * ((c_bA σ).toInt64))
theorem hd_X3_fullShare : yX3_fullShare.cls = RX3 ∧ yX3_fullShare.cls ≠ "java/lang/invoke/MethodHandle" ∧ yX3_fullShare.cls ≠ "java/lang/invoke/VarHandle" ∧ (parseMethodDescriptor yX3_fullShare.desc).map (fun d => d.parameters.length) = some 0 := by decide +kernel
set_option maxHeartbeats 4000000 in
set_option maxRecDepth 100000 in
theorem k_X3_fullShare {l : Launch} {D : va_G} {k : Nat → ClassId} {a : Nat → Nat} {ρ : Nat → Nat}  (σ : CS) (R : Int64) (h : f_X3_fullShare σ = some R) : Ct l yX3_fullShare wsX3_fullShare ({ frames := 0, cells := 0, slots := 0, locals := 0 } : Room) D (cT k) (cW k a ρ σ) (cW k a ρ σ) [.ref (a 0)] (some (.long R)) := by
  refine ct_of (cc := cX3_fullShare) (maxL := 1) (ret := (some .long)) (by decide) rfl (Nat.le_of_ble_eq_true rfl) ?_
  intro p e s m args below meth c A ls X hr hlk hK hA hP hD hS hl
  have X : CallFix p m c cX3_fullShare 1 s args wsX3_fullShare RX3 := X
  have hl : lv_has ls 1 [(0, .ref (a 0))] := hl
  rw [f_X3_fullShare] at h
  refine lv_aload_n X.1 X.2.1 dX3_fullShare_0 rfl (lv_at hl 0 rfl) ?_
  refine gX3_table X (fun w h => (List.mem_cons_of_mem _ (List.mem_append_left _ (List.mem_append_right _ h)))) hK hP (List.mem_cons_of_mem _ (List.mem_append_left _ (List.mem_append_left _ (List.mem_of_getElem? (i := 0) rfl)))) dX3_fullShare_1 ?_
  refine gX1_scale X (fun w h => (List.mem_cons_of_mem _ (List.mem_append_right _ h))) hK hP (List.mem_cons_of_mem _ (List.mem_append_left _ (List.mem_append_left _ (List.mem_of_getElem? (i := 1) rfl)))) dX3_fullShare_4 ?_
  refine lv_aload_n X.1 X.2.1 dX3_fullShare_7 rfl (lv_at hl 0 rfl) ?_
  refine gX3_boxAbove X (fun w h => (List.mem_cons_of_mem _ (List.mem_append_left _ (List.mem_append_right _ h)))) hK hP (List.mem_cons_of_mem _ (List.mem_append_left _ (List.mem_append_left _ (List.mem_of_getElem? (i := 2) rfl)))) dX3_fullShare_8 ?_
  refine lv_i2l (v := (c_bA σ).toInt64) X.1 X.2.1 dX3_fullShare_11 rfl ?_
  refine lv_lmul X.1 X.2.1 dX3_fullShare_12 ?_
  have h := sm_e h
  subst h
  exact rt_l X hr hlk hK hP hD hS dX3_fullShare_13
def f_X3_placeInBox (N : Nat) (p0 : Int32) (σ : CS) : Option Int32 := (f_X3_share N p0 σ).bind (fun r1 => if (lg_cmp r1 (0 : Int64)) = 0 then some (0 : Int32) else (f_X3_fullShare σ).bind (fun r4 => if (lg_cmp r1 r4) = 0 then some (2 : Int32) else some (1 : Int32)))
theorem hd_X3_placeInBox : yX3_placeInBox.cls = RX3 ∧ yX3_placeInBox.cls ≠ "java/lang/invoke/MethodHandle" ∧ yX3_placeInBox.cls ≠ "java/lang/invoke/VarHandle" ∧ (parseMethodDescriptor yX3_placeInBox.desc).map (fun d => d.parameters.length) = some 1 := by decide +kernel
set_option maxHeartbeats 4000000 in
set_option maxRecDepth 100000 in
theorem k_X3_placeInBox {l : Launch} {D : va_G} {k : Nat → ClassId} {a : Nat → Nat} {ρ : Nat → Nat} (N : Nat) (p0 : Int32) (σ : CS) (R : Int32) (h : f_X3_placeInBox N p0 σ = some R) : Ct l yX3_placeInBox wsX3_placeInBox ({ frames := 3, cells := 0, slots := 0, locals := 63 } : Room) D (cT k) (cW k a ρ σ) (cW k a ρ σ) [.ref (a 0), .int p0] (some (.int R)) := by
  refine ct_of (cc := cX3_placeInBox) (maxL := 4) (ret := (some .int)) (by decide) rfl (Nat.le_of_ble_eq_true rfl) ?_
  intro p e s m args below meth c A ls X hr hlk hK hA hP hD hS hl
  have X : CallFix p m c cX3_placeInBox 4 s args wsX3_placeInBox RX3 := X
  have hl : lv_has ls 4 [(0, .ref (a 0)), (1, .int p0)] := hl
  rw [f_X3_placeInBox] at h
  refine lv_aload_n X.1 X.2.1 dX3_placeInBox_0 rfl (lv_at hl 0 rfl) ?_
  refine lv_iload_n X.1 X.2.1 dX3_placeInBox_1 rfl (lv_at hl 1 rfl) ?_
  obtain ⟨r1, q2, h⟩ := bd_e h
  refine kc_v (As := [.int p0]) (rest := []) X (k_X3_share N p0 σ _ q2) (cwV 1 X.2.2.2.2 gX3_placeInBox_X3_share rfl rfl rfl hd_X3_share ⟨Nat.le_of_ble_eq_true rfl, Nat.le_of_ble_eq_true rfl⟩) hK hP hD hS hA (va_recv hK hP (ci := 2) (q0 := 0) rfl rfl) rfl hl.1 rfl (Nat.le_of_ble_eq_true rfl) dX3_placeInBox_2 ⟨Nat.le_of_ble_eq_true rfl, Nat.le_of_ble_eq_true rfl⟩ (fun H locs hP hD hS => ?_)
  refine lv_lstore_n (lv' := [(2, .long r1), (0, .ref (a 0)), (1, .int p0)]) X.1 X.2.1 dX3_placeInBox_5 rfl hl (by decide) rfl (fun ls hl => ?_)
  refine lv_lload_n X.1 X.2.1 dX3_placeInBox_6 rfl (lv_at hl 0 rfl) ?_
  refine lv_lconst (v := (0 : Int64)) X.1 X.2.1 dX3_placeInBox_7 (by decide) ?_
  refine W.lcmp X.1 X.2.1 dX3_placeInBox_8 ?_
  refine lv_if_ne (tgt := 14) X.1 X.2.1 dX3_placeInBox_9 (by decide) (fun c3 => ?_) (fun c3 => ?_)
  · rw [if_neg c3] at h
    refine lv_lload_n X.1 X.2.1 dX3_placeInBox_14 rfl (lv_at hl 0 rfl) ?_
    refine lv_aload_n X.1 X.2.1 dX3_placeInBox_15 rfl (lv_at hl 1 rfl) ?_
    obtain ⟨r4, q5, h⟩ := bd_e h
    refine kc_v (As := []) (rest := [.long r1]) X (k_X3_fullShare σ _ q5) (cwV 0 X.2.2.2.2 gX3_placeInBox_X3_fullShare rfl rfl rfl hd_X3_fullShare ⟨Nat.le_of_ble_eq_true rfl, Nat.le_of_ble_eq_true rfl⟩) hK hP hD hS hA (va_recv hK hP (ci := 2) (q0 := 0) rfl rfl) rfl hl.1 rfl (Nat.le_of_ble_eq_true rfl) dX3_placeInBox_16 ⟨Nat.le_of_ble_eq_true rfl, Nat.le_of_ble_eq_true rfl⟩ (fun H locs hP hD hS => ?_)
    refine W.lcmp X.1 X.2.1 dX3_placeInBox_19 ?_
    refine lv_if_ne (tgt := 27) X.1 X.2.1 dX3_placeInBox_20 (by decide) (fun c6 => ?_) (fun c6 => ?_)
    · rw [if_neg c6] at h
      refine lv_iconst (v := (1 : Int32)) X.1 X.2.1 dX3_placeInBox_27 (by decide) ?_
      have h := sm_e h
      subst h
      exact rt_i X hr hlk hK hP hD hS dX3_placeInBox_28
    · rw [if_pos c6] at h
      refine lv_iconst (v := (2 : Int32)) X.1 X.2.1 dX3_placeInBox_23 (by decide) ?_
      refine lv_goto (tgt := 28) X.1 X.2.1 dX3_placeInBox_24 (by decide) ?_
      have h := sm_e h
      subst h
      exact rt_i X hr hlk hK hP hD hS dX3_placeInBox_28
  · rw [if_pos c3] at h
    refine lv_iconst (v := (0 : Int32)) X.1 X.2.1 dX3_placeInBox_12 (by decide) ?_
    have h := sm_e h
    subst h
    exact rt_i X hr hlk hK hP hD hS dX3_placeInBox_13
def f_X3_lies (N : Nat) (p0 : Int32) (σ : CS) : Option Int32 := (f_X0_has p0 σ).bind (fun r1 => if r1 = 0 then some (-2 : Int32) else (f_X3_isDone σ).bind (fun r4 => if r4 = 0 then some (-1 : Int32) else (f_X3_placeInBox N p0 σ).bind (fun r7 => some r7)))
theorem hd_X3_lies : yX3_lies.cls = RX3 ∧ yX3_lies.cls ≠ "java/lang/invoke/MethodHandle" ∧ yX3_lies.cls ≠ "java/lang/invoke/VarHandle" ∧ (parseMethodDescriptor yX3_lies.desc).map (fun d => d.parameters.length) = some 1 := by decide +kernel
set_option maxHeartbeats 4000000 in
set_option maxRecDepth 100000 in
theorem k_X3_lies {l : Launch} {D : va_G} {k : Nat → ClassId} {a : Nat → Nat} {ρ : Nat → Nat} (N : Nat) (p0 : Int32) (σ : CS) (R : Int32) (h : f_X3_lies N p0 σ = some R) : Ct l yX3_lies wsX3_lies ({ frames := 4, cells := 0, slots := 0, locals := 86 } : Room) D (cT k) (cW k a ρ σ) (cW k a ρ σ) [.ref (a 0), .int p0] (some (.int R)) := by
  refine ct_of (cc := cX3_lies) (maxL := 2) (ret := (some .int)) (by decide) rfl (Nat.le_of_ble_eq_true rfl) ?_
  intro p e s m args below meth c A ls X hr hlk hK hA hP hD hS hl
  have X : CallFix p m c cX3_lies 2 s args wsX3_lies RX3 := X
  have hl : lv_has ls 2 [(0, .ref (a 0)), (1, .int p0)] := hl
  rw [f_X3_lies] at h
  refine lv_aload_n X.1 X.2.1 dX3_lies_0 rfl (lv_at hl 0 rfl) ?_
  refine gX3_points X (fun w h => (List.mem_cons_of_mem _ (List.mem_append_left _ (List.mem_append_left _ (List.mem_append_right _ h))))) hK hP (List.mem_cons_of_mem _ (List.mem_append_left _ (List.mem_append_left _ (List.mem_append_left _ (List.mem_append_left _ (List.mem_of_getElem? (i := 0) rfl)))))) dX3_lies_1 ?_
  refine lv_iload_n X.1 X.2.1 dX3_lies_4 rfl (lv_at hl 1 rfl) ?_
  obtain ⟨r1, q2, h⟩ := bd_e h
  refine kc_v (As := [.int p0]) (rest := []) X (k_X0_has p0 σ _ q2) (cwV 1 X.2.2.2.2 gX3_lies_X0_has rfl rfl rfl hd_X0_has ⟨Nat.le_of_ble_eq_true rfl, Nat.le_of_ble_eq_true rfl⟩) hK hP hD hS hA (va_recv hK hP (ci := 0) (q0 := 1) rfl rfl) rfl hl.1 rfl (Nat.le_of_ble_eq_true rfl) dX3_lies_5 ⟨Nat.le_of_ble_eq_true rfl, Nat.le_of_ble_eq_true rfl⟩ (fun H locs hP hD hS => ?_)
  refine lv_if_ne (tgt := 14) X.1 X.2.1 dX3_lies_8 (by decide) (fun c3 => ?_) (fun c3 => ?_)
  · rw [if_neg c3] at h
    refine lv_aload_n X.1 X.2.1 dX3_lies_14 rfl (lv_at hl 0 rfl) ?_
    obtain ⟨r4, q5, h⟩ := bd_e h
    refine kc_v (As := []) (rest := []) X (k_X3_isDone σ _ q5) (cwV 0 X.2.2.2.2 gX3_lies_X3_isDone rfl rfl rfl hd_X3_isDone ⟨Nat.le_of_ble_eq_true rfl, Nat.le_of_ble_eq_true rfl⟩) hK hP hD hS hA (va_recv hK hP (ci := 2) (q0 := 0) rfl rfl) rfl hl.1 rfl (Nat.le_of_ble_eq_true rfl) dX3_lies_15 ⟨Nat.le_of_ble_eq_true rfl, Nat.le_of_ble_eq_true rfl⟩ (fun H locs hP hD hS => ?_)
    refine lv_if_eq (tgt := 29) X.1 X.2.1 dX3_lies_18 (by decide) (fun c6 => ?_) (fun c6 => ?_)
    · rw [if_pos c6] at h
      refine lv_iconst (v := (-1 : Int32)) X.1 X.2.1 dX3_lies_29 (by decide) ?_
      have h := sm_e h
      subst h
      exact rt_i X hr hlk hK hP hD hS dX3_lies_30
    · rw [if_neg c6] at h
      refine lv_aload_n X.1 X.2.1 dX3_lies_21 rfl (lv_at hl 0 rfl) ?_
      refine lv_iload_n X.1 X.2.1 dX3_lies_22 rfl (lv_at hl 1 rfl) ?_
      obtain ⟨r7, q8, h⟩ := bd_e h
      refine kc_v (As := [.int p0]) (rest := []) X (k_X3_placeInBox N p0 σ _ q8) (cwV 1 X.2.2.2.2 gX3_lies_X3_placeInBox rfl rfl rfl hd_X3_placeInBox ⟨Nat.le_of_ble_eq_true rfl, Nat.le_of_ble_eq_true rfl⟩) hK hP hD hS hA (va_recv hK hP (ci := 2) (q0 := 0) rfl rfl) rfl hl.1 rfl (Nat.le_of_ble_eq_true rfl) dX3_lies_23 ⟨Nat.le_of_ble_eq_true rfl, Nat.le_of_ble_eq_true rfl⟩ (fun H locs hP hD hS => ?_)
      refine lv_goto (tgt := 30) X.1 X.2.1 dX3_lies_26 (by decide) ?_
      have h := sm_e h
      subst h
      exact rt_i X hr hlk hK hP hD hS dX3_lies_30
  · rw [if_pos c3] at h
    refine lv_bipush (v := (-2 : Int32)) X.1 X.2.1 dX3_lies_11 (by decide) ?_
    have h := sm_e h
    subst h
    exact rt_i X hr hlk hK hP hD hS dX3_lies_13
def f_X3_slopeShare_L8 (N : Nat) : Nat → Int32 → Int64 → Int32 → CS → Option Int64
  | 0, _, _, _, _ => none
  | n + 1, v1, v2, v4, σ => if (c_sz σ) ≤ v4 then some v2 else (f_X0_product v1 v4 σ).bind (fun r2 => (f_X3_share N v4 σ).bind (fun r4 => lt_ (v2 - ((r2.toInt64) * r4)) (fun x6 => lt_ (v4 + (1 : Int32)) (fun x8 => f_X3_slopeShare_L8 N n v1 x6 x8 σ))))
set_option maxHeartbeats 4000000 in
set_option maxRecDepth 100000 in
theorem t_X3_slopeShare_L8 {p : Program} {l : Launch} {e : Env} {s : State} {m : MethodId} {args : Array Value} {below : List Frame} {meth : Method} {c : Code} {D : va_G} {A : Nat → Prop} {k : Nat → ClassId} {a : Nat → Nat} {ρ : Nat → Nat} (X : CallFix p m c cX3_slopeShare 5 s args wsX3_slopeShare RX3) (hr : meth.sig.returnType = some .long) (hlk : meth.locks = false) (hK : va_K D vwCl (cT k) s) (hA : ∀ q : Nat, s.heap.size ≤ q → A q) (N : Nat) : ∀ (n : Nat) (v1 : Int32) (v2 : Int64) (v4 : Int32) (σ : CS) (R : Int64), f_X3_slopeShare_L8 N n v1 v2 v4 σ = some R → ∀ (H : Heap) (locs : List Loc) (ls : Array Slot), va_P D vwCl (cW k a ρ σ) H → va_D A (cW k a ρ σ) → va_S A s.heap H locs → lv_has ls 5 [(0, .ref (a 0)), (1, .int v1), (2, .long v2), (4, .int v4)] → W p l e ({ frames := 3, cells := 0, slots := 0, locals := 63 } : Room) s m args below meth c H locs 0 0 (MQ below (cQ D (cT k) A (cW k a ρ σ) (some (.long R))) args s 0 0 A) (F0 m 8 ls []) := by
  intro n
  induction n with
  | zero =>
    intro v1 v2 v4 σ R h
    exact absurd h (by simp [f_X3_slopeShare_L8])
  | succ n ih =>
    intro v1 v2 v4 σ R h H locs ls hP hD hS hl
    rw [f_X3_slopeShare_L8] at h
    refine lv_iload X.1 X.2.1 dX3_slopeShare_8 (lv_at hl 3 rfl) ?_
    refine lv_aload_n X.1 X.2.1 dX3_slopeShare_10 rfl (lv_at hl 0 rfl) ?_
    refine gX3_points X (fun w h => (List.mem_cons_of_mem _ (List.mem_append_left _ (List.mem_append_left _ (List.mem_append_right _ h))))) hK hP (List.mem_cons_of_mem _ (List.mem_append_left _ (List.mem_append_left _ (List.mem_append_left _ (List.mem_append_left _ (List.mem_of_getElem? (i := 0) rfl)))))) dX3_slopeShare_11 ?_
    refine gX0_size X (fun w h => (List.mem_cons_of_mem _ (List.mem_append_left _ (List.mem_append_right _ h)))) hK hP (List.mem_cons_of_mem _ (List.mem_append_left _ (List.mem_append_left _ (List.mem_append_left _ (List.mem_append_left _ (List.mem_of_getElem? (i := 1) rfl)))))) dX3_slopeShare_14 ?_
    refine lv_icmp_ge (tgt := 47) X.1 X.2.1 dX3_slopeShare_17 (by decide) (fun c1 => ?_) (fun c1 => ?_)
    · rw [if_pos c1] at h
      refine lv_lload_n X.1 X.2.1 dX3_slopeShare_47 rfl (lv_at hl 2 rfl) ?_
      have h := sm_e h
      subst h
      exact rt_l X hr hlk hK hP hD hS dX3_slopeShare_48
    · rw [if_neg c1] at h
      refine lv_lload_n X.1 X.2.1 dX3_slopeShare_20 rfl (lv_at hl 2 rfl) ?_
      refine lv_aload_n X.1 X.2.1 dX3_slopeShare_21 rfl (lv_at hl 0 rfl) ?_
      refine gX3_points X (fun w h => (List.mem_cons_of_mem _ (List.mem_append_left _ (List.mem_append_left _ (List.mem_append_right _ h))))) hK hP (List.mem_cons_of_mem _ (List.mem_append_left _ (List.mem_append_left _ (List.mem_append_left _ (List.mem_append_left _ (List.mem_of_getElem? (i := 0) rfl)))))) dX3_slopeShare_22 ?_
      refine lv_iload_n X.1 X.2.1 dX3_slopeShare_25 rfl (lv_at hl 1 rfl) ?_
      refine lv_iload X.1 X.2.1 dX3_slopeShare_26 (lv_at hl 3 rfl) ?_
      obtain ⟨r2, q3, h⟩ := bd_e h
      refine kc_v (As := [.int v1, .int v4]) (rest := [.long v2]) X (k_X0_product v1 v4 σ _ q3) (cwV 2 X.2.2.2.2 gX3_slopeShare_X0_product rfl rfl rfl hd_X0_product ⟨Nat.le_of_ble_eq_true rfl, Nat.le_of_ble_eq_true rfl⟩) hK hP hD hS hA (va_recv hK hP (ci := 0) (q0 := 1) rfl rfl) rfl hl.1 rfl (Nat.le_of_ble_eq_true rfl) dX3_slopeShare_28 ⟨Nat.le_of_ble_eq_true rfl, Nat.le_of_ble_eq_true rfl⟩ (fun H locs hP hD hS => ?_)
      refine lv_i2l (v := r2.toInt64) X.1 X.2.1 dX3_slopeShare_31 rfl ?_
      refine lv_aload_n X.1 X.2.1 dX3_slopeShare_32 rfl (lv_at hl 0 rfl) ?_
      refine lv_iload X.1 X.2.1 dX3_slopeShare_33 (lv_at hl 3 rfl) ?_
      obtain ⟨r4, q5, h⟩ := bd_e h
      refine kc_v (As := [.int v4]) (rest := [.long (r2.toInt64), .long v2]) X (k_X3_share N v4 σ _ q5) (cwV 1 X.2.2.2.2 gX3_slopeShare_X3_share rfl rfl rfl hd_X3_share ⟨Nat.le_of_ble_eq_true rfl, Nat.le_of_ble_eq_true rfl⟩) hK hP hD hS hA (va_recv hK hP (ci := 2) (q0 := 0) rfl rfl) rfl hl.1 rfl (Nat.le_of_ble_eq_true rfl) dX3_slopeShare_35 ⟨Nat.le_of_ble_eq_true rfl, Nat.le_of_ble_eq_true rfl⟩ (fun H locs hP hD hS => ?_)
      refine lv_lmul X.1 X.2.1 dX3_slopeShare_38 ?_
      refine lv_lsub X.1 X.2.1 dX3_slopeShare_39 ?_
      obtain ⟨x6, e7, h⟩ := lt_e h
      refine nm_l e7 ?_
      refine lv_lstore_n (lv' := [(2, .long x6), (0, .ref (a 0)), (1, .int v1), (4, .int v4)]) X.1 X.2.1 dX3_slopeShare_40 rfl hl (by decide) rfl (fun ls hl => ?_)
      obtain ⟨x8, e9, h⟩ := lt_e h
      refine lv_iinc (v := x8) (lv' := [(4, .int x8), (2, .long x6), (0, .ref (a 0)), (1, .int v1)]) X.1 X.2.1 dX3_slopeShare_41 hl (k := 3) rfl e9.symm (by decide) rfl (fun ls hl => ?_)
      refine lv_goto (tgt := 8) X.1 X.2.1 dX3_slopeShare_44 (by decide) ?_
      exact ih v1 x6 x8 σ _ h _ _ _ hP hD hS (lv_sub hl [2, 3, 1, 0] rfl)
def f_X3_slopeShare (N : Nat) (p0 : Int32) (σ : CS) : Option Int64 := (f_X3_shareBase σ).bind (fun r1 => f_X3_slopeShare_L8 N N p0 r1 (0 : Int32) σ)
theorem hd_X3_slopeShare : yX3_slopeShare.cls = RX3 ∧ yX3_slopeShare.cls ≠ "java/lang/invoke/MethodHandle" ∧ yX3_slopeShare.cls ≠ "java/lang/invoke/VarHandle" ∧ (parseMethodDescriptor yX3_slopeShare.desc).map (fun d => d.parameters.length) = some 1 := by decide +kernel
set_option maxHeartbeats 4000000 in
set_option maxRecDepth 100000 in
theorem k_X3_slopeShare {l : Launch} {D : va_G} {k : Nat → ClassId} {a : Nat → Nat} {ρ : Nat → Nat} (N : Nat) (p0 : Int32) (σ : CS) (R : Int64) (h : f_X3_slopeShare N p0 σ = some R) : Ct l yX3_slopeShare wsX3_slopeShare ({ frames := 3, cells := 0, slots := 0, locals := 63 } : Room) D (cT k) (cW k a ρ σ) (cW k a ρ σ) [.ref (a 0), .int p0] (some (.long R)) := by
  refine ct_of (cc := cX3_slopeShare) (maxL := 5) (ret := (some .long)) (by decide) rfl (Nat.le_of_ble_eq_true rfl) ?_
  intro p e s m args below meth c A ls X hr hlk hK hA hP hD hS hl
  have X : CallFix p m c cX3_slopeShare 5 s args wsX3_slopeShare RX3 := X
  have hl : lv_has ls 5 [(0, .ref (a 0)), (1, .int p0)] := hl
  rw [f_X3_slopeShare] at h
  refine lv_aload_n X.1 X.2.1 dX3_slopeShare_0 rfl (lv_at hl 0 rfl) ?_
  obtain ⟨r1, q2, h⟩ := bd_e h
  refine kc_v (As := []) (rest := []) X (k_X3_shareBase σ _ q2) (cwV 0 X.2.2.2.2 gX3_slopeShare_X3_shareBase rfl rfl rfl hd_X3_shareBase ⟨Nat.le_of_ble_eq_true rfl, Nat.le_of_ble_eq_true rfl⟩) hK hP hD hS hA (va_recv hK hP (ci := 2) (q0 := 0) rfl rfl) rfl hl.1 rfl (Nat.le_of_ble_eq_true rfl) dX3_slopeShare_1 ⟨Nat.le_of_ble_eq_true rfl, Nat.le_of_ble_eq_true rfl⟩ (fun H locs hP hD hS => ?_)
  refine lv_lstore_n (lv' := [(2, .long r1), (0, .ref (a 0)), (1, .int p0)]) X.1 X.2.1 dX3_slopeShare_4 rfl hl (by decide) rfl (fun ls hl => ?_)
  refine lv_iconst (v := (0 : Int32)) X.1 X.2.1 dX3_slopeShare_5 (by decide) ?_
  refine lv_istore (lv' := [(4, .int (0 : Int32)), (2, .long r1), (0, .ref (a 0)), (1, .int p0)]) X.1 X.2.1 dX3_slopeShare_6 hl (by decide) rfl (fun ls hl => ?_)
  exact t_X3_slopeShare_L8 X hr hlk hK hA N N p0 r1 (0 : Int32) σ _ h _ _ _ hP hD hS (lv_sub hl [2, 3, 1, 0] rfl)
def f_X3_slope (N : Nat) (p0 : Int32) (p1 : Int32) (σ : CS) : Option Int64 := (f_X3_isDone σ).bind (fun r1 => if r1 = 0 then some (0 : Int64) else (f_X0_has p0 σ).bind (fun r4 => if r4 = 0 then some (0 : Int64) else (f_X3_isPart p1 ).bind (fun r7 => if r7 = 0 then some (0 : Int64) else (f_X3_slopeShare N p0 σ).bind (fun r10 => (f_X3_shareBase σ).bind (fun r12 => (f_X2_part N r10 r12 p1 ).bind (fun r14 => some r14))))))
theorem hd_X3_slope : yX3_slope.cls = RX3 ∧ yX3_slope.cls ≠ "java/lang/invoke/MethodHandle" ∧ yX3_slope.cls ≠ "java/lang/invoke/VarHandle" ∧ (parseMethodDescriptor yX3_slope.desc).map (fun d => d.parameters.length) = some 2 := by decide +kernel
set_option maxHeartbeats 4000000 in
set_option maxRecDepth 100000 in
theorem k_X3_slope {l : Launch} {D : va_G} {k : Nat → ClassId} {a : Nat → Nat} {ρ : Nat → Nat} (N : Nat) (p0 : Int32) (p1 : Int32) (σ : CS) (R : Int64) (h : f_X3_slope N p0 p1 σ = some R) : Ct l yX3_slope wsX3_slope ({ frames := 4, cells := 0, slots := 0, locals := 87 } : Room) D (cT k) (cW k a ρ σ) (cW k a ρ σ) [.ref (a 0), .int p0, .int p1] (some (.long R)) := by
  refine ct_of (cc := cX3_slope) (maxL := 3) (ret := (some .long)) (by decide) rfl (Nat.le_of_ble_eq_true rfl) ?_
  intro p e s m args below meth c A ls X hr hlk hK hA hP hD hS hl
  have X : CallFix p m c cX3_slope 3 s args wsX3_slope RX3 := X
  have hl : lv_has ls 3 [(0, .ref (a 0)), (1, .int p0), (2, .int p1)] := hl
  rw [f_X3_slope] at h
  refine lv_aload_n X.1 X.2.1 dX3_slope_0 rfl (lv_at hl 0 rfl) ?_
  obtain ⟨r1, q2, h⟩ := bd_e h
  refine kc_v (As := []) (rest := []) X (k_X3_isDone σ _ q2) (cwV 0 X.2.2.2.2 gX3_slope_X3_isDone rfl rfl rfl hd_X3_isDone ⟨Nat.le_of_ble_eq_true rfl, Nat.le_of_ble_eq_true rfl⟩) hK hP hD hS hA (va_recv hK hP (ci := 2) (q0 := 0) rfl rfl) rfl hl.1 rfl (Nat.le_of_ble_eq_true rfl) dX3_slope_1 ⟨Nat.le_of_ble_eq_true rfl, Nat.le_of_ble_eq_true rfl⟩ (fun H locs hP hD hS => ?_)
  refine lv_if_eq (tgt := 25) X.1 X.2.1 dX3_slope_4 (by decide) (fun c3 => ?_) (fun c3 => ?_)
  · rw [if_pos c3] at h
    refine lv_lconst (v := (0 : Int64)) X.1 X.2.1 dX3_slope_25 (by decide) ?_
    have h := sm_e h
    subst h
    exact rt_l X hr hlk hK hP hD hS dX3_slope_26
  · rw [if_neg c3] at h
    refine lv_aload_n X.1 X.2.1 dX3_slope_7 rfl (lv_at hl 0 rfl) ?_
    refine gX3_points X (fun w h => (List.mem_cons_of_mem _ (List.mem_append_left _ (List.mem_append_left _ (List.mem_append_right _ h))))) hK hP (List.mem_cons_of_mem _ (List.mem_append_left _ (List.mem_append_left _ (List.mem_append_left _ (List.mem_append_left _ (List.mem_of_getElem? (i := 0) rfl)))))) dX3_slope_8 ?_
    refine lv_iload_n X.1 X.2.1 dX3_slope_11 rfl (lv_at hl 1 rfl) ?_
    obtain ⟨r4, q5, h⟩ := bd_e h
    refine kc_v (As := [.int p0]) (rest := []) X (k_X0_has p0 σ _ q5) (cwV 1 X.2.2.2.2 gX3_slope_X0_has rfl rfl rfl hd_X0_has ⟨Nat.le_of_ble_eq_true rfl, Nat.le_of_ble_eq_true rfl⟩) hK hP hD hS hA (va_recv hK hP (ci := 0) (q0 := 1) rfl rfl) rfl hl.1 rfl (Nat.le_of_ble_eq_true rfl) dX3_slope_12 ⟨Nat.le_of_ble_eq_true rfl, Nat.le_of_ble_eq_true rfl⟩ (fun H locs hP hD hS => ?_)
    refine lv_if_eq (tgt := 25) X.1 X.2.1 dX3_slope_15 (by decide) (fun c6 => ?_) (fun c6 => ?_)
    · rw [if_pos c6] at h
      refine lv_lconst (v := (0 : Int64)) X.1 X.2.1 dX3_slope_25 (by decide) ?_
      have h := sm_e h
      subst h
      exact rt_l X hr hlk hK hP hD hS dX3_slope_26
    · rw [if_neg c6] at h
      refine lv_iload_n X.1 X.2.1 dX3_slope_18 rfl (lv_at hl 2 rfl) ?_
      obtain ⟨r7, q8, h⟩ := bd_e h
      refine kc_s (As := [.int p1]) (rest := []) X (k_X3_isPart p1 _ q8) (va_cwS 1 X.2.2.2.2 gX3_slope_X3_isPart rfl rfl rfl hd_X3_isPart ⟨Nat.le_of_ble_eq_true rfl, Nat.le_of_ble_eq_true rfl⟩) hK hP hS hA rfl hl.1 rfl (Nat.le_of_ble_eq_true rfl) dX3_slope_19 ⟨Nat.le_of_ble_eq_true rfl, Nat.le_of_ble_eq_true rfl⟩ (fun H locs hP hS => ?_)
      refine lv_if_ne (tgt := 27) X.1 X.2.1 dX3_slope_22 (by decide) (fun c9 => ?_) (fun c9 => ?_)
      · rw [if_neg c9] at h
        refine lv_aload_n X.1 X.2.1 dX3_slope_27 rfl (lv_at hl 0 rfl) ?_
        refine lv_iload_n X.1 X.2.1 dX3_slope_28 rfl (lv_at hl 1 rfl) ?_
        obtain ⟨r10, q11, h⟩ := bd_e h
        refine kc_v (As := [.int p0]) (rest := []) X (k_X3_slopeShare N p0 σ _ q11) (cwV 1 X.2.2.2.2 gX3_slope_X3_slopeShare rfl rfl rfl hd_X3_slopeShare ⟨Nat.le_of_ble_eq_true rfl, Nat.le_of_ble_eq_true rfl⟩) hK hP hD hS hA (va_recv hK hP (ci := 2) (q0 := 0) rfl rfl) rfl hl.1 rfl (Nat.le_of_ble_eq_true rfl) dX3_slope_29 ⟨Nat.le_of_ble_eq_true rfl, Nat.le_of_ble_eq_true rfl⟩ (fun H locs hP hD hS => ?_)
        refine lv_aload_n X.1 X.2.1 dX3_slope_32 rfl (lv_at hl 0 rfl) ?_
        obtain ⟨r12, q13, h⟩ := bd_e h
        refine kc_v (As := []) (rest := [.long r10]) X (k_X3_shareBase σ _ q13) (cwV 0 X.2.2.2.2 gX3_slope_X3_shareBase rfl rfl rfl hd_X3_shareBase ⟨Nat.le_of_ble_eq_true rfl, Nat.le_of_ble_eq_true rfl⟩) hK hP hD hS hA (va_recv hK hP (ci := 2) (q0 := 0) rfl rfl) rfl hl.1 rfl (Nat.le_of_ble_eq_true rfl) dX3_slope_33 ⟨Nat.le_of_ble_eq_true rfl, Nat.le_of_ble_eq_true rfl⟩ (fun H locs hP hD hS => ?_)
        refine lv_iload_n X.1 X.2.1 dX3_slope_36 rfl (lv_at hl 2 rfl) ?_
        obtain ⟨r14, q15, h⟩ := bd_e h
        refine kc_s (As := [.long r10, .long r12, .int p1]) (rest := []) X (k_X2_part N r10 r12 p1 _ q15) (va_cwS 3 X.2.2.2.2 gX3_slope_X2_part rfl rfl rfl hd_X2_part ⟨Nat.le_of_ble_eq_true rfl, Nat.le_of_ble_eq_true rfl⟩) hK hP hS hA rfl hl.1 rfl (Nat.le_of_ble_eq_true rfl) dX3_slope_37 ⟨Nat.le_of_ble_eq_true rfl, Nat.le_of_ble_eq_true rfl⟩ (fun H locs hP hS => ?_)
        have h := sm_e h
        subst h
        exact rt_l X hr hlk hK hP hD hS dX3_slope_40
      · rw [if_pos c9] at h
        refine lv_lconst (v := (0 : Int64)) X.1 X.2.1 dX3_slope_25 (by decide) ?_
        have h := sm_e h
        subst h
        exact rt_l X hr hlk hK hP hD hS dX3_slope_26
def f_X3_holdsCondition (N : Nat) (p0 : Int32) (σ : CS) : Option Int32 := (f_X3_slopeShare N p0 σ).bind (fun r1 => (f_X3_placeInBox N p0 σ).bind (fun r3 => if r3 = 0 then if 0 < (lg_cmp r1 (0 : Int64)) then some (0 : Int32) else some (1 : Int32) else if r3 = (2 : Int32) then if (lg_cmp r1 (0 : Int64)) < 0 then some (0 : Int32) else some (1 : Int32) else if (lg_cmp r1 (0 : Int64)) = 0 then some (1 : Int32) else some (0 : Int32)))
theorem hd_X3_holdsCondition : yX3_holdsCondition.cls = RX3 ∧ yX3_holdsCondition.cls ≠ "java/lang/invoke/MethodHandle" ∧ yX3_holdsCondition.cls ≠ "java/lang/invoke/VarHandle" ∧ (parseMethodDescriptor yX3_holdsCondition.desc).map (fun d => d.parameters.length) = some 1 := by decide +kernel
set_option maxHeartbeats 4000000 in
set_option maxRecDepth 100000 in
theorem k_X3_holdsCondition {l : Launch} {D : va_G} {k : Nat → ClassId} {a : Nat → Nat} {ρ : Nat → Nat} (N : Nat) (p0 : Int32) (σ : CS) (R : Int32) (h : f_X3_holdsCondition N p0 σ = some R) : Ct l yX3_holdsCondition wsX3_holdsCondition ({ frames := 4, cells := 0, slots := 0, locals := 87 } : Room) D (cT k) (cW k a ρ σ) (cW k a ρ σ) [.ref (a 0), .int p0] (some (.int R)) := by
  refine ct_of (cc := cX3_holdsCondition) (maxL := 5) (ret := (some .boolean)) (by decide) rfl (Nat.le_of_ble_eq_true rfl) ?_
  intro p e s m args below meth c A ls X hr hlk hK hA hP hD hS hl
  have X : CallFix p m c cX3_holdsCondition 5 s args wsX3_holdsCondition RX3 := X
  have hl : lv_has ls 5 [(0, .ref (a 0)), (1, .int p0)] := hl
  rw [f_X3_holdsCondition] at h
  refine lv_aload_n X.1 X.2.1 dX3_holdsCondition_0 rfl (lv_at hl 0 rfl) ?_
  refine lv_iload_n X.1 X.2.1 dX3_holdsCondition_1 rfl (lv_at hl 1 rfl) ?_
  obtain ⟨r1, q2, h⟩ := bd_e h
  refine kc_v (As := [.int p0]) (rest := []) X (k_X3_slopeShare N p0 σ _ q2) (cwV 1 X.2.2.2.2 gX3_holdsCondition_X3_slopeShare rfl rfl rfl hd_X3_slopeShare ⟨Nat.le_of_ble_eq_true rfl, Nat.le_of_ble_eq_true rfl⟩) hK hP hD hS hA (va_recv hK hP (ci := 2) (q0 := 0) rfl rfl) rfl hl.1 rfl (Nat.le_of_ble_eq_true rfl) dX3_holdsCondition_2 ⟨Nat.le_of_ble_eq_true rfl, Nat.le_of_ble_eq_true rfl⟩ (fun H locs hP hD hS => ?_)
  refine lv_lstore_n (lv' := [(2, .long r1), (0, .ref (a 0)), (1, .int p0)]) X.1 X.2.1 dX3_holdsCondition_5 rfl hl (by decide) rfl (fun ls hl => ?_)
  refine lv_aload_n X.1 X.2.1 dX3_holdsCondition_6 rfl (lv_at hl 1 rfl) ?_
  refine lv_iload_n X.1 X.2.1 dX3_holdsCondition_7 rfl (lv_at hl 2 rfl) ?_
  obtain ⟨r3, q4, h⟩ := bd_e h
  refine kc_v (As := [.int p0]) (rest := []) X (k_X3_placeInBox N p0 σ _ q4) (cwV 1 X.2.2.2.2 gX3_holdsCondition_X3_placeInBox rfl rfl rfl hd_X3_placeInBox ⟨Nat.le_of_ble_eq_true rfl, Nat.le_of_ble_eq_true rfl⟩) hK hP hD hS hA (va_recv hK hP (ci := 2) (q0 := 0) rfl rfl) rfl hl.1 rfl (Nat.le_of_ble_eq_true rfl) dX3_holdsCondition_8 ⟨Nat.le_of_ble_eq_true rfl, Nat.le_of_ble_eq_true rfl⟩ (fun H locs hP hD hS => ?_)
  refine lv_istore (lv' := [(4, .int r3), (2, .long r1), (0, .ref (a 0)), (1, .int p0)]) X.1 X.2.1 dX3_holdsCondition_11 hl (by decide) rfl (fun ls hl => ?_)
  refine lv_iload X.1 X.2.1 dX3_holdsCondition_13 (lv_at hl 0 rfl) ?_
  refine lv_if_ne (tgt := 30) X.1 X.2.1 dX3_holdsCondition_15 (by decide) (fun c5 => ?_) (fun c5 => ?_)
  · rw [if_neg c5] at h
    refine lv_iload X.1 X.2.1 dX3_holdsCondition_30 (lv_at hl 0 rfl) ?_
    refine lv_iconst (v := (2 : Int32)) X.1 X.2.1 dX3_holdsCondition_32 (by decide) ?_
    refine lv_icmp_ne (tgt := 50) X.1 X.2.1 dX3_holdsCondition_33 (by decide) (fun c6 => ?_) (fun c6 => ?_)
    · rw [if_neg c6] at h
      refine lv_lload_n X.1 X.2.1 dX3_holdsCondition_50 rfl (lv_at hl 1 rfl) ?_
      refine lv_lconst (v := (0 : Int64)) X.1 X.2.1 dX3_holdsCondition_51 (by decide) ?_
      refine W.lcmp X.1 X.2.1 dX3_holdsCondition_52 ?_
      refine lv_if_ne (tgt := 60) X.1 X.2.1 dX3_holdsCondition_53 (by decide) (fun c7 => ?_) (fun c7 => ?_)
      · rw [if_neg c7] at h
        refine lv_iconst (v := (0 : Int32)) X.1 X.2.1 dX3_holdsCondition_60 (by decide) ?_
        have h := sm_e h
        subst h
        exact rt_z X hr hlk rfl hK hP hD hS dX3_holdsCondition_61
      · rw [if_pos c7] at h
        refine lv_iconst (v := (1 : Int32)) X.1 X.2.1 dX3_holdsCondition_56 (by decide) ?_
        refine lv_goto (tgt := 61) X.1 X.2.1 dX3_holdsCondition_57 (by decide) ?_
        have h := sm_e h
        subst h
        exact rt_z X hr hlk rfl hK hP hD hS dX3_holdsCondition_61
    · rw [if_pos c6] at h
      refine lv_lload_n X.1 X.2.1 dX3_holdsCondition_36 rfl (lv_at hl 1 rfl) ?_
      refine lv_lconst (v := (0 : Int64)) X.1 X.2.1 dX3_holdsCondition_37 (by decide) ?_
      refine W.lcmp X.1 X.2.1 dX3_holdsCondition_38 ?_
      refine lv_if_lt (tgt := 46) X.1 X.2.1 dX3_holdsCondition_39 (by decide) (fun c8 => ?_) (fun c8 => ?_)
      · rw [if_pos c8] at h
        refine lv_iconst (v := (0 : Int32)) X.1 X.2.1 dX3_holdsCondition_46 (by decide) ?_
        refine lv_goto (tgt := 61) X.1 X.2.1 dX3_holdsCondition_47 (by decide) ?_
        have h := sm_e h
        subst h
        exact rt_z X hr hlk rfl hK hP hD hS dX3_holdsCondition_61
      · rw [if_neg c8] at h
        refine lv_iconst (v := (1 : Int32)) X.1 X.2.1 dX3_holdsCondition_42 (by decide) ?_
        refine lv_goto (tgt := 61) X.1 X.2.1 dX3_holdsCondition_43 (by decide) ?_
        have h := sm_e h
        subst h
        exact rt_z X hr hlk rfl hK hP hD hS dX3_holdsCondition_61
  · rw [if_pos c5] at h
    refine lv_lload_n X.1 X.2.1 dX3_holdsCondition_18 rfl (lv_at hl 1 rfl) ?_
    refine lv_lconst (v := (0 : Int64)) X.1 X.2.1 dX3_holdsCondition_19 (by decide) ?_
    refine W.lcmp X.1 X.2.1 dX3_holdsCondition_20 ?_
    refine lv_if_gt (tgt := 28) X.1 X.2.1 dX3_holdsCondition_21 (by decide) (fun c9 => ?_) (fun c9 => ?_)
    · rw [if_pos c9] at h
      refine lv_iconst (v := (0 : Int32)) X.1 X.2.1 dX3_holdsCondition_28 (by decide) ?_
      have h := sm_e h
      subst h
      exact rt_z X hr hlk rfl hK hP hD hS dX3_holdsCondition_29
    · rw [if_neg c9] at h
      refine lv_iconst (v := (1 : Int32)) X.1 X.2.1 dX3_holdsCondition_24 (by decide) ?_
      refine lv_goto (tgt := 29) X.1 X.2.1 dX3_holdsCondition_25 (by decide) ?_
      have h := sm_e h
      subst h
      exact rt_z X hr hlk rfl hK hP hD hS dX3_holdsCondition_29
def f_X3_check_L12 (N : Nat) : Nat → Int32 → CS → Option Int32
  | 0, _, _ => none
  | n + 1, v1, σ => if (c_sz σ) ≤ v1 then some (1 : Int32) else (f_X3_holdsCondition N v1 σ).bind (fun r2 => if r2 = 0 then some (0 : Int32) else lt_ (v1 + (1 : Int32)) (fun x5 => f_X3_check_L12 N n x5 σ))
set_option maxHeartbeats 4000000 in
set_option maxRecDepth 100000 in
theorem t_X3_check_L12 {p : Program} {l : Launch} {e : Env} {s : State} {m : MethodId} {args : Array Value} {below : List Frame} {meth : Method} {c : Code} {D : va_G} {A : Nat → Prop} {k : Nat → ClassId} {a : Nat → Nat} {ρ : Nat → Nat} (X : CallFix p m c cX3_check 2 s args wsX3_check RX3) (hr : meth.sig.returnType = some .int) (hlk : meth.locks = false) (hK : va_K D vwCl (cT k) s) (hA : ∀ q : Nat, s.heap.size ≤ q → A q) (N : Nat) : ∀ (n : Nat) (v1 : Int32) (σ : CS) (R : Int32), f_X3_check_L12 N n v1 σ = some R → ∀ (H : Heap) (locs : List Loc) (ls : Array Slot), va_P D vwCl (cW k a ρ σ) H → va_D A (cW k a ρ σ) → va_S A s.heap H locs → lv_has ls 2 [(0, .ref (a 0)), (1, .int v1)] → W p l e ({ frames := 5, cells := 0, slots := 0, locals := 111 } : Room) s m args below meth c H locs 0 0 (MQ below (cQ D (cT k) A (cW k a ρ σ) (some (.int R))) args s 0 0 A) (F0 m 12 ls []) := by
  intro n
  induction n with
  | zero =>
    intro v1 σ R h
    exact absurd h (by simp [f_X3_check_L12])
  | succ n ih =>
    intro v1 σ R h H locs ls hP hD hS hl
    rw [f_X3_check_L12] at h
    refine lv_iload_n X.1 X.2.1 dX3_check_12 rfl (lv_at hl 1 rfl) ?_
    refine lv_aload_n X.1 X.2.1 dX3_check_13 rfl (lv_at hl 0 rfl) ?_
    refine gX3_points X (fun w h => (List.mem_cons_of_mem _ (List.mem_append_left _ (List.mem_append_left _ (List.mem_append_right _ h))))) hK hP (List.mem_cons_of_mem _ (List.mem_append_left _ (List.mem_append_left _ (List.mem_append_left _ (List.mem_append_left _ (List.mem_of_getElem? (i := 0) rfl)))))) dX3_check_14 ?_
    refine gX0_size X (fun w h => (List.mem_cons_of_mem _ (List.mem_append_left _ (List.mem_append_right _ h)))) hK hP (List.mem_cons_of_mem _ (List.mem_append_left _ (List.mem_append_left _ (List.mem_append_left _ (List.mem_append_left _ (List.mem_of_getElem? (i := 1) rfl)))))) dX3_check_17 ?_
    refine lv_icmp_ge (tgt := 39) X.1 X.2.1 dX3_check_20 (by decide) (fun c1 => ?_) (fun c1 => ?_)
    · rw [if_pos c1] at h
      refine lv_iconst (v := (1 : Int32)) X.1 X.2.1 dX3_check_39 (by decide) ?_
      have h := sm_e h
      subst h
      exact rt_i X hr hlk hK hP hD hS dX3_check_40
    · rw [if_neg c1] at h
      refine lv_aload_n X.1 X.2.1 dX3_check_23 rfl (lv_at hl 0 rfl) ?_
      refine lv_iload_n X.1 X.2.1 dX3_check_24 rfl (lv_at hl 1 rfl) ?_
      obtain ⟨r2, q3, h⟩ := bd_e h
      refine kc_v (As := [.int v1]) (rest := []) X (k_X3_holdsCondition N v1 σ _ q3) (cwV 1 X.2.2.2.2 gX3_check_X3_holdsCondition rfl rfl rfl hd_X3_holdsCondition ⟨Nat.le_of_ble_eq_true rfl, Nat.le_of_ble_eq_true rfl⟩) hK hP hD hS hA (va_recv hK hP (ci := 2) (q0 := 0) rfl rfl) rfl hl.1 rfl (Nat.le_of_ble_eq_true rfl) dX3_check_25 ⟨Nat.le_of_ble_eq_true rfl, Nat.le_of_ble_eq_true rfl⟩ (fun H locs hP hD hS => ?_)
      refine lv_if_ne (tgt := 33) X.1 X.2.1 dX3_check_28 (by decide) (fun c4 => ?_) (fun c4 => ?_)
      · rw [if_neg c4] at h
        obtain ⟨x5, e6, h⟩ := lt_e h
        refine lv_iinc (v := x5) (lv' := [(1, .int x5), (0, .ref (a 0))]) X.1 X.2.1 dX3_check_33 hl (k := 1) rfl e6.symm (by decide) rfl (fun ls hl => ?_)
        refine lv_goto (tgt := 12) X.1 X.2.1 dX3_check_36 (by decide) ?_
        exact ih x5 σ _ h _ _ _ hP hD hS (lv_sub hl [1, 0] rfl)
      · rw [if_pos c4] at h
        refine lv_iconst (v := (0 : Int32)) X.1 X.2.1 dX3_check_31 (by decide) ?_
        have h := sm_e h
        subst h
        exact rt_i X hr hlk hK hP hD hS dX3_check_32
def f_X3_check (N : Nat) (σ : CS) : Option Int32 := (f_X3_isDone σ).bind (fun r1 => if r1 = 0 then some (-3 : Int32) else f_X3_check_L12 N N (0 : Int32) σ)
theorem hd_X3_check : yX3_check.cls = RX3 ∧ yX3_check.cls ≠ "java/lang/invoke/MethodHandle" ∧ yX3_check.cls ≠ "java/lang/invoke/VarHandle" ∧ (parseMethodDescriptor yX3_check.desc).map (fun d => d.parameters.length) = some 0 := by decide +kernel
set_option maxHeartbeats 4000000 in
set_option maxRecDepth 100000 in
theorem k_X3_check {l : Launch} {D : va_G} {k : Nat → ClassId} {a : Nat → Nat} {ρ : Nat → Nat} (N : Nat)  (σ : CS) (R : Int32) (h : f_X3_check N σ = some R) : Ct l yX3_check wsX3_check ({ frames := 5, cells := 0, slots := 0, locals := 111 } : Room) D (cT k) (cW k a ρ σ) (cW k a ρ σ) [.ref (a 0)] (some (.int R)) := by
  refine ct_of (cc := cX3_check) (maxL := 2) (ret := (some .int)) (by decide) rfl (Nat.le_of_ble_eq_true rfl) ?_
  intro p e s m args below meth c A ls X hr hlk hK hA hP hD hS hl
  have X : CallFix p m c cX3_check 2 s args wsX3_check RX3 := X
  have hl : lv_has ls 2 [(0, .ref (a 0))] := hl
  rw [f_X3_check] at h
  refine lv_aload_n X.1 X.2.1 dX3_check_0 rfl (lv_at hl 0 rfl) ?_
  obtain ⟨r1, q2, h⟩ := bd_e h
  refine kc_v (As := []) (rest := []) X (k_X3_isDone σ _ q2) (cwV 0 X.2.2.2.2 gX3_check_X3_isDone rfl rfl rfl hd_X3_isDone ⟨Nat.le_of_ble_eq_true rfl, Nat.le_of_ble_eq_true rfl⟩) hK hP hD hS hA (va_recv hK hP (ci := 2) (q0 := 0) rfl rfl) rfl hl.1 rfl (Nat.le_of_ble_eq_true rfl) dX3_check_1 ⟨Nat.le_of_ble_eq_true rfl, Nat.le_of_ble_eq_true rfl⟩ (fun H locs hP hD hS => ?_)
  refine lv_if_ne (tgt := 10) X.1 X.2.1 dX3_check_4 (by decide) (fun c3 => ?_) (fun c3 => ?_)
  · rw [if_neg c3] at h
    refine lv_iconst (v := (0 : Int32)) X.1 X.2.1 dX3_check_10 (by decide) ?_
    refine lv_istore_n (lv' := [(1, .int (0 : Int32)), (0, .ref (a 0))]) X.1 X.2.1 dX3_check_11 rfl hl (by decide) rfl (fun ls hl => ?_)
    exact t_X3_check_L12 X hr hlk hK hA N N (0 : Int32) σ _ h _ _ _ hP hD hS (lv_sub hl [1, 0] rfl)
  · rw [if_pos c3] at h
    refine lv_bipush (v := (-3 : Int32)) X.1 X.2.1 dX3_check_7 (by decide) ?_
    have h := sm_e h
    subst h
    exact rt_i X hr hlk hK hP hD hS dX3_check_9
def f_X3_isInBox (p0 : Int32) (p1 : Int32) (σ : CS) : Option Int32 := if p0 < 0 then some (0 : Int32) else if p1 < (1 : Int32) then some (0 : Int32) else if p1 ≤ (6 : Int32) then if 0 < (lg_cmp ((p0.toInt64) * ((c_bB σ).toInt64)) (((c_bA σ).toInt64) * (p1.toInt64))) then some (0 : Int32) else some (1 : Int32) else some (0 : Int32)
theorem hd_X3_isInBox : yX3_isInBox.cls = RX3 ∧ yX3_isInBox.cls ≠ "java/lang/invoke/MethodHandle" ∧ yX3_isInBox.cls ≠ "java/lang/invoke/VarHandle" ∧ (parseMethodDescriptor yX3_isInBox.desc).map (fun d => d.parameters.length) = some 2 := by decide +kernel
set_option maxHeartbeats 4000000 in
set_option maxRecDepth 100000 in
theorem k_X3_isInBox {l : Launch} {D : va_G} {k : Nat → ClassId} {a : Nat → Nat} {ρ : Nat → Nat} (p0 : Int32) (p1 : Int32) (σ : CS) (R : Int32) (h : f_X3_isInBox p0 p1 σ = some R) : Ct l yX3_isInBox wsX3_isInBox ({ frames := 0, cells := 0, slots := 0, locals := 0 } : Room) D (cT k) (cW k a ρ σ) (cW k a ρ σ) [.ref (a 0), .int p0, .int p1] (some (.int R)) := by
  refine ct_of (cc := cX3_isInBox) (maxL := 3) (ret := (some .boolean)) (by decide) rfl (Nat.le_of_ble_eq_true rfl) ?_
  intro p e s m args below meth c A ls X hr hlk hK hA hP hD hS hl
  have X : CallFix p m c cX3_isInBox 3 s args wsX3_isInBox RX3 := X
  have hl : lv_has ls 3 [(0, .ref (a 0)), (1, .int p0), (2, .int p1)] := hl
  rw [f_X3_isInBox] at h
  refine lv_iload_n X.1 X.2.1 dX3_isInBox_0 rfl (lv_at hl 1 rfl) ?_
  refine lv_if_lt (tgt := 15) X.1 X.2.1 dX3_isInBox_1 (by decide) (fun c1 => ?_) (fun c1 => ?_)
  · rw [if_pos c1] at h
    refine lv_iconst (v := (0 : Int32)) X.1 X.2.1 dX3_isInBox_15 (by decide) ?_
    have h := sm_e h
    subst h
    exact rt_z X hr hlk rfl hK hP hD hS dX3_isInBox_16
  · rw [if_neg c1] at h
    refine lv_iload_n X.1 X.2.1 dX3_isInBox_4 rfl (lv_at hl 2 rfl) ?_
    refine lv_iconst (v := (1 : Int32)) X.1 X.2.1 dX3_isInBox_5 (by decide) ?_
    refine lv_icmp_lt (tgt := 15) X.1 X.2.1 dX3_isInBox_6 (by decide) (fun c2 => ?_) (fun c2 => ?_)
    · rw [if_pos c2] at h
      refine lv_iconst (v := (0 : Int32)) X.1 X.2.1 dX3_isInBox_15 (by decide) ?_
      have h := sm_e h
      subst h
      exact rt_z X hr hlk rfl hK hP hD hS dX3_isInBox_16
    · rw [if_neg c2] at h
      refine lv_iload_n X.1 X.2.1 dX3_isInBox_9 rfl (lv_at hl 2 rfl) ?_
      refine lv_bipush (v := (6 : Int32)) X.1 X.2.1 dX3_isInBox_10 (by decide) ?_
      refine lv_icmp_le (tgt := 17) X.1 X.2.1 dX3_isInBox_12 (by decide) (fun c3 => ?_) (fun c3 => ?_)
      · rw [if_pos c3] at h
        refine lv_iload_n X.1 X.2.1 dX3_isInBox_17 rfl (lv_at hl 1 rfl) ?_
        refine lv_i2l (v := p0.toInt64) X.1 X.2.1 dX3_isInBox_18 rfl ?_
        refine lv_aload_n X.1 X.2.1 dX3_isInBox_19 rfl (lv_at hl 0 rfl) ?_
        refine gX3_boxBelow X (fun w h => (List.mem_cons_of_mem _ (List.mem_append_right _ h))) hK hP (List.mem_cons_of_mem _ (List.mem_append_left _ (List.mem_of_getElem? (i := 0) rfl))) dX3_isInBox_20 ?_
        refine lv_i2l (v := (c_bB σ).toInt64) X.1 X.2.1 dX3_isInBox_23 rfl ?_
        refine lv_lmul X.1 X.2.1 dX3_isInBox_24 ?_
        refine lv_aload_n X.1 X.2.1 dX3_isInBox_25 rfl (lv_at hl 0 rfl) ?_
        refine gX3_boxAbove X (fun w h => (List.mem_cons_of_mem _ (List.mem_append_right _ h))) hK hP (List.mem_cons_of_mem _ (List.mem_append_left _ (List.mem_of_getElem? (i := 1) rfl))) dX3_isInBox_26 ?_
        refine lv_i2l (v := (c_bA σ).toInt64) X.1 X.2.1 dX3_isInBox_29 rfl ?_
        refine lv_iload_n X.1 X.2.1 dX3_isInBox_30 rfl (lv_at hl 2 rfl) ?_
        refine lv_i2l (v := p1.toInt64) X.1 X.2.1 dX3_isInBox_31 rfl ?_
        refine lv_lmul X.1 X.2.1 dX3_isInBox_32 ?_
        refine W.lcmp X.1 X.2.1 dX3_isInBox_33 ?_
        refine lv_if_gt (tgt := 41) X.1 X.2.1 dX3_isInBox_34 (by decide) (fun c4 => ?_) (fun c4 => ?_)
        · rw [if_pos c4] at h
          refine lv_iconst (v := (0 : Int32)) X.1 X.2.1 dX3_isInBox_41 (by decide) ?_
          have h := sm_e h
          subst h
          exact rt_z X hr hlk rfl hK hP hD hS dX3_isInBox_42
        · rw [if_neg c4] at h
          refine lv_iconst (v := (1 : Int32)) X.1 X.2.1 dX3_isInBox_37 (by decide) ?_
          refine lv_goto (tgt := 42) X.1 X.2.1 dX3_isInBox_38 (by decide) ?_
          have h := sm_e h
          subst h
          exact rt_z X hr hlk rfl hK hP hD hS dX3_isInBox_42
      · rw [if_neg c3] at h
        refine lv_iconst (v := (0 : Int32)) X.1 X.2.1 dX3_isInBox_15 (by decide) ?_
        have h := sm_e h
        subst h
        exact rt_z X hr hlk rfl hK hP hD hS dX3_isInBox_16
def f_X3_worthSign (N : Nat) (p0 : Int32) (p1 : Int32) (p2 : Int32) (σ : CS) : Option Int32 := (f_X3_shareBase σ).bind (fun r1 => (f_X3_share N p0 σ).bind (fun r3 => lt_ (((p1.toInt64) * r1) - (r3 * (p2.toInt64))) (fun x5 => (f_X3_slopeShare N p0 σ).bind (fun r7 => (f_X0_product p0 p0 σ).bind (fun r9 => lt_ (((((2 : Int32) * p2).toInt64) * r7) - (x5 * (r9.toInt64))) (fun x11 => (f_J13_signum_95d88 x5 ).bind (fun r13 => (f_J13_signum_95d88 x11 ).bind (fun r15 => some (r13 * r15)))))))))
theorem hd_X3_worthSign : yX3_worthSign.cls = RX3 ∧ yX3_worthSign.cls ≠ "java/lang/invoke/MethodHandle" ∧ yX3_worthSign.cls ≠ "java/lang/invoke/VarHandle" ∧ (parseMethodDescriptor yX3_worthSign.desc).map (fun d => d.parameters.length) = some 3 := by decide +kernel
set_option maxHeartbeats 4000000 in
set_option maxRecDepth 100000 in
theorem k_X3_worthSign {l : Launch} {D : va_G} {k : Nat → ClassId} {a : Nat → Nat} {ρ : Nat → Nat} (N : Nat) (p0 : Int32) (p1 : Int32) (p2 : Int32) (σ : CS) (R : Int32) (h : f_X3_worthSign N p0 p1 p2 σ = some R) : Ct l yX3_worthSign wsX3_worthSign ({ frames := 4, cells := 0, slots := 0, locals := 87 } : Room) D (cT k) (cW k a ρ σ) (cW k a ρ σ) [.ref (a 0), .int p0, .int p1, .int p2] (some (.int R)) := by
  refine ct_of (cc := cX3_worthSign) (maxL := 8) (ret := (some .int)) (by decide) rfl (Nat.le_of_ble_eq_true rfl) ?_
  intro p e s m args below meth c A ls X hr hlk hK hA hP hD hS hl
  have X : CallFix p m c cX3_worthSign 8 s args wsX3_worthSign RX3 := X
  have hl : lv_has ls 8 [(0, .ref (a 0)), (1, .int p0), (2, .int p1), (3, .int p2)] := hl
  rw [f_X3_worthSign] at h
  refine lv_iload_n X.1 X.2.1 dX3_worthSign_0 rfl (lv_at hl 2 rfl) ?_
  refine lv_i2l (v := p1.toInt64) X.1 X.2.1 dX3_worthSign_1 rfl ?_
  refine lv_aload_n X.1 X.2.1 dX3_worthSign_2 rfl (lv_at hl 0 rfl) ?_
  obtain ⟨r1, q2, h⟩ := bd_e h
  refine kc_v (As := []) (rest := [.long (p1.toInt64)]) X (k_X3_shareBase σ _ q2) (cwV 0 X.2.2.2.2 gX3_worthSign_X3_shareBase rfl rfl rfl hd_X3_shareBase ⟨Nat.le_of_ble_eq_true rfl, Nat.le_of_ble_eq_true rfl⟩) hK hP hD hS hA (va_recv hK hP (ci := 2) (q0 := 0) rfl rfl) rfl hl.1 rfl (Nat.le_of_ble_eq_true rfl) dX3_worthSign_3 ⟨Nat.le_of_ble_eq_true rfl, Nat.le_of_ble_eq_true rfl⟩ (fun H locs hP hD hS => ?_)
  refine lv_lmul X.1 X.2.1 dX3_worthSign_6 ?_
  refine lv_aload_n X.1 X.2.1 dX3_worthSign_7 rfl (lv_at hl 0 rfl) ?_
  refine lv_iload_n X.1 X.2.1 dX3_worthSign_8 rfl (lv_at hl 1 rfl) ?_
  obtain ⟨r3, q4, h⟩ := bd_e h
  refine kc_v (As := [.int p0]) (rest := [.long ((p1.toInt64) * r1)]) X (k_X3_share N p0 σ _ q4) (cwV 1 X.2.2.2.2 gX3_worthSign_X3_share rfl rfl rfl hd_X3_share ⟨Nat.le_of_ble_eq_true rfl, Nat.le_of_ble_eq_true rfl⟩) hK hP hD hS hA (va_recv hK hP (ci := 2) (q0 := 0) rfl rfl) rfl hl.1 rfl (Nat.le_of_ble_eq_true rfl) dX3_worthSign_9 ⟨Nat.le_of_ble_eq_true rfl, Nat.le_of_ble_eq_true rfl⟩ (fun H locs hP hD hS => ?_)
  refine lv_iload_n X.1 X.2.1 dX3_worthSign_12 rfl (lv_at hl 3 rfl) ?_
  refine lv_i2l (v := p2.toInt64) X.1 X.2.1 dX3_worthSign_13 rfl ?_
  refine lv_lmul X.1 X.2.1 dX3_worthSign_14 ?_
  refine lv_lsub X.1 X.2.1 dX3_worthSign_15 ?_
  obtain ⟨x5, e6, h⟩ := lt_e h
  refine nm_l e6 ?_
  refine lv_lstore (lv' := [(4, .long x5), (0, .ref (a 0)), (1, .int p0), (2, .int p1), (3, .int p2)]) X.1 X.2.1 dX3_worthSign_16 hl (by decide) rfl (fun ls hl => ?_)
  refine lv_iconst (v := (2 : Int32)) X.1 X.2.1 dX3_worthSign_18 (by decide) ?_
  refine lv_iload_n X.1 X.2.1 dX3_worthSign_19 rfl (lv_at hl 4 rfl) ?_
  refine lv_imul X.1 X.2.1 dX3_worthSign_20 ?_
  refine lv_i2l (v := ((2 : Int32) * p2).toInt64) X.1 X.2.1 dX3_worthSign_21 rfl ?_
  refine lv_aload_n X.1 X.2.1 dX3_worthSign_22 rfl (lv_at hl 1 rfl) ?_
  refine lv_iload_n X.1 X.2.1 dX3_worthSign_23 rfl (lv_at hl 2 rfl) ?_
  obtain ⟨r7, q8, h⟩ := bd_e h
  refine kc_v (As := [.int p0]) (rest := [.long (((2 : Int32) * p2).toInt64)]) X (k_X3_slopeShare N p0 σ _ q8) (cwV 1 X.2.2.2.2 gX3_worthSign_X3_slopeShare rfl rfl rfl hd_X3_slopeShare ⟨Nat.le_of_ble_eq_true rfl, Nat.le_of_ble_eq_true rfl⟩) hK hP hD hS hA (va_recv hK hP (ci := 2) (q0 := 0) rfl rfl) rfl hl.1 rfl (Nat.le_of_ble_eq_true rfl) dX3_worthSign_24 ⟨Nat.le_of_ble_eq_true rfl, Nat.le_of_ble_eq_true rfl⟩ (fun H locs hP hD hS => ?_)
  refine lv_lmul X.1 X.2.1 dX3_worthSign_27 ?_
  refine lv_lload X.1 X.2.1 dX3_worthSign_28 (lv_at hl 0 rfl) ?_
  refine lv_aload_n X.1 X.2.1 dX3_worthSign_30 rfl (lv_at hl 1 rfl) ?_
  refine gX3_points X (fun w h => (List.mem_cons_of_mem _ (List.mem_append_left _ (List.mem_append_left _ (List.mem_append_right _ h))))) hK hP (List.mem_cons_of_mem _ (List.mem_append_left _ (List.mem_append_left _ (List.mem_append_left _ (List.mem_append_left _ (List.mem_of_getElem? (i := 0) rfl)))))) dX3_worthSign_31 ?_
  refine lv_iload_n X.1 X.2.1 dX3_worthSign_34 rfl (lv_at hl 2 rfl) ?_
  refine lv_iload_n X.1 X.2.1 dX3_worthSign_35 rfl (lv_at hl 2 rfl) ?_
  obtain ⟨r9, q10, h⟩ := bd_e h
  refine kc_v (As := [.int p0, .int p0]) (rest := [.long x5, .long ((((2 : Int32) * p2).toInt64) * r7)]) X (k_X0_product p0 p0 σ _ q10) (cwV 2 X.2.2.2.2 gX3_worthSign_X0_product rfl rfl rfl hd_X0_product ⟨Nat.le_of_ble_eq_true rfl, Nat.le_of_ble_eq_true rfl⟩) hK hP hD hS hA (va_recv hK hP (ci := 0) (q0 := 1) rfl rfl) rfl hl.1 rfl (Nat.le_of_ble_eq_true rfl) dX3_worthSign_36 ⟨Nat.le_of_ble_eq_true rfl, Nat.le_of_ble_eq_true rfl⟩ (fun H locs hP hD hS => ?_)
  refine lv_i2l (v := r9.toInt64) X.1 X.2.1 dX3_worthSign_39 rfl ?_
  refine lv_lmul X.1 X.2.1 dX3_worthSign_40 ?_
  refine lv_lsub X.1 X.2.1 dX3_worthSign_41 ?_
  obtain ⟨x11, e12, h⟩ := lt_e h
  refine nm_l e12 ?_
  refine lv_lstore (lv' := [(6, .long x11), (4, .long x5), (0, .ref (a 0)), (1, .int p0), (2, .int p1), (3, .int p2)]) X.1 X.2.1 dX3_worthSign_42 hl (by decide) rfl (fun ls hl => ?_)
  refine lv_lload X.1 X.2.1 dX3_worthSign_44 (lv_at hl 1 rfl) ?_
  obtain ⟨r13, q14, h⟩ := bd_e h
  refine kc_s (As := [.long x5]) (rest := []) X (k_J13_signum_95d88 x5 _ q14) (va_cwS 1 X.2.2.2.2 gX3_worthSign_J13_signum_95d88 rfl rfl rfl hd_J13_signum_95d88 ⟨Nat.le_of_ble_eq_true rfl, Nat.le_of_ble_eq_true rfl⟩) hK hP hS hA rfl hl.1 rfl (Nat.le_of_ble_eq_true rfl) dX3_worthSign_46 ⟨Nat.le_of_ble_eq_true rfl, Nat.le_of_ble_eq_true rfl⟩ (fun H locs hP hS => ?_)
  refine lv_lload X.1 X.2.1 dX3_worthSign_49 (lv_at hl 0 rfl) ?_
  obtain ⟨r15, q16, h⟩ := bd_e h
  refine kc_s (As := [.long x11]) (rest := [.int r13]) X (k_J13_signum_95d88 x11 _ q16) (va_cwS 1 X.2.2.2.2 gX3_worthSign_J13_signum_95d88 rfl rfl rfl hd_J13_signum_95d88 ⟨Nat.le_of_ble_eq_true rfl, Nat.le_of_ble_eq_true rfl⟩) hK hP hS hA rfl hl.1 rfl (Nat.le_of_ble_eq_true rfl) dX3_worthSign_51 ⟨Nat.le_of_ble_eq_true rfl, Nat.le_of_ble_eq_true rfl⟩ (fun H locs hP hS => ?_)
  refine lv_imul X.1 X.2.1 dX3_worthSign_54 ?_
  have h := sm_e h
  subst h
  exact rt_i X hr hlk hK hP hD hS dX3_worthSign_55
def f_X3_change (N : Nat) (p0 : Int32) (p1 : Int32) (p2 : Int32) (σ : CS) : Option Int32 := (f_X0_has p0 σ).bind (fun r1 => if r1 = 0 then some (-2 : Int32) else (f_X3_isInBox p1 p2 σ).bind (fun r4 => if r4 = 0 then some (-2 : Int32) else (f_X3_isDone σ).bind (fun r7 => if r7 = 0 then some (-3 : Int32) else (f_X3_worthSign N p0 p1 p2 σ).bind (fun r10 => some r10))))
theorem hd_X3_change : yX3_change.cls = RX3 ∧ yX3_change.cls ≠ "java/lang/invoke/MethodHandle" ∧ yX3_change.cls ≠ "java/lang/invoke/VarHandle" ∧ (parseMethodDescriptor yX3_change.desc).map (fun d => d.parameters.length) = some 3 := by decide +kernel
set_option maxHeartbeats 4000000 in
set_option maxRecDepth 100000 in
theorem k_X3_change {l : Launch} {D : va_G} {k : Nat → ClassId} {a : Nat → Nat} {ρ : Nat → Nat} (N : Nat) (p0 : Int32) (p1 : Int32) (p2 : Int32) (σ : CS) (R : Int32) (h : f_X3_change N p0 p1 p2 σ = some R) : Ct l yX3_change wsX3_change ({ frames := 5, cells := 0, slots := 0, locals := 114 } : Room) D (cT k) (cW k a ρ σ) (cW k a ρ σ) [.ref (a 0), .int p0, .int p1, .int p2] (some (.int R)) := by
  refine ct_of (cc := cX3_change) (maxL := 4) (ret := (some .int)) (by decide) rfl (Nat.le_of_ble_eq_true rfl) ?_
  intro p e s m args below meth c A ls X hr hlk hK hA hP hD hS hl
  have X : CallFix p m c cX3_change 4 s args wsX3_change RX3 := X
  have hl : lv_has ls 4 [(0, .ref (a 0)), (1, .int p0), (2, .int p1), (3, .int p2)] := hl
  rw [f_X3_change] at h
  refine lv_aload_n X.1 X.2.1 dX3_change_0 rfl (lv_at hl 0 rfl) ?_
  refine gX3_points X (fun w h => (List.mem_cons_of_mem _ (List.mem_append_left _ (List.mem_append_left _ (List.mem_append_right _ h))))) hK hP (List.mem_cons_of_mem _ (List.mem_append_left _ (List.mem_append_left _ (List.mem_append_left _ (List.mem_append_left _ (List.mem_of_getElem? (i := 0) rfl)))))) dX3_change_1 ?_
  refine lv_iload_n X.1 X.2.1 dX3_change_4 rfl (lv_at hl 1 rfl) ?_
  obtain ⟨r1, q2, h⟩ := bd_e h
  refine kc_v (As := [.int p0]) (rest := []) X (k_X0_has p0 σ _ q2) (cwV 1 X.2.2.2.2 gX3_change_X0_has rfl rfl rfl hd_X0_has ⟨Nat.le_of_ble_eq_true rfl, Nat.le_of_ble_eq_true rfl⟩) hK hP hD hS hA (va_recv hK hP (ci := 0) (q0 := 1) rfl rfl) rfl hl.1 rfl (Nat.le_of_ble_eq_true rfl) dX3_change_5 ⟨Nat.le_of_ble_eq_true rfl, Nat.le_of_ble_eq_true rfl⟩ (fun H locs hP hD hS => ?_)
  refine lv_if_eq (tgt := 20) X.1 X.2.1 dX3_change_8 (by decide) (fun c3 => ?_) (fun c3 => ?_)
  · rw [if_pos c3] at h
    refine lv_bipush (v := (-2 : Int32)) X.1 X.2.1 dX3_change_20 (by decide) ?_
    have h := sm_e h
    subst h
    exact rt_i X hr hlk hK hP hD hS dX3_change_22
  · rw [if_neg c3] at h
    refine lv_aload_n X.1 X.2.1 dX3_change_11 rfl (lv_at hl 0 rfl) ?_
    refine lv_iload_n X.1 X.2.1 dX3_change_12 rfl (lv_at hl 2 rfl) ?_
    refine lv_iload_n X.1 X.2.1 dX3_change_13 rfl (lv_at hl 3 rfl) ?_
    obtain ⟨r4, q5, h⟩ := bd_e h
    refine kc_v (As := [.int p1, .int p2]) (rest := []) X (k_X3_isInBox p1 p2 σ _ q5) (cwV 2 X.2.2.2.2 gX3_change_X3_isInBox rfl rfl rfl hd_X3_isInBox ⟨Nat.le_of_ble_eq_true rfl, Nat.le_of_ble_eq_true rfl⟩) hK hP hD hS hA (va_recv hK hP (ci := 2) (q0 := 0) rfl rfl) rfl hl.1 rfl (Nat.le_of_ble_eq_true rfl) dX3_change_14 ⟨Nat.le_of_ble_eq_true rfl, Nat.le_of_ble_eq_true rfl⟩ (fun H locs hP hD hS => ?_)
    refine lv_if_ne (tgt := 23) X.1 X.2.1 dX3_change_17 (by decide) (fun c6 => ?_) (fun c6 => ?_)
    · rw [if_neg c6] at h
      refine lv_aload_n X.1 X.2.1 dX3_change_23 rfl (lv_at hl 0 rfl) ?_
      obtain ⟨r7, q8, h⟩ := bd_e h
      refine kc_v (As := []) (rest := []) X (k_X3_isDone σ _ q8) (cwV 0 X.2.2.2.2 gX3_change_X3_isDone rfl rfl rfl hd_X3_isDone ⟨Nat.le_of_ble_eq_true rfl, Nat.le_of_ble_eq_true rfl⟩) hK hP hD hS hA (va_recv hK hP (ci := 2) (q0 := 0) rfl rfl) rfl hl.1 rfl (Nat.le_of_ble_eq_true rfl) dX3_change_24 ⟨Nat.le_of_ble_eq_true rfl, Nat.le_of_ble_eq_true rfl⟩ (fun H locs hP hD hS => ?_)
      refine lv_if_eq (tgt := 40) X.1 X.2.1 dX3_change_27 (by decide) (fun c9 => ?_) (fun c9 => ?_)
      · rw [if_pos c9] at h
        refine lv_bipush (v := (-3 : Int32)) X.1 X.2.1 dX3_change_40 (by decide) ?_
        have h := sm_e h
        subst h
        exact rt_i X hr hlk hK hP hD hS dX3_change_42
      · rw [if_neg c9] at h
        refine lv_aload_n X.1 X.2.1 dX3_change_30 rfl (lv_at hl 0 rfl) ?_
        refine lv_iload_n X.1 X.2.1 dX3_change_31 rfl (lv_at hl 1 rfl) ?_
        refine lv_iload_n X.1 X.2.1 dX3_change_32 rfl (lv_at hl 2 rfl) ?_
        refine lv_iload_n X.1 X.2.1 dX3_change_33 rfl (lv_at hl 3 rfl) ?_
        obtain ⟨r10, q11, h⟩ := bd_e h
        refine kc_v (As := [.int p0, .int p1, .int p2]) (rest := []) X (k_X3_worthSign N p0 p1 p2 σ _ q11) (cwV 3 X.2.2.2.2 gX3_change_X3_worthSign rfl rfl rfl hd_X3_worthSign ⟨Nat.le_of_ble_eq_true rfl, Nat.le_of_ble_eq_true rfl⟩) hK hP hD hS hA (va_recv hK hP (ci := 2) (q0 := 0) rfl rfl) rfl hl.1 rfl (Nat.le_of_ble_eq_true rfl) dX3_change_34 ⟨Nat.le_of_ble_eq_true rfl, Nat.le_of_ble_eq_true rfl⟩ (fun H locs hP hD hS => ?_)
        refine lv_goto (tgt := 42) X.1 X.2.1 dX3_change_37 (by decide) ?_
        have h := sm_e h
        subst h
        exact rt_i X hr hlk hK hP hD hS dX3_change_42
    · rw [if_pos c6] at h
      refine lv_bipush (v := (-2 : Int32)) X.1 X.2.1 dX3_change_20 (by decide) ?_
      have h := sm_e h
      subst h
      exact rt_i X hr hlk hK hP hD hS dX3_change_22
def f_X3_decisionShare_L5 (N : Nat) : Nat → Int32 → Int32 → Int64 → Int32 → CS → Option Int64
  | 0, _, _, _, _, _ => none
  | n + 1, v1, v2, v3, v5, σ => if (c_sz σ) ≤ v5 then some v3 else (f_X3_share N v5 σ).bind (fun r2 => gd (inB v5 6) ((f_X0_kernel v5 v1 v2 σ).bind (fun r5 => lt_ (v3 + ((r2 * ((c_lb σ v5.toNatClampNeg).toInt64)) * (r5.toInt64))) (fun x7 => lt_ (v5 + (1 : Int32)) (fun x9 => f_X3_decisionShare_L5 N n v1 v2 x7 x9 σ)))))
set_option maxHeartbeats 4000000 in
set_option maxRecDepth 100000 in
theorem t_X3_decisionShare_L5 {p : Program} {l : Launch} {e : Env} {s : State} {m : MethodId} {args : Array Value} {below : List Frame} {meth : Method} {c : Code} {D : va_G} {A : Nat → Prop} {k : Nat → ClassId} {a : Nat → Nat} {ρ : Nat → Nat} (X : CallFix p m c cX3_decisionShare 6 s args wsX3_decisionShare RX3) (hr : meth.sig.returnType = some .long) (hlk : meth.locks = false) (hK : va_K D vwCl (cT k) s) (hA : ∀ q : Nat, s.heap.size ≤ q → A q) (N : Nat) : ∀ (n : Nat) (v1 : Int32) (v2 : Int32) (v3 : Int64) (v5 : Int32) (σ : CS) (R : Int64), f_X3_decisionShare_L5 N n v1 v2 v3 v5 σ = some R → ∀ (H : Heap) (locs : List Loc) (ls : Array Slot), va_P D vwCl (cW k a ρ σ) H → va_D A (cW k a ρ σ) → va_S A s.heap H locs → lv_has ls 6 [(0, .ref (a 0)), (1, .int v1), (2, .int v2), (3, .long v3), (5, .int v5)] → W p l e ({ frames := 3, cells := 0, slots := 0, locals := 63 } : Room) s m args below meth c H locs 0 0 (MQ below (cQ D (cT k) A (cW k a ρ σ) (some (.long R))) args s 0 0 A) (F0 m 5 ls []) := by
  intro n
  induction n with
  | zero =>
    intro v1 v2 v3 v5 σ R h
    exact absurd h (by simp [f_X3_decisionShare_L5])
  | succ n ih =>
    intro v1 v2 v3 v5 σ R h H locs ls hP hD hS hl
    rw [f_X3_decisionShare_L5] at h
    refine lv_iload X.1 X.2.1 dX3_decisionShare_5 (lv_at hl 4 rfl) ?_
    refine lv_aload_n X.1 X.2.1 dX3_decisionShare_7 rfl (lv_at hl 0 rfl) ?_
    refine gX3_points X (fun w h => (List.mem_cons_of_mem _ (List.mem_append_left _ (List.mem_append_left _ (List.mem_append_right _ h))))) hK hP (List.mem_cons_of_mem _ (List.mem_append_left _ (List.mem_append_left _ (List.mem_append_left _ (List.mem_append_left _ (List.mem_of_getElem? (i := 0) rfl)))))) dX3_decisionShare_8 ?_
    refine gX0_size X (fun w h => (List.mem_cons_of_mem _ (List.mem_append_left _ (List.mem_append_right _ h)))) hK hP (List.mem_cons_of_mem _ (List.mem_append_left _ (List.mem_append_left _ (List.mem_append_left _ (List.mem_append_left _ (List.mem_of_getElem? (i := 1) rfl)))))) dX3_decisionShare_11 ?_
    refine lv_icmp_ge (tgt := 57) X.1 X.2.1 dX3_decisionShare_14 (by decide) (fun c1 => ?_) (fun c1 => ?_)
    · rw [if_pos c1] at h
      refine lv_lload_n X.1 X.2.1 dX3_decisionShare_57 rfl (lv_at hl 3 rfl) ?_
      have h := sm_e h
      subst h
      exact rt_l X hr hlk hK hP hD hS dX3_decisionShare_58
    · rw [if_neg c1] at h
      refine lv_lload_n X.1 X.2.1 dX3_decisionShare_17 rfl (lv_at hl 3 rfl) ?_
      refine lv_aload_n X.1 X.2.1 dX3_decisionShare_18 rfl (lv_at hl 0 rfl) ?_
      refine lv_iload X.1 X.2.1 dX3_decisionShare_19 (lv_at hl 4 rfl) ?_
      obtain ⟨r2, q3, h⟩ := bd_e h
      refine kc_v (As := [.int v5]) (rest := [.long v3]) X (k_X3_share N v5 σ _ q3) (cwV 1 X.2.2.2.2 gX3_decisionShare_X3_share rfl rfl rfl hd_X3_share ⟨Nat.le_of_ble_eq_true rfl, Nat.le_of_ble_eq_true rfl⟩) hK hP hD hS hA (va_recv hK hP (ci := 2) (q0 := 0) rfl rfl) rfl hl.1 rfl (Nat.le_of_ble_eq_true rfl) dX3_decisionShare_21 ⟨Nat.le_of_ble_eq_true rfl, Nat.le_of_ble_eq_true rfl⟩ (fun H locs hP hD hS => ?_)
      refine lv_aload_n X.1 X.2.1 dX3_decisionShare_24 rfl (lv_at hl 0 rfl) ?_
      refine gX3_points X (fun w h => (List.mem_cons_of_mem _ (List.mem_append_left _ (List.mem_append_left _ (List.mem_append_right _ h))))) hK hP (List.mem_cons_of_mem _ (List.mem_append_left _ (List.mem_append_left _ (List.mem_append_left _ (List.mem_append_left _ (List.mem_of_getElem? (i := 0) rfl)))))) dX3_decisionShare_25 ?_
      refine gX0_label X (fun w h => (List.mem_cons_of_mem _ (List.mem_append_left _ (List.mem_append_right _ h)))) hK hP (List.mem_cons_of_mem _ (List.mem_append_left _ (List.mem_append_left _ (List.mem_append_left _ (List.mem_append_left _ (List.mem_of_getElem? (i := 2) rfl)))))) dX3_decisionShare_28 ?_
      refine lv_iload X.1 X.2.1 dX3_decisionShare_31 (lv_at hl 4 rfl) ?_
      obtain ⟨g4, h⟩ := gd_e h
      refine lc_lb X hK hP g4 dX3_decisionShare_33 ?_
      refine lv_i2l (v := (c_lb σ v5.toNatClampNeg).toInt64) X.1 X.2.1 dX3_decisionShare_34 rfl ?_
      refine lv_lmul X.1 X.2.1 dX3_decisionShare_35 ?_
      refine lv_aload_n X.1 X.2.1 dX3_decisionShare_36 rfl (lv_at hl 0 rfl) ?_
      refine gX3_points X (fun w h => (List.mem_cons_of_mem _ (List.mem_append_left _ (List.mem_append_left _ (List.mem_append_right _ h))))) hK hP (List.mem_cons_of_mem _ (List.mem_append_left _ (List.mem_append_left _ (List.mem_append_left _ (List.mem_append_left _ (List.mem_of_getElem? (i := 0) rfl)))))) dX3_decisionShare_37 ?_
      refine lv_iload X.1 X.2.1 dX3_decisionShare_40 (lv_at hl 4 rfl) ?_
      refine lv_iload_n X.1 X.2.1 dX3_decisionShare_42 rfl (lv_at hl 1 rfl) ?_
      refine lv_iload_n X.1 X.2.1 dX3_decisionShare_43 rfl (lv_at hl 2 rfl) ?_
      obtain ⟨r5, q6, h⟩ := bd_e h
      refine kc_v (As := [.int v5, .int v1, .int v2]) (rest := [.long (r2 * ((c_lb σ v5.toNatClampNeg).toInt64)), .long v3]) X (k_X0_kernel v5 v1 v2 σ _ q6) (cwV 3 X.2.2.2.2 gX3_decisionShare_X0_kernel rfl rfl rfl hd_X0_kernel ⟨Nat.le_of_ble_eq_true rfl, Nat.le_of_ble_eq_true rfl⟩) hK hP hD hS hA (va_recv hK hP (ci := 0) (q0 := 1) rfl rfl) rfl hl.1 rfl (Nat.le_of_ble_eq_true rfl) dX3_decisionShare_44 ⟨Nat.le_of_ble_eq_true rfl, Nat.le_of_ble_eq_true rfl⟩ (fun H locs hP hD hS => ?_)
      refine lv_i2l (v := r5.toInt64) X.1 X.2.1 dX3_decisionShare_47 rfl ?_
      refine lv_lmul X.1 X.2.1 dX3_decisionShare_48 ?_
      refine lv_ladd X.1 X.2.1 dX3_decisionShare_49 ?_
      obtain ⟨x7, e8, h⟩ := lt_e h
      refine nm_l e8 ?_
      refine lv_lstore_n (lv' := [(3, .long x7), (0, .ref (a 0)), (1, .int v1), (2, .int v2), (5, .int v5)]) X.1 X.2.1 dX3_decisionShare_50 rfl hl (by decide) rfl (fun ls hl => ?_)
      obtain ⟨x9, e10, h⟩ := lt_e h
      refine lv_iinc (v := x9) (lv' := [(5, .int x9), (3, .long x7), (0, .ref (a 0)), (1, .int v1), (2, .int v2)]) X.1 X.2.1 dX3_decisionShare_51 hl (k := 4) rfl e10.symm (by decide) rfl (fun ls hl => ?_)
      refine lv_goto (tgt := 5) X.1 X.2.1 dX3_decisionShare_54 (by decide) ?_
      exact ih v1 v2 x7 x9 σ _ h _ _ _ hP hD hS (lv_sub hl [2, 3, 4, 1, 0] rfl)
def f_X3_decisionShare (N : Nat) (p0 : Int32) (p1 : Int32) (σ : CS) : Option Int64 := f_X3_decisionShare_L5 N N p0 p1 (0 : Int64) (0 : Int32) σ
theorem hd_X3_decisionShare : yX3_decisionShare.cls = RX3 ∧ yX3_decisionShare.cls ≠ "java/lang/invoke/MethodHandle" ∧ yX3_decisionShare.cls ≠ "java/lang/invoke/VarHandle" ∧ (parseMethodDescriptor yX3_decisionShare.desc).map (fun d => d.parameters.length) = some 2 := by decide +kernel
set_option maxHeartbeats 4000000 in
set_option maxRecDepth 100000 in
theorem k_X3_decisionShare {l : Launch} {D : va_G} {k : Nat → ClassId} {a : Nat → Nat} {ρ : Nat → Nat} (N : Nat) (p0 : Int32) (p1 : Int32) (σ : CS) (R : Int64) (h : f_X3_decisionShare N p0 p1 σ = some R) : Ct l yX3_decisionShare wsX3_decisionShare ({ frames := 3, cells := 0, slots := 0, locals := 63 } : Room) D (cT k) (cW k a ρ σ) (cW k a ρ σ) [.ref (a 0), .int p0, .int p1] (some (.long R)) := by
  refine ct_of (cc := cX3_decisionShare) (maxL := 6) (ret := (some .long)) (by decide) rfl (Nat.le_of_ble_eq_true rfl) ?_
  intro p e s m args below meth c A ls X hr hlk hK hA hP hD hS hl
  have X : CallFix p m c cX3_decisionShare 6 s args wsX3_decisionShare RX3 := X
  have hl : lv_has ls 6 [(0, .ref (a 0)), (1, .int p0), (2, .int p1)] := hl
  rw [f_X3_decisionShare] at h
  refine lv_lconst (v := (0 : Int64)) X.1 X.2.1 dX3_decisionShare_0 (by decide) ?_
  refine lv_lstore_n (lv' := [(3, .long (0 : Int64)), (0, .ref (a 0)), (1, .int p0), (2, .int p1)]) X.1 X.2.1 dX3_decisionShare_1 rfl hl (by decide) rfl (fun ls hl => ?_)
  refine lv_iconst (v := (0 : Int32)) X.1 X.2.1 dX3_decisionShare_2 (by decide) ?_
  refine lv_istore (lv' := [(5, .int (0 : Int32)), (3, .long (0 : Int64)), (0, .ref (a 0)), (1, .int p0), (2, .int p1)]) X.1 X.2.1 dX3_decisionShare_3 hl (by decide) rfl (fun ls hl => ?_)
  exact t_X3_decisionShare_L5 X hr hlk hK hA N N p0 p1 (0 : Int64) (0 : Int32) σ _ h _ _ _ hP hD hS (lv_sub hl [2, 3, 4, 1, 0] rfl)
def f_X3_decision (N : Nat) (p0 : Int32) (p1 : Int32) (p2 : Int32) (σ : CS) : Option Int64 := (f_X3_isDone σ).bind (fun r1 => if r1 = 0 then some (0 : Int64) else (f_X0_isPlace p0 p1 ).bind (fun r4 => if r4 = 0 then some (0 : Int64) else (f_X3_isPart p2 ).bind (fun r7 => if r7 = 0 then some (0 : Int64) else (f_X3_decisionShare N p0 p1 σ).bind (fun r10 => (f_X3_shareBase σ).bind (fun r12 => (f_X2_part N r10 r12 p2 ).bind (fun r14 => some r14))))))
theorem hd_X3_decision : yX3_decision.cls = RX3 ∧ yX3_decision.cls ≠ "java/lang/invoke/MethodHandle" ∧ yX3_decision.cls ≠ "java/lang/invoke/VarHandle" ∧ (parseMethodDescriptor yX3_decision.desc).map (fun d => d.parameters.length) = some 3 := by decide +kernel
set_option maxHeartbeats 4000000 in
set_option maxRecDepth 100000 in
theorem k_X3_decision {l : Launch} {D : va_G} {k : Nat → ClassId} {a : Nat → Nat} {ρ : Nat → Nat} (N : Nat) (p0 : Int32) (p1 : Int32) (p2 : Int32) (σ : CS) (R : Int64) (h : f_X3_decision N p0 p1 p2 σ = some R) : Ct l yX3_decision wsX3_decision ({ frames := 4, cells := 0, slots := 0, locals := 88 } : Room) D (cT k) (cW k a ρ σ) (cW k a ρ σ) [.ref (a 0), .int p0, .int p1, .int p2] (some (.long R)) := by
  refine ct_of (cc := cX3_decision) (maxL := 4) (ret := (some .long)) (by decide) rfl (Nat.le_of_ble_eq_true rfl) ?_
  intro p e s m args below meth c A ls X hr hlk hK hA hP hD hS hl
  have X : CallFix p m c cX3_decision 4 s args wsX3_decision RX3 := X
  have hl : lv_has ls 4 [(0, .ref (a 0)), (1, .int p0), (2, .int p1), (3, .int p2)] := hl
  rw [f_X3_decision] at h
  refine lv_aload_n X.1 X.2.1 dX3_decision_0 rfl (lv_at hl 0 rfl) ?_
  obtain ⟨r1, q2, h⟩ := bd_e h
  refine kc_v (As := []) (rest := []) X (k_X3_isDone σ _ q2) (cwV 0 X.2.2.2.2 gX3_decision_X3_isDone rfl rfl rfl hd_X3_isDone ⟨Nat.le_of_ble_eq_true rfl, Nat.le_of_ble_eq_true rfl⟩) hK hP hD hS hA (va_recv hK hP (ci := 2) (q0 := 0) rfl rfl) rfl hl.1 rfl (Nat.le_of_ble_eq_true rfl) dX3_decision_1 ⟨Nat.le_of_ble_eq_true rfl, Nat.le_of_ble_eq_true rfl⟩ (fun H locs hP hD hS => ?_)
  refine lv_if_eq (tgt := 22) X.1 X.2.1 dX3_decision_4 (by decide) (fun c3 => ?_) (fun c3 => ?_)
  · rw [if_pos c3] at h
    refine lv_lconst (v := (0 : Int64)) X.1 X.2.1 dX3_decision_22 (by decide) ?_
    have h := sm_e h
    subst h
    exact rt_l X hr hlk hK hP hD hS dX3_decision_23
  · rw [if_neg c3] at h
    refine lv_iload_n X.1 X.2.1 dX3_decision_7 rfl (lv_at hl 1 rfl) ?_
    refine lv_iload_n X.1 X.2.1 dX3_decision_8 rfl (lv_at hl 2 rfl) ?_
    obtain ⟨r4, q5, h⟩ := bd_e h
    refine kc_s (As := [.int p0, .int p1]) (rest := []) X (k_X0_isPlace p0 p1 _ q5) (va_cwS 2 X.2.2.2.2 gX3_decision_X0_isPlace rfl rfl rfl hd_X0_isPlace ⟨Nat.le_of_ble_eq_true rfl, Nat.le_of_ble_eq_true rfl⟩) hK hP hS hA rfl hl.1 rfl (Nat.le_of_ble_eq_true rfl) dX3_decision_9 ⟨Nat.le_of_ble_eq_true rfl, Nat.le_of_ble_eq_true rfl⟩ (fun H locs hP hS => ?_)
    refine lv_if_eq (tgt := 22) X.1 X.2.1 dX3_decision_12 (by decide) (fun c6 => ?_) (fun c6 => ?_)
    · rw [if_pos c6] at h
      refine lv_lconst (v := (0 : Int64)) X.1 X.2.1 dX3_decision_22 (by decide) ?_
      have h := sm_e h
      subst h
      exact rt_l X hr hlk hK hP hD hS dX3_decision_23
    · rw [if_neg c6] at h
      refine lv_iload_n X.1 X.2.1 dX3_decision_15 rfl (lv_at hl 3 rfl) ?_
      obtain ⟨r7, q8, h⟩ := bd_e h
      refine kc_s (As := [.int p2]) (rest := []) X (k_X3_isPart p2 _ q8) (va_cwS 1 X.2.2.2.2 gX3_decision_X3_isPart rfl rfl rfl hd_X3_isPart ⟨Nat.le_of_ble_eq_true rfl, Nat.le_of_ble_eq_true rfl⟩) hK hP hS hA rfl hl.1 rfl (Nat.le_of_ble_eq_true rfl) dX3_decision_16 ⟨Nat.le_of_ble_eq_true rfl, Nat.le_of_ble_eq_true rfl⟩ (fun H locs hP hS => ?_)
      refine lv_if_ne (tgt := 24) X.1 X.2.1 dX3_decision_19 (by decide) (fun c9 => ?_) (fun c9 => ?_)
      · rw [if_neg c9] at h
        refine lv_aload_n X.1 X.2.1 dX3_decision_24 rfl (lv_at hl 0 rfl) ?_
        refine lv_iload_n X.1 X.2.1 dX3_decision_25 rfl (lv_at hl 1 rfl) ?_
        refine lv_iload_n X.1 X.2.1 dX3_decision_26 rfl (lv_at hl 2 rfl) ?_
        obtain ⟨r10, q11, h⟩ := bd_e h
        refine kc_v (As := [.int p0, .int p1]) (rest := []) X (k_X3_decisionShare N p0 p1 σ _ q11) (cwV 2 X.2.2.2.2 gX3_decision_X3_decisionShare rfl rfl rfl hd_X3_decisionShare ⟨Nat.le_of_ble_eq_true rfl, Nat.le_of_ble_eq_true rfl⟩) hK hP hD hS hA (va_recv hK hP (ci := 2) (q0 := 0) rfl rfl) rfl hl.1 rfl (Nat.le_of_ble_eq_true rfl) dX3_decision_27 ⟨Nat.le_of_ble_eq_true rfl, Nat.le_of_ble_eq_true rfl⟩ (fun H locs hP hD hS => ?_)
        refine lv_aload_n X.1 X.2.1 dX3_decision_30 rfl (lv_at hl 0 rfl) ?_
        obtain ⟨r12, q13, h⟩ := bd_e h
        refine kc_v (As := []) (rest := [.long r10]) X (k_X3_shareBase σ _ q13) (cwV 0 X.2.2.2.2 gX3_decision_X3_shareBase rfl rfl rfl hd_X3_shareBase ⟨Nat.le_of_ble_eq_true rfl, Nat.le_of_ble_eq_true rfl⟩) hK hP hD hS hA (va_recv hK hP (ci := 2) (q0 := 0) rfl rfl) rfl hl.1 rfl (Nat.le_of_ble_eq_true rfl) dX3_decision_31 ⟨Nat.le_of_ble_eq_true rfl, Nat.le_of_ble_eq_true rfl⟩ (fun H locs hP hD hS => ?_)
        refine lv_iload_n X.1 X.2.1 dX3_decision_34 rfl (lv_at hl 3 rfl) ?_
        obtain ⟨r14, q15, h⟩ := bd_e h
        refine kc_s (As := [.long r10, .long r12, .int p2]) (rest := []) X (k_X2_part N r10 r12 p2 _ q15) (va_cwS 3 X.2.2.2.2 gX3_decision_X2_part rfl rfl rfl hd_X2_part ⟨Nat.le_of_ble_eq_true rfl, Nat.le_of_ble_eq_true rfl⟩) hK hP hS hA rfl hl.1 rfl (Nat.le_of_ble_eq_true rfl) dX3_decision_35 ⟨Nat.le_of_ble_eq_true rfl, Nat.le_of_ble_eq_true rfl⟩ (fun H locs hP hS => ?_)
        have h := sm_e h
        subst h
        exact rt_l X hr hlk hK hP hD hS dX3_decision_38
      · rw [if_pos c9] at h
        refine lv_lconst (v := (0 : Int64)) X.1 X.2.1 dX3_decision_22 (by decide) ?_
        have h := sm_e h
        subst h
        exact rt_l X hr hlk hK hP hD hS dX3_decision_23
def f_X3_predict (N : Nat) (p0 : Int32) (p1 : Int32) (σ : CS) : Option Int32 := (f_X0_isPlace p0 p1 ).bind (fun r1 => if r1 = 0 then some (-2 : Int32) else (f_X3_isDone σ).bind (fun r4 => if r4 = 0 then some (-3 : Int32) else (f_X3_decisionShare N p0 p1 σ).bind (fun r7 => (f_J13_signum_95d88 r7 ).bind (fun r9 => some r9))))
theorem hd_X3_predict : yX3_predict.cls = RX3 ∧ yX3_predict.cls ≠ "java/lang/invoke/MethodHandle" ∧ yX3_predict.cls ≠ "java/lang/invoke/VarHandle" ∧ (parseMethodDescriptor yX3_predict.desc).map (fun d => d.parameters.length) = some 2 := by decide +kernel
set_option maxHeartbeats 4000000 in
set_option maxRecDepth 100000 in
theorem k_X3_predict {l : Launch} {D : va_G} {k : Nat → ClassId} {a : Nat → Nat} {ρ : Nat → Nat} (N : Nat) (p0 : Int32) (p1 : Int32) (σ : CS) (R : Int32) (h : f_X3_predict N p0 p1 σ = some R) : Ct l yX3_predict wsX3_predict ({ frames := 4, cells := 0, slots := 0, locals := 88 } : Room) D (cT k) (cW k a ρ σ) (cW k a ρ σ) [.ref (a 0), .int p0, .int p1] (some (.int R)) := by
  refine ct_of (cc := cX3_predict) (maxL := 3) (ret := (some .int)) (by decide) rfl (Nat.le_of_ble_eq_true rfl) ?_
  intro p e s m args below meth c A ls X hr hlk hK hA hP hD hS hl
  have X : CallFix p m c cX3_predict 3 s args wsX3_predict RX3 := X
  have hl : lv_has ls 3 [(0, .ref (a 0)), (1, .int p0), (2, .int p1)] := hl
  rw [f_X3_predict] at h
  refine lv_iload_n X.1 X.2.1 dX3_predict_0 rfl (lv_at hl 1 rfl) ?_
  refine lv_iload_n X.1 X.2.1 dX3_predict_1 rfl (lv_at hl 2 rfl) ?_
  obtain ⟨r1, q2, h⟩ := bd_e h
  refine kc_s (As := [.int p0, .int p1]) (rest := []) X (k_X0_isPlace p0 p1 _ q2) (va_cwS 2 X.2.2.2.2 gX3_predict_X0_isPlace rfl rfl rfl hd_X0_isPlace ⟨Nat.le_of_ble_eq_true rfl, Nat.le_of_ble_eq_true rfl⟩) hK hP hS hA rfl hl.1 rfl (Nat.le_of_ble_eq_true rfl) dX3_predict_2 ⟨Nat.le_of_ble_eq_true rfl, Nat.le_of_ble_eq_true rfl⟩ (fun H locs hP hS => ?_)
  refine lv_if_ne (tgt := 11) X.1 X.2.1 dX3_predict_5 (by decide) (fun c3 => ?_) (fun c3 => ?_)
  · rw [if_neg c3] at h
    refine lv_aload_n X.1 X.2.1 dX3_predict_11 rfl (lv_at hl 0 rfl) ?_
    obtain ⟨r4, q5, h⟩ := bd_e h
    refine kc_v (As := []) (rest := []) X (k_X3_isDone σ _ q5) (cwV 0 X.2.2.2.2 gX3_predict_X3_isDone rfl rfl rfl hd_X3_isDone ⟨Nat.le_of_ble_eq_true rfl, Nat.le_of_ble_eq_true rfl⟩) hK hP hD hS hA (va_recv hK hP (ci := 2) (q0 := 0) rfl rfl) rfl hl.1 rfl (Nat.le_of_ble_eq_true rfl) dX3_predict_12 ⟨Nat.le_of_ble_eq_true rfl, Nat.le_of_ble_eq_true rfl⟩ (fun H locs hP hD hS => ?_)
    refine lv_if_eq (tgt := 30) X.1 X.2.1 dX3_predict_15 (by decide) (fun c6 => ?_) (fun c6 => ?_)
    · rw [if_pos c6] at h
      refine lv_bipush (v := (-3 : Int32)) X.1 X.2.1 dX3_predict_30 (by decide) ?_
      have h := sm_e h
      subst h
      exact rt_i X hr hlk hK hP hD hS dX3_predict_32
    · rw [if_neg c6] at h
      refine lv_aload_n X.1 X.2.1 dX3_predict_18 rfl (lv_at hl 0 rfl) ?_
      refine lv_iload_n X.1 X.2.1 dX3_predict_19 rfl (lv_at hl 1 rfl) ?_
      refine lv_iload_n X.1 X.2.1 dX3_predict_20 rfl (lv_at hl 2 rfl) ?_
      obtain ⟨r7, q8, h⟩ := bd_e h
      refine kc_v (As := [.int p0, .int p1]) (rest := []) X (k_X3_decisionShare N p0 p1 σ _ q8) (cwV 2 X.2.2.2.2 gX3_predict_X3_decisionShare rfl rfl rfl hd_X3_decisionShare ⟨Nat.le_of_ble_eq_true rfl, Nat.le_of_ble_eq_true rfl⟩) hK hP hD hS hA (va_recv hK hP (ci := 2) (q0 := 0) rfl rfl) rfl hl.1 rfl (Nat.le_of_ble_eq_true rfl) dX3_predict_21 ⟨Nat.le_of_ble_eq_true rfl, Nat.le_of_ble_eq_true rfl⟩ (fun H locs hP hD hS => ?_)
      obtain ⟨r9, q10, h⟩ := bd_e h
      refine kc_s (As := [.long r7]) (rest := []) X (k_J13_signum_95d88 r7 _ q10) (va_cwS 1 X.2.2.2.2 gX3_predict_J13_signum_95d88 rfl rfl rfl hd_J13_signum_95d88 ⟨Nat.le_of_ble_eq_true rfl, Nat.le_of_ble_eq_true rfl⟩) hK hP hS hA rfl hl.1 rfl (Nat.le_of_ble_eq_true rfl) dX3_predict_24 ⟨Nat.le_of_ble_eq_true rfl, Nat.le_of_ble_eq_true rfl⟩ (fun H locs hP hS => ?_)
      refine lv_goto (tgt := 32) X.1 X.2.1 dX3_predict_27 (by decide) ?_
      have h := sm_e h
      subst h
      exact rt_i X hr hlk hK hP hD hS dX3_predict_32
  · rw [if_pos c3] at h
    refine lv_bipush (v := (-2 : Int32)) X.1 X.2.1 dX3_predict_8 (by decide) ?_
    have h := sm_e h
    subst h
    exact rt_i X hr hlk hK hP hD hS dX3_predict_10
def f_X3_supporters_L4 (N : Nat) : Nat → Int32 → Int32 → CS → Option Int32
  | 0, _, _, _ => none
  | n + 1, v1, v2, σ => if (c_sz σ) ≤ v2 then some v1 else (f_X3_share N v2 σ).bind (fun r2 => if (lg_cmp r2 (0 : Int64)) ≤ 0 then lt_ (v2 + (1 : Int32)) (fun x5 => f_X3_supporters_L4 N n v1 x5 σ) else lt_ (v1 + (1 : Int32)) (fun x7 => lt_ (v2 + (1 : Int32)) (fun x9 => f_X3_supporters_L4 N n x7 x9 σ)))
set_option maxHeartbeats 4000000 in
set_option maxRecDepth 100000 in
theorem t_X3_supporters_L4 {p : Program} {l : Launch} {e : Env} {s : State} {m : MethodId} {args : Array Value} {below : List Frame} {meth : Method} {c : Code} {D : va_G} {A : Nat → Prop} {k : Nat → ClassId} {a : Nat → Nat} {ρ : Nat → Nat} (X : CallFix p m c cX3_supporters 3 s args wsX3_supporters RX3) (hr : meth.sig.returnType = some .int) (hlk : meth.locks = false) (hK : va_K D vwCl (cT k) s) (hA : ∀ q : Nat, s.heap.size ≤ q → A q) (N : Nat) : ∀ (n : Nat) (v1 : Int32) (v2 : Int32) (σ : CS) (R : Int32), f_X3_supporters_L4 N n v1 v2 σ = some R → ∀ (H : Heap) (locs : List Loc) (ls : Array Slot), va_P D vwCl (cW k a ρ σ) H → va_D A (cW k a ρ σ) → va_S A s.heap H locs → lv_has ls 3 [(0, .ref (a 0)), (1, .int v1), (2, .int v2)] → W p l e ({ frames := 3, cells := 0, slots := 0, locals := 63 } : Room) s m args below meth c H locs 0 0 (MQ below (cQ D (cT k) A (cW k a ρ σ) (some (.int R))) args s 0 0 A) (F0 m 4 ls []) := by
  intro n
  induction n with
  | zero =>
    intro v1 v2 σ R h
    exact absurd h (by simp [f_X3_supporters_L4])
  | succ n ih =>
    intro v1 v2 σ R h H locs ls hP hD hS hl
    rw [f_X3_supporters_L4] at h
    refine lv_iload_n X.1 X.2.1 dX3_supporters_4 rfl (lv_at hl 2 rfl) ?_
    refine lv_aload_n X.1 X.2.1 dX3_supporters_5 rfl (lv_at hl 0 rfl) ?_
    refine gX3_points X (fun w h => (List.mem_cons_of_mem _ (List.mem_append_left _ (List.mem_append_left _ (List.mem_append_right _ h))))) hK hP (List.mem_cons_of_mem _ (List.mem_append_left _ (List.mem_append_left _ (List.mem_append_left _ (List.mem_of_getElem? (i := 0) rfl))))) dX3_supporters_6 ?_
    refine gX0_size X (fun w h => (List.mem_cons_of_mem _ (List.mem_append_left _ (List.mem_append_right _ h)))) hK hP (List.mem_cons_of_mem _ (List.mem_append_left _ (List.mem_append_left _ (List.mem_append_left _ (List.mem_of_getElem? (i := 1) rfl))))) dX3_supporters_9 ?_
    refine lv_icmp_ge (tgt := 34) X.1 X.2.1 dX3_supporters_12 (by decide) (fun c1 => ?_) (fun c1 => ?_)
    · rw [if_pos c1] at h
      refine lv_iload_n X.1 X.2.1 dX3_supporters_34 rfl (lv_at hl 1 rfl) ?_
      have h := sm_e h
      subst h
      exact rt_i X hr hlk hK hP hD hS dX3_supporters_35
    · rw [if_neg c1] at h
      refine lv_aload_n X.1 X.2.1 dX3_supporters_15 rfl (lv_at hl 0 rfl) ?_
      refine lv_iload_n X.1 X.2.1 dX3_supporters_16 rfl (lv_at hl 2 rfl) ?_
      obtain ⟨r2, q3, h⟩ := bd_e h
      refine kc_v (As := [.int v2]) (rest := []) X (k_X3_share N v2 σ _ q3) (cwV 1 X.2.2.2.2 gX3_supporters_X3_share rfl rfl rfl hd_X3_share ⟨Nat.le_of_ble_eq_true rfl, Nat.le_of_ble_eq_true rfl⟩) hK hP hD hS hA (va_recv hK hP (ci := 2) (q0 := 0) rfl rfl) rfl hl.1 rfl (Nat.le_of_ble_eq_true rfl) dX3_supporters_17 ⟨Nat.le_of_ble_eq_true rfl, Nat.le_of_ble_eq_true rfl⟩ (fun H locs hP hD hS => ?_)
      refine lv_lconst (v := (0 : Int64)) X.1 X.2.1 dX3_supporters_20 (by decide) ?_
      refine W.lcmp X.1 X.2.1 dX3_supporters_21 ?_
      refine lv_if_le (tgt := 28) X.1 X.2.1 dX3_supporters_22 (by decide) (fun c4 => ?_) (fun c4 => ?_)
      · rw [if_pos c4] at h
        obtain ⟨x5, e6, h⟩ := lt_e h
        refine lv_iinc (v := x5) (lv' := [(2, .int x5), (0, .ref (a 0)), (1, .int v1)]) X.1 X.2.1 dX3_supporters_28 hl (k := 2) rfl e6.symm (by decide) rfl (fun ls hl => ?_)
        refine lv_goto (tgt := 4) X.1 X.2.1 dX3_supporters_31 (by decide) ?_
        exact ih v1 x5 σ _ h _ _ _ hP hD hS (lv_sub hl [1, 2, 0] rfl)
      · rw [if_neg c4] at h
        obtain ⟨x7, e8, h⟩ := lt_e h
        refine lv_iinc (v := x7) (lv' := [(1, .int x7), (0, .ref (a 0)), (2, .int v2)]) X.1 X.2.1 dX3_supporters_25 hl (k := 1) rfl e8.symm (by decide) rfl (fun ls hl => ?_)
        obtain ⟨x9, e10, h⟩ := lt_e h
        refine lv_iinc (v := x9) (lv' := [(2, .int x9), (1, .int x7), (0, .ref (a 0))]) X.1 X.2.1 dX3_supporters_28 hl (k := 2) rfl e10.symm (by decide) rfl (fun ls hl => ?_)
        refine lv_goto (tgt := 4) X.1 X.2.1 dX3_supporters_31 (by decide) ?_
        exact ih x7 x9 σ _ h _ _ _ hP hD hS (lv_sub hl [2, 1, 0] rfl)
def f_X3_supporters (N : Nat) (σ : CS) : Option Int32 := f_X3_supporters_L4 N N (0 : Int32) (0 : Int32) σ
theorem hd_X3_supporters : yX3_supporters.cls = RX3 ∧ yX3_supporters.cls ≠ "java/lang/invoke/MethodHandle" ∧ yX3_supporters.cls ≠ "java/lang/invoke/VarHandle" ∧ (parseMethodDescriptor yX3_supporters.desc).map (fun d => d.parameters.length) = some 0 := by decide +kernel
set_option maxHeartbeats 4000000 in
set_option maxRecDepth 100000 in
theorem k_X3_supporters {l : Launch} {D : va_G} {k : Nat → ClassId} {a : Nat → Nat} {ρ : Nat → Nat} (N : Nat)  (σ : CS) (R : Int32) (h : f_X3_supporters N σ = some R) : Ct l yX3_supporters wsX3_supporters ({ frames := 3, cells := 0, slots := 0, locals := 63 } : Room) D (cT k) (cW k a ρ σ) (cW k a ρ σ) [.ref (a 0)] (some (.int R)) := by
  refine ct_of (cc := cX3_supporters) (maxL := 3) (ret := (some .int)) (by decide) rfl (Nat.le_of_ble_eq_true rfl) ?_
  intro p e s m args below meth c A ls X hr hlk hK hA hP hD hS hl
  have X : CallFix p m c cX3_supporters 3 s args wsX3_supporters RX3 := X
  have hl : lv_has ls 3 [(0, .ref (a 0))] := hl
  rw [f_X3_supporters] at h
  refine lv_iconst (v := (0 : Int32)) X.1 X.2.1 dX3_supporters_0 (by decide) ?_
  refine lv_istore_n (lv' := [(1, .int (0 : Int32)), (0, .ref (a 0))]) X.1 X.2.1 dX3_supporters_1 rfl hl (by decide) rfl (fun ls hl => ?_)
  refine lv_iconst (v := (0 : Int32)) X.1 X.2.1 dX3_supporters_2 (by decide) ?_
  refine lv_istore_n (lv' := [(2, .int (0 : Int32)), (1, .int (0 : Int32)), (0, .ref (a 0))]) X.1 X.2.1 dX3_supporters_3 rfl hl (by decide) rfl (fun ls hl => ?_)
  exact t_X3_supporters_L4 X hr hlk hK hA N N (0 : Int32) (0 : Int32) σ _ h _ _ _ hP hD hS (lv_sub hl [2, 1, 0] rfl)
def f_X3_count (N : Nat) (p0 : Int32) (σ : CS) : Option Int32 := if p0 = (0 : Int32) then some (c_sz σ) else if p0 = (1 : Int32) then some (c_pw σ) else if p0 = (2 : Int32) then some (c_bA σ) else if p0 = (3 : Int32) then some (c_bB σ) else if p0 = (4 : Int32) then some (c_st σ) else if p0 = (5 : Int32) then some (c_sa σ) else if p0 = (6 : Int32) then (f_X3_isDone σ).bind (fun r8 => if r8 = 0 then some (-1 : Int32) else (f_X3_supporters N σ).bind (fun r11 => some r11)) else some (-2 : Int32)
theorem hd_X3_count : yX3_count.cls = RX3 ∧ yX3_count.cls ≠ "java/lang/invoke/MethodHandle" ∧ yX3_count.cls ≠ "java/lang/invoke/VarHandle" ∧ (parseMethodDescriptor yX3_count.desc).map (fun d => d.parameters.length) = some 1 := by decide +kernel
set_option maxHeartbeats 4000000 in
set_option maxRecDepth 100000 in
theorem k_X3_count {l : Launch} {D : va_G} {k : Nat → ClassId} {a : Nat → Nat} {ρ : Nat → Nat} (N : Nat) (p0 : Int32) (σ : CS) (R : Int32) (h : f_X3_count N p0 σ = some R) : Ct l yX3_count wsX3_count ({ frames := 4, cells := 0, slots := 0, locals := 85 } : Room) D (cT k) (cW k a ρ σ) (cW k a ρ σ) [.ref (a 0), .int p0] (some (.int R)) := by
  refine ct_of (cc := cX3_count) (maxL := 2) (ret := (some .int)) (by decide) rfl (Nat.le_of_ble_eq_true rfl) ?_
  intro p e s m args below meth c A ls X hr hlk hK hA hP hD hS hl
  have X : CallFix p m c cX3_count 2 s args wsX3_count RX3 := X
  have hl : lv_has ls 2 [(0, .ref (a 0)), (1, .int p0)] := hl
  rw [f_X3_count] at h
  refine lv_iload_n X.1 X.2.1 dX3_count_0 rfl (lv_at hl 1 rfl) ?_
  by_cases z1 : p0 = (0 : Int32)
  · rw [if_pos z1] at h
    refine lv_tableIn (off := 43) (tgt := 44) X.1 X.2.1 dX3_count_1 (by rw [z1]; decide) (by rw [z1]; decide) (by rw [z1]; rfl) (by decide) ?_
    refine lv_aload_n X.1 X.2.1 dX3_count_44 rfl (lv_at hl 0 rfl) ?_
    refine gX3_points X (fun w h => (List.mem_cons_of_mem _ (List.mem_append_left _ (List.mem_append_left _ (List.mem_append_right _ h))))) hK hP (List.mem_cons_of_mem _ (List.mem_append_left _ (List.mem_append_left _ (List.mem_append_left _ (List.mem_append_left _ (List.mem_of_getElem? (i := 0) rfl)))))) dX3_count_45 ?_
    refine gX0_size X (fun w h => (List.mem_cons_of_mem _ (List.mem_append_left _ (List.mem_append_right _ h)))) hK hP (List.mem_cons_of_mem _ (List.mem_append_left _ (List.mem_append_left _ (List.mem_append_left _ (List.mem_append_left _ (List.mem_of_getElem? (i := 1) rfl)))))) dX3_count_48 ?_
    have h := sm_e h
    subst h
    exact rt_i X hr hlk hK hP hD hS dX3_count_51
  · rw [if_neg z1] at h
    by_cases z2 : p0 = (1 : Int32)
    · rw [if_pos z2] at h
      refine lv_tableIn (off := 51) (tgt := 52) X.1 X.2.1 dX3_count_1 (by rw [z2]; decide) (by rw [z2]; decide) (by rw [z2]; rfl) (by decide) ?_
      refine lv_aload_n X.1 X.2.1 dX3_count_52 rfl (lv_at hl 0 rfl) ?_
      refine gX3_points X (fun w h => (List.mem_cons_of_mem _ (List.mem_append_left _ (List.mem_append_left _ (List.mem_append_right _ h))))) hK hP (List.mem_cons_of_mem _ (List.mem_append_left _ (List.mem_append_left _ (List.mem_append_left _ (List.mem_append_left _ (List.mem_of_getElem? (i := 0) rfl)))))) dX3_count_53 ?_
      refine gX0_power X (fun w h => (List.mem_cons_of_mem _ (List.mem_append_left _ (List.mem_append_right _ h)))) hK hP (List.mem_cons_of_mem _ (List.mem_append_left _ (List.mem_append_left _ (List.mem_append_left _ (List.mem_append_left _ (List.mem_of_getElem? (i := 2) rfl)))))) dX3_count_56 ?_
      have h := sm_e h
      subst h
      exact rt_i X hr hlk hK hP hD hS dX3_count_59
    · rw [if_neg z2] at h
      by_cases z3 : p0 = (2 : Int32)
      · rw [if_pos z3] at h
        refine lv_tableIn (off := 59) (tgt := 60) X.1 X.2.1 dX3_count_1 (by rw [z3]; decide) (by rw [z3]; decide) (by rw [z3]; rfl) (by decide) ?_
        refine lv_aload_n X.1 X.2.1 dX3_count_60 rfl (lv_at hl 0 rfl) ?_
        refine gX3_boxAbove X (fun w h => (List.mem_cons_of_mem _ (List.mem_append_left _ (List.mem_append_left _ (List.mem_append_right _ h))))) hK hP (List.mem_cons_of_mem _ (List.mem_append_left _ (List.mem_append_left _ (List.mem_append_left _ (List.mem_append_left _ (List.mem_of_getElem? (i := 3) rfl)))))) dX3_count_61 ?_
        have h := sm_e h
        subst h
        exact rt_i X hr hlk hK hP hD hS dX3_count_64
      · rw [if_neg z3] at h
        by_cases z4 : p0 = (3 : Int32)
        · rw [if_pos z4] at h
          refine lv_tableIn (off := 64) (tgt := 65) X.1 X.2.1 dX3_count_1 (by rw [z4]; decide) (by rw [z4]; decide) (by rw [z4]; rfl) (by decide) ?_
          refine lv_aload_n X.1 X.2.1 dX3_count_65 rfl (lv_at hl 0 rfl) ?_
          refine gX3_boxBelow X (fun w h => (List.mem_cons_of_mem _ (List.mem_append_left _ (List.mem_append_left _ (List.mem_append_right _ h))))) hK hP (List.mem_cons_of_mem _ (List.mem_append_left _ (List.mem_append_left _ (List.mem_append_left _ (List.mem_append_left _ (List.mem_of_getElem? (i := 4) rfl)))))) dX3_count_66 ?_
          have h := sm_e h
          subst h
          exact rt_i X hr hlk hK hP hD hS dX3_count_69
        · rw [if_neg z4] at h
          by_cases z5 : p0 = (4 : Int32)
          · rw [if_pos z5] at h
            refine lv_tableIn (off := 69) (tgt := 70) X.1 X.2.1 dX3_count_1 (by rw [z5]; decide) (by rw [z5]; decide) (by rw [z5]; rfl) (by decide) ?_
            refine lv_aload_n X.1 X.2.1 dX3_count_70 rfl (lv_at hl 0 rfl) ?_
            refine gX3_table X (fun w h => (List.mem_cons_of_mem _ (List.mem_append_left _ (List.mem_append_left _ (List.mem_append_right _ h))))) hK hP (List.mem_cons_of_mem _ (List.mem_append_left _ (List.mem_append_left _ (List.mem_append_left _ (List.mem_append_left _ (List.mem_of_getElem? (i := 5) rfl)))))) dX3_count_71 ?_
            refine gX1_steps X (fun w h => (List.mem_cons_of_mem _ (List.mem_append_right _ h))) hK hP (List.mem_cons_of_mem _ (List.mem_append_left _ (List.mem_append_left _ (List.mem_append_left _ (List.mem_append_left _ (List.mem_of_getElem? (i := 6) rfl)))))) dX3_count_74 ?_
            have h := sm_e h
            subst h
            exact rt_i X hr hlk hK hP hD hS dX3_count_77
          · rw [if_neg z5] at h
            by_cases z6 : p0 = (5 : Int32)
            · rw [if_pos z6] at h
              refine lv_tableIn (off := 77) (tgt := 78) X.1 X.2.1 dX3_count_1 (by rw [z6]; decide) (by rw [z6]; decide) (by rw [z6]; rfl) (by decide) ?_
              refine lv_aload_n X.1 X.2.1 dX3_count_78 rfl (lv_at hl 0 rfl) ?_
              refine gX3_table X (fun w h => (List.mem_cons_of_mem _ (List.mem_append_left _ (List.mem_append_left _ (List.mem_append_right _ h))))) hK hP (List.mem_cons_of_mem _ (List.mem_append_left _ (List.mem_append_left _ (List.mem_append_left _ (List.mem_append_left _ (List.mem_of_getElem? (i := 5) rfl)))))) dX3_count_79 ?_
              refine gX1_state X (fun w h => (List.mem_cons_of_mem _ (List.mem_append_right _ h))) hK hP (List.mem_cons_of_mem _ (List.mem_append_left _ (List.mem_append_left _ (List.mem_append_left _ (List.mem_append_left _ (List.mem_of_getElem? (i := 7) rfl)))))) dX3_count_82 ?_
              have h := sm_e h
              subst h
              exact rt_i X hr hlk hK hP hD hS dX3_count_85
            · rw [if_neg z6] at h
              by_cases z7 : p0 = (6 : Int32)
              · rw [if_pos z7] at h
                refine lv_tableIn (off := 85) (tgt := 86) X.1 X.2.1 dX3_count_1 (by rw [z7]; decide) (by rw [z7]; decide) (by rw [z7]; rfl) (by decide) ?_
                refine lv_aload_n X.1 X.2.1 dX3_count_86 rfl (lv_at hl 0 rfl) ?_
                obtain ⟨r8, q9, h⟩ := bd_e h
                refine kc_v (As := []) (rest := []) X (k_X3_isDone σ _ q9) (cwV 0 X.2.2.2.2 gX3_count_X3_isDone rfl rfl rfl hd_X3_isDone ⟨Nat.le_of_ble_eq_true rfl, Nat.le_of_ble_eq_true rfl⟩) hK hP hD hS hA (va_recv hK hP (ci := 2) (q0 := 0) rfl rfl) rfl hl.1 rfl (Nat.le_of_ble_eq_true rfl) dX3_count_87 ⟨Nat.le_of_ble_eq_true rfl, Nat.le_of_ble_eq_true rfl⟩ (fun H locs hP hD hS => ?_)
                refine lv_if_eq (tgt := 100) X.1 X.2.1 dX3_count_90 (by decide) (fun c10 => ?_) (fun c10 => ?_)
                · rw [if_pos c10] at h
                  refine lv_iconst (v := (-1 : Int32)) X.1 X.2.1 dX3_count_100 (by decide) ?_
                  have h := sm_e h
                  subst h
                  exact rt_i X hr hlk hK hP hD hS dX3_count_101
                · rw [if_neg c10] at h
                  refine lv_aload_n X.1 X.2.1 dX3_count_93 rfl (lv_at hl 0 rfl) ?_
                  obtain ⟨r11, q12, h⟩ := bd_e h
                  refine kc_v (As := []) (rest := []) X (k_X3_supporters N σ _ q12) (cwV 0 X.2.2.2.2 gX3_count_X3_supporters rfl rfl rfl hd_X3_supporters ⟨Nat.le_of_ble_eq_true rfl, Nat.le_of_ble_eq_true rfl⟩) hK hP hD hS hA (va_recv hK hP (ci := 2) (q0 := 0) rfl rfl) rfl hl.1 rfl (Nat.le_of_ble_eq_true rfl) dX3_count_94 ⟨Nat.le_of_ble_eq_true rfl, Nat.le_of_ble_eq_true rfl⟩ (fun H locs hP hD hS => ?_)
                  refine lv_goto (tgt := 101) X.1 X.2.1 dX3_count_97 (by decide) ?_
                  have h := sm_e h
                  subst h
                  exact rt_i X hr hlk hK hP hD hS dX3_count_101
              · rw [if_neg z7] at h
                refine lv_tableOut (tgt := 102) X.1 X.2.1 dX3_count_1 (by have z1 := ne_i z1 (n := 0) (by decide); have z2 := ne_i z2 (n := 1) (by decide); have z3 := ne_i z3 (n := 2) (by decide); have z4 := ne_i z4 (n := 3) (by decide); have z5 := ne_i z5 (n := 4) (by decide); have z6 := ne_i z6 (n := 5) (by decide); have z7 := ne_i z7 (n := 6) (by decide); omega) (by decide) ?_
                refine lv_bipush (v := (-2 : Int32)) X.1 X.2.1 dX3_count_102 (by decide) ?_
                have h := sm_e h
                subst h
                exact rt_i X hr hlk hK hP hD hS dX3_count_104
def f_X3_digest_L152 (N : Nat) : Nat → Int64 → Int32 → CS → Option Int64
  | 0, _, _, _ => none
  | n + 1, v1, v3, σ => if (c_sz σ) ≤ v3 then some v1 else (f_X3_multiplier N v3 (0 : Int32) σ).bind (fun r2 => lt_ (((31 : Int64) * v1) + r2) (fun x4 => (f_X3_multiplier N v3 (1 : Int32) σ).bind (fun r6 => lt_ (((31 : Int64) * x4) + r6) (fun x8 => lt_ (v3 + (1 : Int32)) (fun x10 => f_X3_digest_L152 N n x8 x10 σ)))))
set_option maxHeartbeats 4000000 in
set_option maxRecDepth 100000 in
theorem t_X3_digest_L152 {p : Program} {l : Launch} {e : Env} {s : State} {m : MethodId} {args : Array Value} {below : List Frame} {meth : Method} {c : Code} {D : va_G} {A : Nat → Prop} {k : Nat → ClassId} {a : Nat → Nat} {ρ : Nat → Nat} (X : CallFix p m c cX3_digest 5 s args wsX3_digest RX3) (hr : meth.sig.returnType = some .long) (hlk : meth.locks = false) (hK : va_K D vwCl (cT k) s) (hA : ∀ q : Nat, s.heap.size ≤ q → A q) (N : Nat) : ∀ (n : Nat) (v1 : Int64) (v3 : Int32) (σ : CS) (R : Int64), f_X3_digest_L152 N n v1 v3 σ = some R → ∀ (H : Heap) (locs : List Loc) (ls : Array Slot), va_P D vwCl (cW k a ρ σ) H → va_D A (cW k a ρ σ) → va_S A s.heap H locs → lv_has ls 5 [(0, .ref (a 0)), (1, .long v1), (3, .int v3)] → W p l e ({ frames := 5, cells := 0, slots := 0, locals := 106 } : Room) s m args below meth c H locs 0 0 (MQ below (cQ D (cT k) A (cW k a ρ σ) (some (.long R))) args s 0 0 A) (F0 m 152 ls []) := by
  intro n
  induction n with
  | zero =>
    intro v1 v3 σ R h
    exact absurd h (by simp [f_X3_digest_L152])
  | succ n ih =>
    intro v1 v3 σ R h H locs ls hP hD hS hl
    rw [f_X3_digest_L152] at h
    refine lv_iload_n X.1 X.2.1 dX3_digest_152 rfl (lv_at hl 2 rfl) ?_
    refine lv_aload_n X.1 X.2.1 dX3_digest_153 rfl (lv_at hl 0 rfl) ?_
    refine gX3_points X (fun w h => (List.mem_cons_of_mem _ (List.mem_append_left _ (List.mem_append_left _ (List.mem_append_right _ h))))) hK hP (List.mem_cons_of_mem _ (List.mem_append_left _ (List.mem_append_left _ (List.mem_append_left _ (List.mem_append_left _ (List.mem_of_getElem? (i := 2) rfl)))))) dX3_digest_154 ?_
    refine gX0_size X (fun w h => (List.mem_cons_of_mem _ (List.mem_append_left _ (List.mem_append_right _ h)))) hK hP (List.mem_cons_of_mem _ (List.mem_append_left _ (List.mem_append_left _ (List.mem_append_left _ (List.mem_append_left _ (List.mem_of_getElem? (i := 3) rfl)))))) dX3_digest_157 ?_
    refine lv_icmp_ge (tgt := 195) X.1 X.2.1 dX3_digest_160 (by decide) (fun c1 => ?_) (fun c1 => ?_)
    · rw [if_pos c1] at h
      refine lv_lload_n X.1 X.2.1 dX3_digest_195 rfl (lv_at hl 1 rfl) ?_
      have h := sm_e h
      subst h
      exact rt_l X hr hlk hK hP hD hS dX3_digest_196
    · rw [if_neg c1] at h
      refine lv_ldc2 (v := (31 : Int64)) X.1 X.2.1 X.2.2.2.1 (X.2.2.2.2 _ (List.mem_cons_of_mem _ (List.mem_append_left _ (List.mem_append_left _ (List.mem_append_left _ (List.mem_append_left _ (List.mem_of_getElem? (i := 1) rfl))))))) dX3_digest_163 ?_
      refine lv_lload_n X.1 X.2.1 dX3_digest_166 rfl (lv_at hl 1 rfl) ?_
      refine lv_lmul X.1 X.2.1 dX3_digest_167 ?_
      refine lv_aload_n X.1 X.2.1 dX3_digest_168 rfl (lv_at hl 0 rfl) ?_
      refine lv_iload_n X.1 X.2.1 dX3_digest_169 rfl (lv_at hl 2 rfl) ?_
      refine lv_iconst (v := (0 : Int32)) X.1 X.2.1 dX3_digest_170 (by decide) ?_
      obtain ⟨r2, q3, h⟩ := bd_e h
      refine kc_v (As := [.int v3, .int (0 : Int32)]) (rest := [.long ((31 : Int64) * v1)]) X (k_X3_multiplier N v3 (0 : Int32) σ _ q3) (cwV 2 X.2.2.2.2 gX3_digest_X3_multiplier rfl rfl rfl hd_X3_multiplier ⟨Nat.le_of_ble_eq_true rfl, Nat.le_of_ble_eq_true rfl⟩) hK hP hD hS hA (va_recv hK hP (ci := 2) (q0 := 0) rfl rfl) rfl hl.1 rfl (Nat.le_of_ble_eq_true rfl) dX3_digest_171 ⟨Nat.le_of_ble_eq_true rfl, Nat.le_of_ble_eq_true rfl⟩ (fun H locs hP hD hS => ?_)
      refine lv_ladd X.1 X.2.1 dX3_digest_174 ?_
      obtain ⟨x4, e5, h⟩ := lt_e h
      refine nm_l e5 ?_
      refine lv_lstore_n (lv' := [(1, .long x4), (0, .ref (a 0)), (3, .int v3)]) X.1 X.2.1 dX3_digest_175 rfl hl (by decide) rfl (fun ls hl => ?_)
      refine lv_ldc2 (v := (31 : Int64)) X.1 X.2.1 X.2.2.2.1 (X.2.2.2.2 _ (List.mem_cons_of_mem _ (List.mem_append_left _ (List.mem_append_left _ (List.mem_append_left _ (List.mem_append_left _ (List.mem_of_getElem? (i := 1) rfl))))))) dX3_digest_176 ?_
      refine lv_lload_n X.1 X.2.1 dX3_digest_179 rfl (lv_at hl 0 rfl) ?_
      refine lv_lmul X.1 X.2.1 dX3_digest_180 ?_
      refine lv_aload_n X.1 X.2.1 dX3_digest_181 rfl (lv_at hl 1 rfl) ?_
      refine lv_iload_n X.1 X.2.1 dX3_digest_182 rfl (lv_at hl 2 rfl) ?_
      refine lv_iconst (v := (1 : Int32)) X.1 X.2.1 dX3_digest_183 (by decide) ?_
      obtain ⟨r6, q7, h⟩ := bd_e h
      refine kc_v (As := [.int v3, .int (1 : Int32)]) (rest := [.long ((31 : Int64) * x4)]) X (k_X3_multiplier N v3 (1 : Int32) σ _ q7) (cwV 2 X.2.2.2.2 gX3_digest_X3_multiplier rfl rfl rfl hd_X3_multiplier ⟨Nat.le_of_ble_eq_true rfl, Nat.le_of_ble_eq_true rfl⟩) hK hP hD hS hA (va_recv hK hP (ci := 2) (q0 := 0) rfl rfl) rfl hl.1 rfl (Nat.le_of_ble_eq_true rfl) dX3_digest_184 ⟨Nat.le_of_ble_eq_true rfl, Nat.le_of_ble_eq_true rfl⟩ (fun H locs hP hD hS => ?_)
      refine lv_ladd X.1 X.2.1 dX3_digest_187 ?_
      obtain ⟨x8, e9, h⟩ := lt_e h
      refine nm_l e9 ?_
      refine lv_lstore_n (lv' := [(1, .long x8), (0, .ref (a 0)), (3, .int v3)]) X.1 X.2.1 dX3_digest_188 rfl hl (by decide) rfl (fun ls hl => ?_)
      obtain ⟨x10, e11, h⟩ := lt_e h
      refine lv_iinc (v := x10) (lv' := [(3, .int x10), (1, .long x8), (0, .ref (a 0))]) X.1 X.2.1 dX3_digest_189 hl (k := 2) rfl e11.symm (by decide) rfl (fun ls hl => ?_)
      refine lv_goto (tgt := 152) X.1 X.2.1 dX3_digest_192 (by decide) ?_
      exact ih x8 x10 σ _ h _ _ _ hP hD hS (lv_sub hl [2, 1, 0] rfl)
def f_X3_digest_L117 (N : Nat) : Nat → Int64 → Int32 → Int32 → CS → Option Int64
  | 0, _, _, _, _ => none
  | n + 1, v1, v3, v4, σ => if (2 : Int32) < v4 then some v1 else (f_X3_step v3 v4 σ).bind (fun r2 => lt_ (((31 : Int64) * v1) + (r2.toInt64)) (fun x4 => lt_ (v4 + (1 : Int32)) (fun x6 => f_X3_digest_L117 N n x4 v3 x6 σ)))
set_option maxHeartbeats 4000000 in
set_option maxRecDepth 100000 in
theorem t_X3_digest_L117 {p : Program} {l : Launch} {e : Env} {s : State} {m : MethodId} {args : Array Value} {below : List Frame} {meth : Method} {c : Code} {D : va_G} {A : Nat → Prop} {k : Nat → ClassId} {a : Nat → Nat} {ρ : Nat → Nat} (X : CallFix p m c cX3_digest 5 s args wsX3_digest RX3) (hK : va_K D vwCl (cT k) s) (hA : ∀ q : Nat, s.heap.size ≤ q → A q) (N : Nat) {Q : State → Prop} : ∀ (n : Nat) (v1 : Int64) (v3 : Int32) (v4 : Int32) (σ : CS) (R : Int64), f_X3_digest_L117 N n v1 v3 v4 σ = some R → ∀ (H : Heap) (locs : List Loc) (ls : Array Slot), va_P D vwCl (cW k a ρ σ) H → va_D A (cW k a ρ σ) → va_S A s.heap H locs → lv_has ls 5 [(0, .ref (a 0)), (1, .long v1), (3, .int v3), (4, .int v4)] → (∀ (H : Heap) (locs : List Loc) (ls : Array Slot), va_P D vwCl (cW k a ρ σ) H → va_D A (cW k a ρ σ) → va_S A s.heap H locs → lv_has ls 5 [(0, .ref (a 0)), (1, .long R), (3, .int v3)] → W p l e ({ frames := 5, cells := 0, slots := 0, locals := 106 } : Room) s m args below meth c H locs 0 0 Q (F0 m 144 ls [])) → W p l e ({ frames := 5, cells := 0, slots := 0, locals := 106 } : Room) s m args below meth c H locs 0 0 Q (F0 m 117 ls []) := by
  intro n
  induction n with
  | zero =>
    intro v1 v3 v4 σ R h
    exact absurd h (by simp [f_X3_digest_L117])
  | succ n ih =>
    intro v1 v3 v4 σ R h H locs ls hP hD hS hl kk
    rw [f_X3_digest_L117] at h
    refine lv_iload X.1 X.2.1 dX3_digest_117 (lv_at hl 3 rfl) ?_
    refine lv_iconst (v := (2 : Int32)) X.1 X.2.1 dX3_digest_119 (by decide) ?_
    refine lv_icmp_gt (tgt := 144) X.1 X.2.1 dX3_digest_120 (by decide) (fun c1 => ?_) (fun c1 => ?_)
    · rw [if_pos c1] at h
      have h := sm_e h
      subst h
      exact kk _ _ _ hP hD hS (lv_sub hl [0, 1, 2] rfl)
    · rw [if_neg c1] at h
      refine lv_ldc2 (v := (31 : Int64)) X.1 X.2.1 X.2.2.2.1 (X.2.2.2.2 _ (List.mem_cons_of_mem _ (List.mem_append_left _ (List.mem_append_left _ (List.mem_append_left _ (List.mem_append_left _ (List.mem_of_getElem? (i := 1) rfl))))))) dX3_digest_123 ?_
      refine lv_lload_n X.1 X.2.1 dX3_digest_126 rfl (lv_at hl 1 rfl) ?_
      refine lv_lmul X.1 X.2.1 dX3_digest_127 ?_
      refine lv_aload_n X.1 X.2.1 dX3_digest_128 rfl (lv_at hl 0 rfl) ?_
      refine lv_iload_n X.1 X.2.1 dX3_digest_129 rfl (lv_at hl 2 rfl) ?_
      refine lv_iload X.1 X.2.1 dX3_digest_130 (lv_at hl 3 rfl) ?_
      obtain ⟨r2, q3, h⟩ := bd_e h
      refine kc_v (As := [.int v3, .int v4]) (rest := [.long ((31 : Int64) * v1)]) X (k_X3_step v3 v4 σ _ q3) (cwV 2 X.2.2.2.2 gX3_digest_X3_step rfl rfl rfl hd_X3_step ⟨Nat.le_of_ble_eq_true rfl, Nat.le_of_ble_eq_true rfl⟩) hK hP hD hS hA (va_recv hK hP (ci := 2) (q0 := 0) rfl rfl) rfl hl.1 rfl (Nat.le_of_ble_eq_true rfl) dX3_digest_132 ⟨Nat.le_of_ble_eq_true rfl, Nat.le_of_ble_eq_true rfl⟩ (fun H locs hP hD hS => ?_)
      refine lv_i2l (v := r2.toInt64) X.1 X.2.1 dX3_digest_135 rfl ?_
      refine lv_ladd X.1 X.2.1 dX3_digest_136 ?_
      obtain ⟨x4, e5, h⟩ := lt_e h
      refine nm_l e5 ?_
      refine lv_lstore_n (lv' := [(1, .long x4), (0, .ref (a 0)), (3, .int v3), (4, .int v4)]) X.1 X.2.1 dX3_digest_137 rfl hl (by decide) rfl (fun ls hl => ?_)
      obtain ⟨x6, e7, h⟩ := lt_e h
      refine lv_iinc (v := x6) (lv' := [(4, .int x6), (1, .long x4), (0, .ref (a 0)), (3, .int v3)]) X.1 X.2.1 dX3_digest_138 hl (k := 3) rfl e7.symm (by decide) rfl (fun ls hl => ?_)
      refine lv_goto (tgt := 117) X.1 X.2.1 dX3_digest_141 (by decide) ?_
      exact ih x4 v3 x6 σ _ h _ _ _ hP hD hS (lv_sub hl [2, 1, 3, 0] rfl) kk
def f_X3_digest_L103 (N : Nat) : Nat → Int64 → Int32 → CS → Option Int64
  | 0, _, _, _ => none
  | n + 1, v1, v3, σ => if (c_st σ) ≤ v3 then f_X3_digest_L152 N N v1 (0 : Int32) σ else (f_X3_digest_L117 N N v1 v3 (0 : Int32) σ).bind (fun r12 => lt_ (v3 + (1 : Int32)) (fun x14 => f_X3_digest_L103 N n r12 x14 σ))
set_option maxHeartbeats 4000000 in
set_option maxRecDepth 100000 in
theorem t_X3_digest_L103 {p : Program} {l : Launch} {e : Env} {s : State} {m : MethodId} {args : Array Value} {below : List Frame} {meth : Method} {c : Code} {D : va_G} {A : Nat → Prop} {k : Nat → ClassId} {a : Nat → Nat} {ρ : Nat → Nat} (X : CallFix p m c cX3_digest 5 s args wsX3_digest RX3) (hr : meth.sig.returnType = some .long) (hlk : meth.locks = false) (hK : va_K D vwCl (cT k) s) (hA : ∀ q : Nat, s.heap.size ≤ q → A q) (N : Nat) : ∀ (n : Nat) (v1 : Int64) (v3 : Int32) (σ : CS) (R : Int64), f_X3_digest_L103 N n v1 v3 σ = some R → ∀ (H : Heap) (locs : List Loc) (ls : Array Slot), va_P D vwCl (cW k a ρ σ) H → va_D A (cW k a ρ σ) → va_S A s.heap H locs → lv_has ls 5 [(0, .ref (a 0)), (1, .long v1), (3, .int v3)] → W p l e ({ frames := 5, cells := 0, slots := 0, locals := 106 } : Room) s m args below meth c H locs 0 0 (MQ below (cQ D (cT k) A (cW k a ρ σ) (some (.long R))) args s 0 0 A) (F0 m 103 ls []) := by
  intro n
  induction n with
  | zero =>
    intro v1 v3 σ R h
    exact absurd h (by simp [f_X3_digest_L103])
  | succ n ih =>
    intro v1 v3 σ R h H locs ls hP hD hS hl
    rw [f_X3_digest_L103] at h
    refine lv_iload_n X.1 X.2.1 dX3_digest_103 rfl (lv_at hl 2 rfl) ?_
    refine lv_aload_n X.1 X.2.1 dX3_digest_104 rfl (lv_at hl 0 rfl) ?_
    refine gX3_table X (fun w h => (List.mem_cons_of_mem _ (List.mem_append_left _ (List.mem_append_left _ (List.mem_append_right _ h))))) hK hP (List.mem_cons_of_mem _ (List.mem_append_left _ (List.mem_append_left _ (List.mem_append_left _ (List.mem_append_left _ (List.mem_of_getElem? (i := 7) rfl)))))) dX3_digest_105 ?_
    refine gX1_steps X (fun w h => (List.mem_cons_of_mem _ (List.mem_append_right _ h))) hK hP (List.mem_cons_of_mem _ (List.mem_append_left _ (List.mem_append_left _ (List.mem_append_left _ (List.mem_append_left _ (List.mem_of_getElem? (i := 8) rfl)))))) dX3_digest_108 ?_
    refine lv_icmp_ge (tgt := 150) X.1 X.2.1 dX3_digest_111 (by decide) (fun c1 => ?_) (fun c1 => ?_)
    · rw [if_pos c1] at h
      refine lv_iconst (v := (0 : Int32)) X.1 X.2.1 dX3_digest_150 (by decide) ?_
      refine lv_istore_n (lv' := [(3, .int (0 : Int32)), (0, .ref (a 0)), (1, .long v1)]) X.1 X.2.1 dX3_digest_151 rfl hl (by decide) rfl (fun ls hl => ?_)
      exact t_X3_digest_L152 X hr hlk hK hA N N v1 (0 : Int32) σ _ h _ _ _ hP hD hS (lv_sub hl [1, 2, 0] rfl)
    · rw [if_neg c1] at h
      refine lv_iconst (v := (0 : Int32)) X.1 X.2.1 dX3_digest_114 (by decide) ?_
      refine lv_istore (lv' := [(4, .int (0 : Int32)), (0, .ref (a 0)), (1, .long v1), (3, .int v3)]) X.1 X.2.1 dX3_digest_115 hl (by decide) rfl (fun ls hl => ?_)
      obtain ⟨r12, q13, h⟩ := bd_e h
      refine t_X3_digest_L117 X hK hA N N v1 v3 (0 : Int32) σ _ q13 _ _ _ hP hD hS (lv_sub hl [1, 2, 3, 0] rfl) (fun H locs ls hP hD hS hl => ?_)
      obtain ⟨x14, e15, h⟩ := lt_e h
      refine lv_iinc (v := x14) (lv' := [(3, .int x14), (0, .ref (a 0)), (1, .long r12)]) X.1 X.2.1 dX3_digest_144 hl (k := 2) rfl e15.symm (by decide) rfl (fun ls hl => ?_)
      refine lv_goto (tgt := 103) X.1 X.2.1 dX3_digest_147 (by decide) ?_
      exact ih r12 x14 σ _ h _ _ _ hP hD hS (lv_sub hl [1, 2, 0] rfl)
def f_X3_digest_L33 (N : Nat) : Nat → Int64 → Int32 → CS → Option Int64
  | 0, _, _, _ => none
  | n + 1, v1, v3, σ => if (c_sz σ) ≤ v3 then f_X3_digest_L103 N N v1 (0 : Int32) σ else gd (inB v3 6) (lt_ (((31 : Int64) * v1) + ((c_xx σ v3.toNatClampNeg).toInt64)) (fun x17 => gd (inB v3 6) (lt_ (((31 : Int64) * x17) + ((c_yy σ v3.toNatClampNeg).toInt64)) (fun x20 => gd (inB v3 6) (lt_ (((31 : Int64) * x20) + ((c_lb σ v3.toNatClampNeg).toInt64)) (fun x23 => lt_ (v3 + (1 : Int32)) (fun x25 => f_X3_digest_L33 N n x23 x25 σ)))))))
set_option maxHeartbeats 4000000 in
set_option maxRecDepth 100000 in
theorem t_X3_digest_L33 {p : Program} {l : Launch} {e : Env} {s : State} {m : MethodId} {args : Array Value} {below : List Frame} {meth : Method} {c : Code} {D : va_G} {A : Nat → Prop} {k : Nat → ClassId} {a : Nat → Nat} {ρ : Nat → Nat} (X : CallFix p m c cX3_digest 5 s args wsX3_digest RX3) (hr : meth.sig.returnType = some .long) (hlk : meth.locks = false) (hK : va_K D vwCl (cT k) s) (hA : ∀ q : Nat, s.heap.size ≤ q → A q) (N : Nat) : ∀ (n : Nat) (v1 : Int64) (v3 : Int32) (σ : CS) (R : Int64), f_X3_digest_L33 N n v1 v3 σ = some R → ∀ (H : Heap) (locs : List Loc) (ls : Array Slot), va_P D vwCl (cW k a ρ σ) H → va_D A (cW k a ρ σ) → va_S A s.heap H locs → lv_has ls 5 [(0, .ref (a 0)), (1, .long v1), (3, .int v3)] → W p l e ({ frames := 5, cells := 0, slots := 0, locals := 106 } : Room) s m args below meth c H locs 0 0 (MQ below (cQ D (cT k) A (cW k a ρ σ) (some (.long R))) args s 0 0 A) (F0 m 33 ls []) := by
  intro n
  induction n with
  | zero =>
    intro v1 v3 σ R h
    exact absurd h (by simp [f_X3_digest_L33])
  | succ n ih =>
    intro v1 v3 σ R h H locs ls hP hD hS hl
    rw [f_X3_digest_L33] at h
    refine lv_iload_n X.1 X.2.1 dX3_digest_33 rfl (lv_at hl 2 rfl) ?_
    refine lv_aload_n X.1 X.2.1 dX3_digest_34 rfl (lv_at hl 0 rfl) ?_
    refine gX3_points X (fun w h => (List.mem_cons_of_mem _ (List.mem_append_left _ (List.mem_append_left _ (List.mem_append_right _ h))))) hK hP (List.mem_cons_of_mem _ (List.mem_append_left _ (List.mem_append_left _ (List.mem_append_left _ (List.mem_append_left _ (List.mem_of_getElem? (i := 2) rfl)))))) dX3_digest_35 ?_
    refine gX0_size X (fun w h => (List.mem_cons_of_mem _ (List.mem_append_left _ (List.mem_append_right _ h)))) hK hP (List.mem_cons_of_mem _ (List.mem_append_left _ (List.mem_append_left _ (List.mem_append_left _ (List.mem_append_left _ (List.mem_of_getElem? (i := 3) rfl)))))) dX3_digest_38 ?_
    refine lv_icmp_ge (tgt := 101) X.1 X.2.1 dX3_digest_41 (by decide) (fun c1 => ?_) (fun c1 => ?_)
    · rw [if_pos c1] at h
      refine lv_iconst (v := (0 : Int32)) X.1 X.2.1 dX3_digest_101 (by decide) ?_
      refine lv_istore_n (lv' := [(3, .int (0 : Int32)), (0, .ref (a 0)), (1, .long v1)]) X.1 X.2.1 dX3_digest_102 rfl hl (by decide) rfl (fun ls hl => ?_)
      exact t_X3_digest_L103 X hr hlk hK hA N N v1 (0 : Int32) σ _ h _ _ _ hP hD hS (lv_sub hl [1, 2, 0] rfl)
    · rw [if_neg c1] at h
      refine lv_ldc2 (v := (31 : Int64)) X.1 X.2.1 X.2.2.2.1 (X.2.2.2.2 _ (List.mem_cons_of_mem _ (List.mem_append_left _ (List.mem_append_left _ (List.mem_append_left _ (List.mem_append_left _ (List.mem_of_getElem? (i := 1) rfl))))))) dX3_digest_44 ?_
      refine lv_lload_n X.1 X.2.1 dX3_digest_47 rfl (lv_at hl 1 rfl) ?_
      refine lv_lmul X.1 X.2.1 dX3_digest_48 ?_
      refine lv_aload_n X.1 X.2.1 dX3_digest_49 rfl (lv_at hl 0 rfl) ?_
      refine gX3_points X (fun w h => (List.mem_cons_of_mem _ (List.mem_append_left _ (List.mem_append_left _ (List.mem_append_right _ h))))) hK hP (List.mem_cons_of_mem _ (List.mem_append_left _ (List.mem_append_left _ (List.mem_append_left _ (List.mem_append_left _ (List.mem_of_getElem? (i := 2) rfl)))))) dX3_digest_50 ?_
      refine gX0_x X (fun w h => (List.mem_cons_of_mem _ (List.mem_append_left _ (List.mem_append_right _ h)))) hK hP (List.mem_cons_of_mem _ (List.mem_append_left _ (List.mem_append_left _ (List.mem_append_left _ (List.mem_append_left _ (List.mem_of_getElem? (i := 4) rfl)))))) dX3_digest_53 ?_
      refine lv_iload_n X.1 X.2.1 dX3_digest_56 rfl (lv_at hl 2 rfl) ?_
      obtain ⟨g16, h⟩ := gd_e h
      refine lc_xx X hK hP g16 dX3_digest_57 ?_
      refine lv_i2l (v := (c_xx σ v3.toNatClampNeg).toInt64) X.1 X.2.1 dX3_digest_58 rfl ?_
      refine lv_ladd X.1 X.2.1 dX3_digest_59 ?_
      obtain ⟨x17, e18, h⟩ := lt_e h
      refine nm_l e18 ?_
      refine lv_lstore_n (lv' := [(1, .long x17), (0, .ref (a 0)), (3, .int v3)]) X.1 X.2.1 dX3_digest_60 rfl hl (by decide) rfl (fun ls hl => ?_)
      refine lv_ldc2 (v := (31 : Int64)) X.1 X.2.1 X.2.2.2.1 (X.2.2.2.2 _ (List.mem_cons_of_mem _ (List.mem_append_left _ (List.mem_append_left _ (List.mem_append_left _ (List.mem_append_left _ (List.mem_of_getElem? (i := 1) rfl))))))) dX3_digest_61 ?_
      refine lv_lload_n X.1 X.2.1 dX3_digest_64 rfl (lv_at hl 0 rfl) ?_
      refine lv_lmul X.1 X.2.1 dX3_digest_65 ?_
      refine lv_aload_n X.1 X.2.1 dX3_digest_66 rfl (lv_at hl 1 rfl) ?_
      refine gX3_points X (fun w h => (List.mem_cons_of_mem _ (List.mem_append_left _ (List.mem_append_left _ (List.mem_append_right _ h))))) hK hP (List.mem_cons_of_mem _ (List.mem_append_left _ (List.mem_append_left _ (List.mem_append_left _ (List.mem_append_left _ (List.mem_of_getElem? (i := 2) rfl)))))) dX3_digest_67 ?_
      refine gX0_y X (fun w h => (List.mem_cons_of_mem _ (List.mem_append_left _ (List.mem_append_right _ h)))) hK hP (List.mem_cons_of_mem _ (List.mem_append_left _ (List.mem_append_left _ (List.mem_append_left _ (List.mem_append_left _ (List.mem_of_getElem? (i := 5) rfl)))))) dX3_digest_70 ?_
      refine lv_iload_n X.1 X.2.1 dX3_digest_73 rfl (lv_at hl 2 rfl) ?_
      obtain ⟨g19, h⟩ := gd_e h
      refine lc_yy X hK hP g19 dX3_digest_74 ?_
      refine lv_i2l (v := (c_yy σ v3.toNatClampNeg).toInt64) X.1 X.2.1 dX3_digest_75 rfl ?_
      refine lv_ladd X.1 X.2.1 dX3_digest_76 ?_
      obtain ⟨x20, e21, h⟩ := lt_e h
      refine nm_l e21 ?_
      refine lv_lstore_n (lv' := [(1, .long x20), (0, .ref (a 0)), (3, .int v3)]) X.1 X.2.1 dX3_digest_77 rfl hl (by decide) rfl (fun ls hl => ?_)
      refine lv_ldc2 (v := (31 : Int64)) X.1 X.2.1 X.2.2.2.1 (X.2.2.2.2 _ (List.mem_cons_of_mem _ (List.mem_append_left _ (List.mem_append_left _ (List.mem_append_left _ (List.mem_append_left _ (List.mem_of_getElem? (i := 1) rfl))))))) dX3_digest_78 ?_
      refine lv_lload_n X.1 X.2.1 dX3_digest_81 rfl (lv_at hl 0 rfl) ?_
      refine lv_lmul X.1 X.2.1 dX3_digest_82 ?_
      refine lv_aload_n X.1 X.2.1 dX3_digest_83 rfl (lv_at hl 1 rfl) ?_
      refine gX3_points X (fun w h => (List.mem_cons_of_mem _ (List.mem_append_left _ (List.mem_append_left _ (List.mem_append_right _ h))))) hK hP (List.mem_cons_of_mem _ (List.mem_append_left _ (List.mem_append_left _ (List.mem_append_left _ (List.mem_append_left _ (List.mem_of_getElem? (i := 2) rfl)))))) dX3_digest_84 ?_
      refine gX0_label X (fun w h => (List.mem_cons_of_mem _ (List.mem_append_left _ (List.mem_append_right _ h)))) hK hP (List.mem_cons_of_mem _ (List.mem_append_left _ (List.mem_append_left _ (List.mem_append_left _ (List.mem_append_left _ (List.mem_of_getElem? (i := 6) rfl)))))) dX3_digest_87 ?_
      refine lv_iload_n X.1 X.2.1 dX3_digest_90 rfl (lv_at hl 2 rfl) ?_
      obtain ⟨g22, h⟩ := gd_e h
      refine lc_lb X hK hP g22 dX3_digest_91 ?_
      refine lv_i2l (v := (c_lb σ v3.toNatClampNeg).toInt64) X.1 X.2.1 dX3_digest_92 rfl ?_
      refine lv_ladd X.1 X.2.1 dX3_digest_93 ?_
      obtain ⟨x23, e24, h⟩ := lt_e h
      refine nm_l e24 ?_
      refine lv_lstore_n (lv' := [(1, .long x23), (0, .ref (a 0)), (3, .int v3)]) X.1 X.2.1 dX3_digest_94 rfl hl (by decide) rfl (fun ls hl => ?_)
      obtain ⟨x25, e26, h⟩ := lt_e h
      refine lv_iinc (v := x25) (lv' := [(3, .int x25), (1, .long x23), (0, .ref (a 0))]) X.1 X.2.1 dX3_digest_95 hl (k := 2) rfl e26.symm (by decide) rfl (fun ls hl => ?_)
      refine lv_goto (tgt := 33) X.1 X.2.1 dX3_digest_98 (by decide) ?_
      exact ih x23 x25 σ _ h _ _ _ hP hD hS (lv_sub hl [2, 1, 0] rfl)
def f_X3_digest_L6 (N : Nat) : Nat → Int64 → Int32 → CS → Option Int64
  | 0, _, _, _ => none
  | n + 1, v1, v3, σ => if (7 : Int32) ≤ v3 then f_X3_digest_L33 N N v1 (0 : Int32) σ else (f_X3_count N v3 σ).bind (fun r27 => lt_ (((31 : Int64) * v1) + (r27.toInt64)) (fun x29 => lt_ (v3 + (1 : Int32)) (fun x31 => f_X3_digest_L6 N n x29 x31 σ)))
set_option maxHeartbeats 4000000 in
set_option maxRecDepth 100000 in
theorem t_X3_digest_L6 {p : Program} {l : Launch} {e : Env} {s : State} {m : MethodId} {args : Array Value} {below : List Frame} {meth : Method} {c : Code} {D : va_G} {A : Nat → Prop} {k : Nat → ClassId} {a : Nat → Nat} {ρ : Nat → Nat} (X : CallFix p m c cX3_digest 5 s args wsX3_digest RX3) (hr : meth.sig.returnType = some .long) (hlk : meth.locks = false) (hK : va_K D vwCl (cT k) s) (hA : ∀ q : Nat, s.heap.size ≤ q → A q) (N : Nat) : ∀ (n : Nat) (v1 : Int64) (v3 : Int32) (σ : CS) (R : Int64), f_X3_digest_L6 N n v1 v3 σ = some R → ∀ (H : Heap) (locs : List Loc) (ls : Array Slot), va_P D vwCl (cW k a ρ σ) H → va_D A (cW k a ρ σ) → va_S A s.heap H locs → lv_has ls 5 [(0, .ref (a 0)), (1, .long v1), (3, .int v3)] → W p l e ({ frames := 5, cells := 0, slots := 0, locals := 106 } : Room) s m args below meth c H locs 0 0 (MQ below (cQ D (cT k) A (cW k a ρ σ) (some (.long R))) args s 0 0 A) (F0 m 6 ls []) := by
  intro n
  induction n with
  | zero =>
    intro v1 v3 σ R h
    exact absurd h (by simp [f_X3_digest_L6])
  | succ n ih =>
    intro v1 v3 σ R h H locs ls hP hD hS hl
    rw [f_X3_digest_L6] at h
    refine lv_iload_n X.1 X.2.1 dX3_digest_6 rfl (lv_at hl 2 rfl) ?_
    refine lv_bipush (v := (7 : Int32)) X.1 X.2.1 dX3_digest_7 (by decide) ?_
    refine lv_icmp_ge (tgt := 31) X.1 X.2.1 dX3_digest_9 (by decide) (fun c1 => ?_) (fun c1 => ?_)
    · rw [if_pos c1] at h
      refine lv_iconst (v := (0 : Int32)) X.1 X.2.1 dX3_digest_31 (by decide) ?_
      refine lv_istore_n (lv' := [(3, .int (0 : Int32)), (0, .ref (a 0)), (1, .long v1)]) X.1 X.2.1 dX3_digest_32 rfl hl (by decide) rfl (fun ls hl => ?_)
      exact t_X3_digest_L33 X hr hlk hK hA N N v1 (0 : Int32) σ _ h _ _ _ hP hD hS (lv_sub hl [1, 2, 0] rfl)
    · rw [if_neg c1] at h
      refine lv_ldc2 (v := (31 : Int64)) X.1 X.2.1 X.2.2.2.1 (X.2.2.2.2 _ (List.mem_cons_of_mem _ (List.mem_append_left _ (List.mem_append_left _ (List.mem_append_left _ (List.mem_append_left _ (List.mem_of_getElem? (i := 1) rfl))))))) dX3_digest_12 ?_
      refine lv_lload_n X.1 X.2.1 dX3_digest_15 rfl (lv_at hl 1 rfl) ?_
      refine lv_lmul X.1 X.2.1 dX3_digest_16 ?_
      refine lv_aload_n X.1 X.2.1 dX3_digest_17 rfl (lv_at hl 0 rfl) ?_
      refine lv_iload_n X.1 X.2.1 dX3_digest_18 rfl (lv_at hl 2 rfl) ?_
      obtain ⟨r27, q28, h⟩ := bd_e h
      refine kc_v (As := [.int v3]) (rest := [.long ((31 : Int64) * v1)]) X (k_X3_count N v3 σ _ q28) (cwV 1 X.2.2.2.2 gX3_digest_X3_count rfl rfl rfl hd_X3_count ⟨Nat.le_of_ble_eq_true rfl, Nat.le_of_ble_eq_true rfl⟩) hK hP hD hS hA (va_recv hK hP (ci := 2) (q0 := 0) rfl rfl) rfl hl.1 rfl (Nat.le_of_ble_eq_true rfl) dX3_digest_19 ⟨Nat.le_of_ble_eq_true rfl, Nat.le_of_ble_eq_true rfl⟩ (fun H locs hP hD hS => ?_)
      refine lv_i2l (v := r27.toInt64) X.1 X.2.1 dX3_digest_22 rfl ?_
      refine lv_ladd X.1 X.2.1 dX3_digest_23 ?_
      obtain ⟨x29, e30, h⟩ := lt_e h
      refine nm_l e30 ?_
      refine lv_lstore_n (lv' := [(1, .long x29), (0, .ref (a 0)), (3, .int v3)]) X.1 X.2.1 dX3_digest_24 rfl hl (by decide) rfl (fun ls hl => ?_)
      obtain ⟨x31, e32, h⟩ := lt_e h
      refine lv_iinc (v := x31) (lv' := [(3, .int x31), (1, .long x29), (0, .ref (a 0))]) X.1 X.2.1 dX3_digest_25 hl (k := 2) rfl e32.symm (by decide) rfl (fun ls hl => ?_)
      refine lv_goto (tgt := 6) X.1 X.2.1 dX3_digest_28 (by decide) ?_
      exact ih x29 x31 σ _ h _ _ _ hP hD hS (lv_sub hl [2, 1, 0] rfl)
def f_X3_digest (N : Nat) (σ : CS) : Option Int64 := f_X3_digest_L6 N N (73 : Int64) (0 : Int32) σ
theorem hd_X3_digest : yX3_digest.cls = RX3 ∧ yX3_digest.cls ≠ "java/lang/invoke/MethodHandle" ∧ yX3_digest.cls ≠ "java/lang/invoke/VarHandle" ∧ (parseMethodDescriptor yX3_digest.desc).map (fun d => d.parameters.length) = some 0 := by decide +kernel
set_option maxHeartbeats 4000000 in
set_option maxRecDepth 100000 in
theorem k_X3_digest {l : Launch} {D : va_G} {k : Nat → ClassId} {a : Nat → Nat} {ρ : Nat → Nat} (N : Nat)  (σ : CS) (R : Int64) (h : f_X3_digest N σ = some R) : Ct l yX3_digest wsX3_digest ({ frames := 5, cells := 0, slots := 0, locals := 106 } : Room) D (cT k) (cW k a ρ σ) (cW k a ρ σ) [.ref (a 0)] (some (.long R)) := by
  refine ct_of (cc := cX3_digest) (maxL := 5) (ret := (some .long)) (by decide) rfl (Nat.le_of_ble_eq_true rfl) ?_
  intro p e s m args below meth c A ls X hr hlk hK hA hP hD hS hl
  have X : CallFix p m c cX3_digest 5 s args wsX3_digest RX3 := X
  have hl : lv_has ls 5 [(0, .ref (a 0))] := hl
  rw [f_X3_digest] at h
  refine lv_ldc2 (v := (73 : Int64)) X.1 X.2.1 X.2.2.2.1 (X.2.2.2.2 _ (List.mem_cons_of_mem _ (List.mem_append_left _ (List.mem_append_left _ (List.mem_append_left _ (List.mem_append_left _ (List.mem_of_getElem? (i := 0) rfl))))))) dX3_digest_0 ?_
  refine lv_lstore_n (lv' := [(1, .long (73 : Int64)), (0, .ref (a 0))]) X.1 X.2.1 dX3_digest_3 rfl hl (by decide) rfl (fun ls hl => ?_)
  refine lv_iconst (v := (0 : Int32)) X.1 X.2.1 dX3_digest_4 (by decide) ?_
  refine lv_istore_n (lv' := [(3, .int (0 : Int32)), (1, .long (73 : Int64)), (0, .ref (a 0))]) X.1 X.2.1 dX3_digest_5 rfl hl (by decide) rfl (fun ls hl => ?_)
  exact t_X3_digest_L6 X hr hlk hK hA N N (73 : Int64) (0 : Int32) σ _ h _ _ _ hP hD hS (lv_sub hl [2, 1, 0] rfl)

def f_X4_in (p0 : Int32) (p1 : Int32) (p2 : Int32) : Option Int32 := if p0 < p1 then some (0 : Int32) else if p2 < p0 then some (0 : Int32) else some (1 : Int32)
theorem hd_X4_in : yX4_in.cls ≠ "java/lang/invoke/MethodHandle" ∧ yX4_in.cls ≠ "java/lang/invoke/VarHandle" ∧ (parseMethodDescriptor yX4_in.desc).map (fun d => d.parameters.length) = some 3 := by decide +kernel
set_option maxHeartbeats 4000000 in
set_option maxRecDepth 100000 in
theorem k_X4_in {l : Launch} {D : va_G} (p0 : Int32) (p1 : Int32) (p2 : Int32) (R : Int32) (h : f_X4_in p0 p1 p2 = some R) : Ct l yX4_in wsX4_in ({ frames := 0, cells := 0, slots := 0, locals := 0 } : Room) D ([]) ([]) ([]) [.int p0, .int p1, .int p2] (some (.int R)) := by
  refine ct_of (cc := cX4_in) (maxL := 3) (ret := (some .boolean)) (by decide) rfl (Nat.le_of_ble_eq_true rfl) ?_
  intro p e s m args below meth c A ls X hr hlk hK hA hP hD hS hl
  have X : CallFix p m c cX4_in 3 s args wsX4_in RX4 := X
  have hl : lv_has ls 3 [(0, .int p0), (1, .int p1), (2, .int p2)] := hl
  rw [f_X4_in] at h
  refine lv_iload_n X.1 X.2.1 dX4_in_0 rfl (lv_at hl 0 rfl) ?_
  refine lv_iload_n X.1 X.2.1 dX4_in_1 rfl (lv_at hl 1 rfl) ?_
  refine lv_icmp_lt (tgt := 14) X.1 X.2.1 dX4_in_2 (by decide) (fun c1 => ?_) (fun c1 => ?_)
  · rw [if_pos c1] at h
    refine lv_iconst (v := (0 : Int32)) X.1 X.2.1 dX4_in_14 (by decide) ?_
    have h := sm_e h
    subst h
    exact rt_z (v := (0 : Int32)) X hr hlk rfl hK hP hD hS dX4_in_15
  · rw [if_neg c1] at h
    refine lv_iload_n X.1 X.2.1 dX4_in_5 rfl (lv_at hl 0 rfl) ?_
    refine lv_iload_n X.1 X.2.1 dX4_in_6 rfl (lv_at hl 2 rfl) ?_
    refine lv_icmp_gt (tgt := 14) X.1 X.2.1 dX4_in_7 (by decide) (fun c2 => ?_) (fun c2 => ?_)
    · rw [if_pos c2] at h
      refine lv_iconst (v := (0 : Int32)) X.1 X.2.1 dX4_in_14 (by decide) ?_
      have h := sm_e h
      subst h
      exact rt_z (v := (0 : Int32)) X hr hlk rfl hK hP hD hS dX4_in_15
    · rw [if_neg c2] at h
      refine lv_iconst (v := (1 : Int32)) X.1 X.2.1 dX4_in_10 (by decide) ?_
      refine lv_goto (tgt := 15) X.1 X.2.1 dX4_in_11 (by decide) ?_
      have h := sm_e h
      subst h
      exact rt_z (v := (1 : Int32)) X hr hlk rfl hK hP hD hS dX4_in_15
def f_X4_forgets (μ : MS) : Option MS := gd (isZ (0 : Int32)) (lt_ (n_bg μ (0 : Int32)) (fun μ2 => gd (isZ (0 : Int32)) (lt_ (n_dn μ2 (0 : Int32)) (fun μ5 => gd (isZ (0 : Int32)) (lt_ (n_ry μ5 (0 : Int32)) (fun μ8 => lt_ (n_st μ8 (0 : Int32)) (fun μ10 => some μ10)))))))
theorem hd_X4_forgets : yX4_forgets.cls = RX4 ∧ yX4_forgets.cls ≠ "java/lang/invoke/MethodHandle" ∧ yX4_forgets.cls ≠ "java/lang/invoke/VarHandle" ∧ (parseMethodDescriptor yX4_forgets.desc).map (fun d => d.parameters.length) = some 0 := by decide +kernel
set_option maxHeartbeats 4000000 in
set_option maxRecDepth 100000 in
theorem k_X4_forgets {l : Launch} {D : va_G} {k : Nat → ClassId} {a : Nat → Nat}  (μ : MS) (R : MS) (h : f_X4_forgets μ = some R) : Ct l yX4_forgets wsX4_forgets ({ frames := 0, cells := 0, slots := 0, locals := 0 } : Room) D (mT k) (mW k a μ) (mW k a R) [.ref (a 0)] none := by
  refine ct_of (cc := cX4_forgets) (maxL := 1) (ret := none) (by decide) rfl (Nat.le_of_ble_eq_true rfl) ?_
  intro p e s m args below meth c A ls X hr hlk hK hA hP hD hS hl
  have X : CallFix p m c cX4_forgets 1 s args wsX4_forgets RX4 := X
  have hl : lv_has ls 1 [(0, .ref (a 0))] := hl
  rw [f_X4_forgets] at h
  refine lv_aload_n X.1 X.2.1 dX4_forgets_0 rfl (lv_at hl 0 rfl) ?_
  refine lv_iconst (v := (0 : Int32)) X.1 X.2.1 dX4_forgets_1 (by decide) ?_
  obtain ⟨g1, h⟩ := gd_e h
  obtain ⟨μ2, e3, h⟩ := lt_e h
  refine pX4_isBegun X (fun w h => (List.mem_cons_of_mem _ (List.mem_append_right _ h))) hK hP hD hS g1 (List.mem_cons_of_mem _ (List.mem_append_left _ (List.mem_of_getElem? (i := 0) rfl))) e3 dX4_forgets_2 (fun H locs hP hD hS => ?_)
  refine lv_aload_n X.1 X.2.1 dX4_forgets_5 rfl (lv_at hl 0 rfl) ?_
  refine lv_iconst (v := (0 : Int32)) X.1 X.2.1 dX4_forgets_6 (by decide) ?_
  obtain ⟨g4, h⟩ := gd_e h
  obtain ⟨μ5, e6, h⟩ := lt_e h
  refine pX4_isDone X (fun w h => (List.mem_cons_of_mem _ (List.mem_append_right _ h))) hK hP hD hS g4 (List.mem_cons_of_mem _ (List.mem_append_left _ (List.mem_of_getElem? (i := 1) rfl))) e6 dX4_forgets_7 (fun H locs hP hD hS => ?_)
  refine lv_aload_n X.1 X.2.1 dX4_forgets_10 rfl (lv_at hl 0 rfl) ?_
  refine lv_iconst (v := (0 : Int32)) X.1 X.2.1 dX4_forgets_11 (by decide) ?_
  obtain ⟨g7, h⟩ := gd_e h
  obtain ⟨μ8, e9, h⟩ := lt_e h
  refine pX4_isRay X (fun w h => (List.mem_cons_of_mem _ (List.mem_append_right _ h))) hK hP hD hS g7 (List.mem_cons_of_mem _ (List.mem_append_left _ (List.mem_of_getElem? (i := 2) rfl))) e9 dX4_forgets_12 (fun H locs hP hD hS => ?_)
  refine lv_aload_n X.1 X.2.1 dX4_forgets_15 rfl (lv_at hl 0 rfl) ?_
  refine lv_iconst (v := (0 : Int32)) X.1 X.2.1 dX4_forgets_16 (by decide) ?_
  obtain ⟨μ10, e11, h⟩ := lt_e h
  refine pX4_steps X (fun w h => (List.mem_cons_of_mem _ (List.mem_append_right _ h))) hK hP hD hS (List.mem_cons_of_mem _ (List.mem_append_left _ (List.mem_of_getElem? (i := 3) rfl))) e11 dX4_forgets_17 (fun H locs hP hD hS => ?_)
  have h := sm_e h
  subst h
  exact rt_v X hr hlk hK hP hD hS dX4_forgets_20
def f_X4_isPoint (p0 : Int32) (μ : MS) : Option Int32 := (f_X4_in p0 (0 : Int32) ((m_pt μ) - (1 : Int32)) ).bind (fun r1 => gd (isZ r1) (some r1))
theorem hd_X4_isPoint : yX4_isPoint.cls = RX4 ∧ yX4_isPoint.cls ≠ "java/lang/invoke/MethodHandle" ∧ yX4_isPoint.cls ≠ "java/lang/invoke/VarHandle" ∧ (parseMethodDescriptor yX4_isPoint.desc).map (fun d => d.parameters.length) = some 1 := by decide +kernel
set_option maxHeartbeats 4000000 in
set_option maxRecDepth 100000 in
theorem k_X4_isPoint {l : Launch} {D : va_G} {k : Nat → ClassId} {a : Nat → Nat} (p0 : Int32) (μ : MS) (R : Int32) (h : f_X4_isPoint p0 μ = some R) : Ct l yX4_isPoint wsX4_isPoint ({ frames := 1, cells := 0, slots := 0, locals := 22 } : Room) D (mT k) (mW k a μ) (mW k a μ) [.ref (a 0), .int p0] (some (.int R)) := by
  refine ct_of (cc := cX4_isPoint) (maxL := 2) (ret := (some .boolean)) (by decide) rfl (Nat.le_of_ble_eq_true rfl) ?_
  intro p e s m args below meth c A ls X hr hlk hK hA hP hD hS hl
  have X : CallFix p m c cX4_isPoint 2 s args wsX4_isPoint RX4 := X
  have hl : lv_has ls 2 [(0, .ref (a 0)), (1, .int p0)] := hl
  rw [f_X4_isPoint] at h
  refine lv_iload_n X.1 X.2.1 dX4_isPoint_0 rfl (lv_at hl 1 rfl) ?_
  refine lv_iconst (v := (0 : Int32)) X.1 X.2.1 dX4_isPoint_1 (by decide) ?_
  refine lv_aload_n X.1 X.2.1 dX4_isPoint_2 rfl (lv_at hl 0 rfl) ?_
  refine gX4_points X (fun w h => (List.mem_cons_of_mem _ (List.mem_append_right _ h))) hK hP (List.mem_cons_of_mem _ (List.mem_append_left _ (List.mem_of_getElem? (i := 0) rfl))) dX4_isPoint_3 ?_
  refine lv_iconst (v := (1 : Int32)) X.1 X.2.1 dX4_isPoint_6 (by decide) ?_
  refine lv_isub X.1 X.2.1 dX4_isPoint_7 ?_
  obtain ⟨r1, q2, h⟩ := bd_e h
  refine kc_s (As := [.int p0, .int (0 : Int32), .int ((m_pt μ) - (1 : Int32))]) (rest := []) X (k_X4_in p0 (0 : Int32) ((m_pt μ) - (1 : Int32)) _ q2) (va_cwS 3 X.2.2.2.2 gX4_isPoint_X4_in rfl rfl rfl hd_X4_in ⟨Nat.le_of_ble_eq_true rfl, Nat.le_of_ble_eq_true rfl⟩) hK hP hS hA rfl hl.1 rfl (Nat.le_of_ble_eq_true rfl) dX4_isPoint_8 ⟨Nat.le_of_ble_eq_true rfl, Nat.le_of_ble_eq_true rfl⟩ (fun H locs hP hS => ?_)
  obtain ⟨g3, h⟩ := gd_e h
  have h := sm_e h
  subst h
  exact rt_z X hr hlk (isZ_n g3) hK hP hD hS dX4_isPoint_11
def f_X4_point (p0 : Int32) (p1 : Int32) (p2 : Int32) (μ : MS) : Option (Int32 × MS) := (f_X4_in p0 (-4 : Int32) (4 : Int32) ).bind (fun r1 => if r1 = 0 then some ((-2 : Int32), μ) else (f_X4_in p1 (-4 : Int32) (4 : Int32) ).bind (fun r4 => if r4 = 0 then some ((-2 : Int32), μ) else if p2 = (1 : Int32) then if (m_dg μ) = (1 : Int32) then if (m_pt μ) = (6 : Int32) then some ((-4 : Int32), μ) else gd (inB (m_pt μ) 6) (lt_ (n_px μ (upd (m_px μ) (m_pt μ).toNatClampNeg p0)) (fun μ25 => gd (inB (m_pt μ25) 6) (lt_ (n_py μ25 (upd (m_py μ25) (m_pt μ25).toNatClampNeg p1)) (fun μ28 => gd (inB (m_pt μ28) 6) (lt_ (n_lb μ28 (upd (m_lb μ28) (m_pt μ28).toNatClampNeg p2)) (fun μ31 => lt_ (n_pt μ31 ((m_pt μ31) + (1 : Int32))) (fun μ33 => (f_X4_forgets μ33).bind (fun r35 => some (((m_pt r35) - (1 : Int32)), r35))))))))) else if (m_pt μ) = (4 : Int32) then some ((-4 : Int32), μ) else gd (inB (m_pt μ) 6) (lt_ (n_px μ (upd (m_px μ) (m_pt μ).toNatClampNeg p0)) (fun μ11 => gd (inB (m_pt μ11) 6) (lt_ (n_py μ11 (upd (m_py μ11) (m_pt μ11).toNatClampNeg p1)) (fun μ14 => gd (inB (m_pt μ14) 6) (lt_ (n_lb μ14 (upd (m_lb μ14) (m_pt μ14).toNatClampNeg p2)) (fun μ17 => lt_ (n_pt μ17 ((m_pt μ17) + (1 : Int32))) (fun μ19 => (f_X4_forgets μ19).bind (fun r21 => some (((m_pt r21) - (1 : Int32)), r21))))))))) else if p2 = (-1 : Int32) then if (m_dg μ) = (1 : Int32) then if (m_pt μ) = (6 : Int32) then some ((-4 : Int32), μ) else gd (inB (m_pt μ) 6) (lt_ (n_px μ (upd (m_px μ) (m_pt μ).toNatClampNeg p0)) (fun μ55 => gd (inB (m_pt μ55) 6) (lt_ (n_py μ55 (upd (m_py μ55) (m_pt μ55).toNatClampNeg p1)) (fun μ58 => gd (inB (m_pt μ58) 6) (lt_ (n_lb μ58 (upd (m_lb μ58) (m_pt μ58).toNatClampNeg p2)) (fun μ61 => lt_ (n_pt μ61 ((m_pt μ61) + (1 : Int32))) (fun μ63 => (f_X4_forgets μ63).bind (fun r65 => some (((m_pt r65) - (1 : Int32)), r65))))))))) else if (m_pt μ) = (4 : Int32) then some ((-4 : Int32), μ) else gd (inB (m_pt μ) 6) (lt_ (n_px μ (upd (m_px μ) (m_pt μ).toNatClampNeg p0)) (fun μ41 => gd (inB (m_pt μ41) 6) (lt_ (n_py μ41 (upd (m_py μ41) (m_pt μ41).toNatClampNeg p1)) (fun μ44 => gd (inB (m_pt μ44) 6) (lt_ (n_lb μ44 (upd (m_lb μ44) (m_pt μ44).toNatClampNeg p2)) (fun μ47 => lt_ (n_pt μ47 ((m_pt μ47) + (1 : Int32))) (fun μ49 => (f_X4_forgets μ49).bind (fun r51 => some (((m_pt r51) - (1 : Int32)), r51))))))))) else some ((-2 : Int32), μ)))
theorem hd_X4_point : yX4_point.cls = RX4 ∧ yX4_point.cls ≠ "java/lang/invoke/MethodHandle" ∧ yX4_point.cls ≠ "java/lang/invoke/VarHandle" ∧ (parseMethodDescriptor yX4_point.desc).map (fun d => d.parameters.length) = some 3 := by decide +kernel
set_option maxHeartbeats 4000000 in
set_option maxRecDepth 100000 in
theorem k_X4_point {l : Launch} {D : va_G} {k : Nat → ClassId} {a : Nat → Nat} (p0 : Int32) (p1 : Int32) (p2 : Int32) (μ : MS) (R : (Int32 × MS)) (h : f_X4_point p0 p1 p2 μ = some R) : Ct l yX4_point wsX4_point ({ frames := 1, cells := 0, slots := 0, locals := 22 } : Room) D (mT k) (mW k a μ) (mW k a R.2) [.ref (a 0), .int p0, .int p1, .int p2] (some (.int R.1)) := by
  refine ct_of (cc := cX4_point) (maxL := 4) (ret := (some .int)) (by decide) rfl (Nat.le_of_ble_eq_true rfl) ?_
  intro p e s m args below meth c A ls X hr hlk hK hA hP hD hS hl
  have X : CallFix p m c cX4_point 4 s args wsX4_point RX4 := X
  have hl : lv_has ls 4 [(0, .ref (a 0)), (1, .int p0), (2, .int p1), (3, .int p2)] := hl
  rw [f_X4_point] at h
  refine lv_iload_n X.1 X.2.1 dX4_point_0 rfl (lv_at hl 1 rfl) ?_
  refine lv_bipush (v := (-4 : Int32)) X.1 X.2.1 dX4_point_1 (by decide) ?_
  refine lv_iconst (v := (4 : Int32)) X.1 X.2.1 dX4_point_3 (by decide) ?_
  obtain ⟨r1, q2, h⟩ := bd_e h
  refine kc_s (As := [.int p0, .int (-4 : Int32), .int (4 : Int32)]) (rest := []) X (k_X4_in p0 (-4 : Int32) (4 : Int32) _ q2) (va_cwS 3 X.2.2.2.2 gX4_point_X4_in rfl rfl rfl hd_X4_in ⟨Nat.le_of_ble_eq_true rfl, Nat.le_of_ble_eq_true rfl⟩) hK hP hS hA rfl hl.1 rfl (Nat.le_of_ble_eq_true rfl) dX4_point_4 ⟨Nat.le_of_ble_eq_true rfl, Nat.le_of_ble_eq_true rfl⟩ (fun H locs hP hS => ?_)
  refine lv_if_eq (tgt := 30) X.1 X.2.1 dX4_point_7 (by decide) (fun c3 => ?_) (fun c3 => ?_)
  · rw [if_pos c3] at h
    refine lv_bipush (v := (-2 : Int32)) X.1 X.2.1 dX4_point_30 (by decide) ?_
    have h := sm_e h
    subst h
    exact rt_i X hr hlk hK hP hD hS dX4_point_32
  · rw [if_neg c3] at h
    refine lv_iload_n X.1 X.2.1 dX4_point_10 rfl (lv_at hl 2 rfl) ?_
    refine lv_bipush (v := (-4 : Int32)) X.1 X.2.1 dX4_point_11 (by decide) ?_
    refine lv_iconst (v := (4 : Int32)) X.1 X.2.1 dX4_point_13 (by decide) ?_
    obtain ⟨r4, q5, h⟩ := bd_e h
    refine kc_s (As := [.int p1, .int (-4 : Int32), .int (4 : Int32)]) (rest := []) X (k_X4_in p1 (-4 : Int32) (4 : Int32) _ q5) (va_cwS 3 X.2.2.2.2 gX4_point_X4_in rfl rfl rfl hd_X4_in ⟨Nat.le_of_ble_eq_true rfl, Nat.le_of_ble_eq_true rfl⟩) hK hP hS hA rfl hl.1 rfl (Nat.le_of_ble_eq_true rfl) dX4_point_14 ⟨Nat.le_of_ble_eq_true rfl, Nat.le_of_ble_eq_true rfl⟩ (fun H locs hP hS => ?_)
    refine lv_if_eq (tgt := 30) X.1 X.2.1 dX4_point_17 (by decide) (fun c6 => ?_) (fun c6 => ?_)
    · rw [if_pos c6] at h
      refine lv_bipush (v := (-2 : Int32)) X.1 X.2.1 dX4_point_30 (by decide) ?_
      have h := sm_e h
      subst h
      exact rt_i X hr hlk hK hP hD hS dX4_point_32
    · rw [if_neg c6] at h
      refine lv_iload_n X.1 X.2.1 dX4_point_20 rfl (lv_at hl 3 rfl) ?_
      refine lv_iconst (v := (1 : Int32)) X.1 X.2.1 dX4_point_21 (by decide) ?_
      refine lv_icmp_eq (tgt := 33) X.1 X.2.1 dX4_point_22 (by decide) (fun c7 => ?_) (fun c7 => ?_)
      · rw [if_pos c7] at h
        refine lv_aload_n X.1 X.2.1 dX4_point_33 rfl (lv_at hl 0 rfl) ?_
        refine gX4_points X (fun w h => (List.mem_cons_of_mem _ (List.mem_append_right _ h))) hK hP (List.mem_cons_of_mem _ (List.mem_append_left _ (List.mem_of_getElem? (i := 0) rfl))) dX4_point_34 ?_
        refine lv_aload_n X.1 X.2.1 dX4_point_37 rfl (lv_at hl 0 rfl) ?_
        refine gX4_degree X (fun w h => (List.mem_cons_of_mem _ (List.mem_append_right _ h))) hK hP (List.mem_cons_of_mem _ (List.mem_append_left _ (List.mem_of_getElem? (i := 1) rfl))) dX4_point_38 ?_
        refine lv_iconst (v := (1 : Int32)) X.1 X.2.1 dX4_point_41 (by decide) ?_
        refine lv_icmp_ne (tgt := 50) X.1 X.2.1 dX4_point_42 (by decide) (fun c8 => ?_) (fun c8 => ?_)
        · rw [if_neg c8] at h
          refine lv_iconst (v := (4 : Int32)) X.1 X.2.1 dX4_point_50 (by decide) ?_
          refine lv_icmp_ne (tgt := 57) X.1 X.2.1 dX4_point_51 (by decide) (fun c9 => ?_) (fun c9 => ?_)
          · rw [if_neg c9] at h
            refine lv_aload_n X.1 X.2.1 dX4_point_57 rfl (lv_at hl 0 rfl) ?_
            refine gX4_px X (fun w h => (List.mem_cons_of_mem _ (List.mem_append_right _ h))) hK hP (List.mem_cons_of_mem _ (List.mem_append_left _ (List.mem_of_getElem? (i := 2) rfl))) dX4_point_58 ?_
            refine lv_aload_n X.1 X.2.1 dX4_point_61 rfl (lv_at hl 0 rfl) ?_
            refine gX4_points X (fun w h => (List.mem_cons_of_mem _ (List.mem_append_right _ h))) hK hP (List.mem_cons_of_mem _ (List.mem_append_left _ (List.mem_of_getElem? (i := 0) rfl))) dX4_point_62 ?_
            refine lv_iload_n X.1 X.2.1 dX4_point_65 rfl (lv_at hl 1 rfl) ?_
            obtain ⟨g10, h⟩ := gd_e h
            obtain ⟨μ11, e12, h⟩ := lt_e h
            refine tm_px X hK hP hD hS g10 e12 dX4_point_66 (fun H locs hP hD hS => ?_)
            refine lv_aload_n X.1 X.2.1 dX4_point_67 rfl (lv_at hl 0 rfl) ?_
            refine gX4_py X (fun w h => (List.mem_cons_of_mem _ (List.mem_append_right _ h))) hK hP (List.mem_cons_of_mem _ (List.mem_append_left _ (List.mem_of_getElem? (i := 3) rfl))) dX4_point_68 ?_
            refine lv_aload_n X.1 X.2.1 dX4_point_71 rfl (lv_at hl 0 rfl) ?_
            refine gX4_points X (fun w h => (List.mem_cons_of_mem _ (List.mem_append_right _ h))) hK hP (List.mem_cons_of_mem _ (List.mem_append_left _ (List.mem_of_getElem? (i := 0) rfl))) dX4_point_72 ?_
            refine lv_iload_n X.1 X.2.1 dX4_point_75 rfl (lv_at hl 2 rfl) ?_
            obtain ⟨g13, h⟩ := gd_e h
            obtain ⟨μ14, e15, h⟩ := lt_e h
            refine tm_py X hK hP hD hS g13 e15 dX4_point_76 (fun H locs hP hD hS => ?_)
            refine lv_aload_n X.1 X.2.1 dX4_point_77 rfl (lv_at hl 0 rfl) ?_
            refine gX4_label X (fun w h => (List.mem_cons_of_mem _ (List.mem_append_right _ h))) hK hP (List.mem_cons_of_mem _ (List.mem_append_left _ (List.mem_of_getElem? (i := 4) rfl))) dX4_point_78 ?_
            refine lv_aload_n X.1 X.2.1 dX4_point_81 rfl (lv_at hl 0 rfl) ?_
            refine gX4_points X (fun w h => (List.mem_cons_of_mem _ (List.mem_append_right _ h))) hK hP (List.mem_cons_of_mem _ (List.mem_append_left _ (List.mem_of_getElem? (i := 0) rfl))) dX4_point_82 ?_
            refine lv_iload_n X.1 X.2.1 dX4_point_85 rfl (lv_at hl 3 rfl) ?_
            obtain ⟨g16, h⟩ := gd_e h
            obtain ⟨μ17, e18, h⟩ := lt_e h
            refine tm_lb X hK hP hD hS g16 e18 dX4_point_86 (fun H locs hP hD hS => ?_)
            refine lv_aload_n X.1 X.2.1 dX4_point_87 rfl (lv_at hl 0 rfl) ?_
            refine lv_dup X.1 X.2.1 dX4_point_88 rfl ?_
            refine gX4_points X (fun w h => (List.mem_cons_of_mem _ (List.mem_append_right _ h))) hK hP (List.mem_cons_of_mem _ (List.mem_append_left _ (List.mem_of_getElem? (i := 0) rfl))) dX4_point_89 ?_
            refine lv_iconst (v := (1 : Int32)) X.1 X.2.1 dX4_point_92 (by decide) ?_
            refine lv_iadd X.1 X.2.1 dX4_point_93 ?_
            obtain ⟨μ19, e20, h⟩ := lt_e h
            refine pX4_points X (fun w h => (List.mem_cons_of_mem _ (List.mem_append_right _ h))) hK hP hD hS (List.mem_cons_of_mem _ (List.mem_append_left _ (List.mem_of_getElem? (i := 0) rfl))) e20 dX4_point_94 (fun H locs hP hD hS => ?_)
            refine lv_aload_n X.1 X.2.1 dX4_point_97 rfl (lv_at hl 0 rfl) ?_
            obtain ⟨r21, q22, h⟩ := bd_e h
            refine kc_v (As := []) (rest := []) X (k_X4_forgets μ19 _ q22) (cwV 0 X.2.2.2.2 gX4_point_X4_forgets rfl rfl rfl hd_X4_forgets ⟨Nat.le_of_ble_eq_true rfl, Nat.le_of_ble_eq_true rfl⟩) hK hP hD hS hA (va_recv hK hP (ci := 3) (q0 := 0) rfl rfl) rfl hl.1 rfl (Nat.le_of_ble_eq_true rfl) dX4_point_98 ⟨Nat.le_of_ble_eq_true rfl, Nat.le_of_ble_eq_true rfl⟩ (fun H locs hP hD hS => ?_)
            refine lv_aload_n X.1 X.2.1 dX4_point_101 rfl (lv_at hl 0 rfl) ?_
            refine gX4_points X (fun w h => (List.mem_cons_of_mem _ (List.mem_append_right _ h))) hK hP (List.mem_cons_of_mem _ (List.mem_append_left _ (List.mem_of_getElem? (i := 0) rfl))) dX4_point_102 ?_
            refine lv_iconst (v := (1 : Int32)) X.1 X.2.1 dX4_point_105 (by decide) ?_
            refine lv_isub X.1 X.2.1 dX4_point_106 ?_
            have h := sm_e h
            subst h
            exact rt_i X hr hlk hK hP hD hS dX4_point_107
          · rw [if_pos c9] at h
            refine lv_bipush (v := (-4 : Int32)) X.1 X.2.1 dX4_point_54 (by decide) ?_
            have h := sm_e h
            subst h
            exact rt_i X hr hlk hK hP hD hS dX4_point_56
        · rw [if_pos c8] at h
          refine lv_bipush (v := (6 : Int32)) X.1 X.2.1 dX4_point_45 (by decide) ?_
          refine lv_goto (tgt := 51) X.1 X.2.1 dX4_point_47 (by decide) ?_
          refine lv_icmp_ne (tgt := 57) X.1 X.2.1 dX4_point_51 (by decide) (fun c23 => ?_) (fun c23 => ?_)
          · rw [if_neg c23] at h
            refine lv_aload_n X.1 X.2.1 dX4_point_57 rfl (lv_at hl 0 rfl) ?_
            refine gX4_px X (fun w h => (List.mem_cons_of_mem _ (List.mem_append_right _ h))) hK hP (List.mem_cons_of_mem _ (List.mem_append_left _ (List.mem_of_getElem? (i := 2) rfl))) dX4_point_58 ?_
            refine lv_aload_n X.1 X.2.1 dX4_point_61 rfl (lv_at hl 0 rfl) ?_
            refine gX4_points X (fun w h => (List.mem_cons_of_mem _ (List.mem_append_right _ h))) hK hP (List.mem_cons_of_mem _ (List.mem_append_left _ (List.mem_of_getElem? (i := 0) rfl))) dX4_point_62 ?_
            refine lv_iload_n X.1 X.2.1 dX4_point_65 rfl (lv_at hl 1 rfl) ?_
            obtain ⟨g24, h⟩ := gd_e h
            obtain ⟨μ25, e26, h⟩ := lt_e h
            refine tm_px X hK hP hD hS g24 e26 dX4_point_66 (fun H locs hP hD hS => ?_)
            refine lv_aload_n X.1 X.2.1 dX4_point_67 rfl (lv_at hl 0 rfl) ?_
            refine gX4_py X (fun w h => (List.mem_cons_of_mem _ (List.mem_append_right _ h))) hK hP (List.mem_cons_of_mem _ (List.mem_append_left _ (List.mem_of_getElem? (i := 3) rfl))) dX4_point_68 ?_
            refine lv_aload_n X.1 X.2.1 dX4_point_71 rfl (lv_at hl 0 rfl) ?_
            refine gX4_points X (fun w h => (List.mem_cons_of_mem _ (List.mem_append_right _ h))) hK hP (List.mem_cons_of_mem _ (List.mem_append_left _ (List.mem_of_getElem? (i := 0) rfl))) dX4_point_72 ?_
            refine lv_iload_n X.1 X.2.1 dX4_point_75 rfl (lv_at hl 2 rfl) ?_
            obtain ⟨g27, h⟩ := gd_e h
            obtain ⟨μ28, e29, h⟩ := lt_e h
            refine tm_py X hK hP hD hS g27 e29 dX4_point_76 (fun H locs hP hD hS => ?_)
            refine lv_aload_n X.1 X.2.1 dX4_point_77 rfl (lv_at hl 0 rfl) ?_
            refine gX4_label X (fun w h => (List.mem_cons_of_mem _ (List.mem_append_right _ h))) hK hP (List.mem_cons_of_mem _ (List.mem_append_left _ (List.mem_of_getElem? (i := 4) rfl))) dX4_point_78 ?_
            refine lv_aload_n X.1 X.2.1 dX4_point_81 rfl (lv_at hl 0 rfl) ?_
            refine gX4_points X (fun w h => (List.mem_cons_of_mem _ (List.mem_append_right _ h))) hK hP (List.mem_cons_of_mem _ (List.mem_append_left _ (List.mem_of_getElem? (i := 0) rfl))) dX4_point_82 ?_
            refine lv_iload_n X.1 X.2.1 dX4_point_85 rfl (lv_at hl 3 rfl) ?_
            obtain ⟨g30, h⟩ := gd_e h
            obtain ⟨μ31, e32, h⟩ := lt_e h
            refine tm_lb X hK hP hD hS g30 e32 dX4_point_86 (fun H locs hP hD hS => ?_)
            refine lv_aload_n X.1 X.2.1 dX4_point_87 rfl (lv_at hl 0 rfl) ?_
            refine lv_dup X.1 X.2.1 dX4_point_88 rfl ?_
            refine gX4_points X (fun w h => (List.mem_cons_of_mem _ (List.mem_append_right _ h))) hK hP (List.mem_cons_of_mem _ (List.mem_append_left _ (List.mem_of_getElem? (i := 0) rfl))) dX4_point_89 ?_
            refine lv_iconst (v := (1 : Int32)) X.1 X.2.1 dX4_point_92 (by decide) ?_
            refine lv_iadd X.1 X.2.1 dX4_point_93 ?_
            obtain ⟨μ33, e34, h⟩ := lt_e h
            refine pX4_points X (fun w h => (List.mem_cons_of_mem _ (List.mem_append_right _ h))) hK hP hD hS (List.mem_cons_of_mem _ (List.mem_append_left _ (List.mem_of_getElem? (i := 0) rfl))) e34 dX4_point_94 (fun H locs hP hD hS => ?_)
            refine lv_aload_n X.1 X.2.1 dX4_point_97 rfl (lv_at hl 0 rfl) ?_
            obtain ⟨r35, q36, h⟩ := bd_e h
            refine kc_v (As := []) (rest := []) X (k_X4_forgets μ33 _ q36) (cwV 0 X.2.2.2.2 gX4_point_X4_forgets rfl rfl rfl hd_X4_forgets ⟨Nat.le_of_ble_eq_true rfl, Nat.le_of_ble_eq_true rfl⟩) hK hP hD hS hA (va_recv hK hP (ci := 3) (q0 := 0) rfl rfl) rfl hl.1 rfl (Nat.le_of_ble_eq_true rfl) dX4_point_98 ⟨Nat.le_of_ble_eq_true rfl, Nat.le_of_ble_eq_true rfl⟩ (fun H locs hP hD hS => ?_)
            refine lv_aload_n X.1 X.2.1 dX4_point_101 rfl (lv_at hl 0 rfl) ?_
            refine gX4_points X (fun w h => (List.mem_cons_of_mem _ (List.mem_append_right _ h))) hK hP (List.mem_cons_of_mem _ (List.mem_append_left _ (List.mem_of_getElem? (i := 0) rfl))) dX4_point_102 ?_
            refine lv_iconst (v := (1 : Int32)) X.1 X.2.1 dX4_point_105 (by decide) ?_
            refine lv_isub X.1 X.2.1 dX4_point_106 ?_
            have h := sm_e h
            subst h
            exact rt_i X hr hlk hK hP hD hS dX4_point_107
          · rw [if_pos c23] at h
            refine lv_bipush (v := (-4 : Int32)) X.1 X.2.1 dX4_point_54 (by decide) ?_
            have h := sm_e h
            subst h
            exact rt_i X hr hlk hK hP hD hS dX4_point_56
      · rw [if_neg c7] at h
        refine lv_iload_n X.1 X.2.1 dX4_point_25 rfl (lv_at hl 3 rfl) ?_
        refine lv_iconst (v := (-1 : Int32)) X.1 X.2.1 dX4_point_26 (by decide) ?_
        refine lv_icmp_eq (tgt := 33) X.1 X.2.1 dX4_point_27 (by decide) (fun c37 => ?_) (fun c37 => ?_)
        · rw [if_pos c37] at h
          refine lv_aload_n X.1 X.2.1 dX4_point_33 rfl (lv_at hl 0 rfl) ?_
          refine gX4_points X (fun w h => (List.mem_cons_of_mem _ (List.mem_append_right _ h))) hK hP (List.mem_cons_of_mem _ (List.mem_append_left _ (List.mem_of_getElem? (i := 0) rfl))) dX4_point_34 ?_
          refine lv_aload_n X.1 X.2.1 dX4_point_37 rfl (lv_at hl 0 rfl) ?_
          refine gX4_degree X (fun w h => (List.mem_cons_of_mem _ (List.mem_append_right _ h))) hK hP (List.mem_cons_of_mem _ (List.mem_append_left _ (List.mem_of_getElem? (i := 1) rfl))) dX4_point_38 ?_
          refine lv_iconst (v := (1 : Int32)) X.1 X.2.1 dX4_point_41 (by decide) ?_
          refine lv_icmp_ne (tgt := 50) X.1 X.2.1 dX4_point_42 (by decide) (fun c38 => ?_) (fun c38 => ?_)
          · rw [if_neg c38] at h
            refine lv_iconst (v := (4 : Int32)) X.1 X.2.1 dX4_point_50 (by decide) ?_
            refine lv_icmp_ne (tgt := 57) X.1 X.2.1 dX4_point_51 (by decide) (fun c39 => ?_) (fun c39 => ?_)
            · rw [if_neg c39] at h
              refine lv_aload_n X.1 X.2.1 dX4_point_57 rfl (lv_at hl 0 rfl) ?_
              refine gX4_px X (fun w h => (List.mem_cons_of_mem _ (List.mem_append_right _ h))) hK hP (List.mem_cons_of_mem _ (List.mem_append_left _ (List.mem_of_getElem? (i := 2) rfl))) dX4_point_58 ?_
              refine lv_aload_n X.1 X.2.1 dX4_point_61 rfl (lv_at hl 0 rfl) ?_
              refine gX4_points X (fun w h => (List.mem_cons_of_mem _ (List.mem_append_right _ h))) hK hP (List.mem_cons_of_mem _ (List.mem_append_left _ (List.mem_of_getElem? (i := 0) rfl))) dX4_point_62 ?_
              refine lv_iload_n X.1 X.2.1 dX4_point_65 rfl (lv_at hl 1 rfl) ?_
              obtain ⟨g40, h⟩ := gd_e h
              obtain ⟨μ41, e42, h⟩ := lt_e h
              refine tm_px X hK hP hD hS g40 e42 dX4_point_66 (fun H locs hP hD hS => ?_)
              refine lv_aload_n X.1 X.2.1 dX4_point_67 rfl (lv_at hl 0 rfl) ?_
              refine gX4_py X (fun w h => (List.mem_cons_of_mem _ (List.mem_append_right _ h))) hK hP (List.mem_cons_of_mem _ (List.mem_append_left _ (List.mem_of_getElem? (i := 3) rfl))) dX4_point_68 ?_
              refine lv_aload_n X.1 X.2.1 dX4_point_71 rfl (lv_at hl 0 rfl) ?_
              refine gX4_points X (fun w h => (List.mem_cons_of_mem _ (List.mem_append_right _ h))) hK hP (List.mem_cons_of_mem _ (List.mem_append_left _ (List.mem_of_getElem? (i := 0) rfl))) dX4_point_72 ?_
              refine lv_iload_n X.1 X.2.1 dX4_point_75 rfl (lv_at hl 2 rfl) ?_
              obtain ⟨g43, h⟩ := gd_e h
              obtain ⟨μ44, e45, h⟩ := lt_e h
              refine tm_py X hK hP hD hS g43 e45 dX4_point_76 (fun H locs hP hD hS => ?_)
              refine lv_aload_n X.1 X.2.1 dX4_point_77 rfl (lv_at hl 0 rfl) ?_
              refine gX4_label X (fun w h => (List.mem_cons_of_mem _ (List.mem_append_right _ h))) hK hP (List.mem_cons_of_mem _ (List.mem_append_left _ (List.mem_of_getElem? (i := 4) rfl))) dX4_point_78 ?_
              refine lv_aload_n X.1 X.2.1 dX4_point_81 rfl (lv_at hl 0 rfl) ?_
              refine gX4_points X (fun w h => (List.mem_cons_of_mem _ (List.mem_append_right _ h))) hK hP (List.mem_cons_of_mem _ (List.mem_append_left _ (List.mem_of_getElem? (i := 0) rfl))) dX4_point_82 ?_
              refine lv_iload_n X.1 X.2.1 dX4_point_85 rfl (lv_at hl 3 rfl) ?_
              obtain ⟨g46, h⟩ := gd_e h
              obtain ⟨μ47, e48, h⟩ := lt_e h
              refine tm_lb X hK hP hD hS g46 e48 dX4_point_86 (fun H locs hP hD hS => ?_)
              refine lv_aload_n X.1 X.2.1 dX4_point_87 rfl (lv_at hl 0 rfl) ?_
              refine lv_dup X.1 X.2.1 dX4_point_88 rfl ?_
              refine gX4_points X (fun w h => (List.mem_cons_of_mem _ (List.mem_append_right _ h))) hK hP (List.mem_cons_of_mem _ (List.mem_append_left _ (List.mem_of_getElem? (i := 0) rfl))) dX4_point_89 ?_
              refine lv_iconst (v := (1 : Int32)) X.1 X.2.1 dX4_point_92 (by decide) ?_
              refine lv_iadd X.1 X.2.1 dX4_point_93 ?_
              obtain ⟨μ49, e50, h⟩ := lt_e h
              refine pX4_points X (fun w h => (List.mem_cons_of_mem _ (List.mem_append_right _ h))) hK hP hD hS (List.mem_cons_of_mem _ (List.mem_append_left _ (List.mem_of_getElem? (i := 0) rfl))) e50 dX4_point_94 (fun H locs hP hD hS => ?_)
              refine lv_aload_n X.1 X.2.1 dX4_point_97 rfl (lv_at hl 0 rfl) ?_
              obtain ⟨r51, q52, h⟩ := bd_e h
              refine kc_v (As := []) (rest := []) X (k_X4_forgets μ49 _ q52) (cwV 0 X.2.2.2.2 gX4_point_X4_forgets rfl rfl rfl hd_X4_forgets ⟨Nat.le_of_ble_eq_true rfl, Nat.le_of_ble_eq_true rfl⟩) hK hP hD hS hA (va_recv hK hP (ci := 3) (q0 := 0) rfl rfl) rfl hl.1 rfl (Nat.le_of_ble_eq_true rfl) dX4_point_98 ⟨Nat.le_of_ble_eq_true rfl, Nat.le_of_ble_eq_true rfl⟩ (fun H locs hP hD hS => ?_)
              refine lv_aload_n X.1 X.2.1 dX4_point_101 rfl (lv_at hl 0 rfl) ?_
              refine gX4_points X (fun w h => (List.mem_cons_of_mem _ (List.mem_append_right _ h))) hK hP (List.mem_cons_of_mem _ (List.mem_append_left _ (List.mem_of_getElem? (i := 0) rfl))) dX4_point_102 ?_
              refine lv_iconst (v := (1 : Int32)) X.1 X.2.1 dX4_point_105 (by decide) ?_
              refine lv_isub X.1 X.2.1 dX4_point_106 ?_
              have h := sm_e h
              subst h
              exact rt_i X hr hlk hK hP hD hS dX4_point_107
            · rw [if_pos c39] at h
              refine lv_bipush (v := (-4 : Int32)) X.1 X.2.1 dX4_point_54 (by decide) ?_
              have h := sm_e h
              subst h
              exact rt_i X hr hlk hK hP hD hS dX4_point_56
          · rw [if_pos c38] at h
            refine lv_bipush (v := (6 : Int32)) X.1 X.2.1 dX4_point_45 (by decide) ?_
            refine lv_goto (tgt := 51) X.1 X.2.1 dX4_point_47 (by decide) ?_
            refine lv_icmp_ne (tgt := 57) X.1 X.2.1 dX4_point_51 (by decide) (fun c53 => ?_) (fun c53 => ?_)
            · rw [if_neg c53] at h
              refine lv_aload_n X.1 X.2.1 dX4_point_57 rfl (lv_at hl 0 rfl) ?_
              refine gX4_px X (fun w h => (List.mem_cons_of_mem _ (List.mem_append_right _ h))) hK hP (List.mem_cons_of_mem _ (List.mem_append_left _ (List.mem_of_getElem? (i := 2) rfl))) dX4_point_58 ?_
              refine lv_aload_n X.1 X.2.1 dX4_point_61 rfl (lv_at hl 0 rfl) ?_
              refine gX4_points X (fun w h => (List.mem_cons_of_mem _ (List.mem_append_right _ h))) hK hP (List.mem_cons_of_mem _ (List.mem_append_left _ (List.mem_of_getElem? (i := 0) rfl))) dX4_point_62 ?_
              refine lv_iload_n X.1 X.2.1 dX4_point_65 rfl (lv_at hl 1 rfl) ?_
              obtain ⟨g54, h⟩ := gd_e h
              obtain ⟨μ55, e56, h⟩ := lt_e h
              refine tm_px X hK hP hD hS g54 e56 dX4_point_66 (fun H locs hP hD hS => ?_)
              refine lv_aload_n X.1 X.2.1 dX4_point_67 rfl (lv_at hl 0 rfl) ?_
              refine gX4_py X (fun w h => (List.mem_cons_of_mem _ (List.mem_append_right _ h))) hK hP (List.mem_cons_of_mem _ (List.mem_append_left _ (List.mem_of_getElem? (i := 3) rfl))) dX4_point_68 ?_
              refine lv_aload_n X.1 X.2.1 dX4_point_71 rfl (lv_at hl 0 rfl) ?_
              refine gX4_points X (fun w h => (List.mem_cons_of_mem _ (List.mem_append_right _ h))) hK hP (List.mem_cons_of_mem _ (List.mem_append_left _ (List.mem_of_getElem? (i := 0) rfl))) dX4_point_72 ?_
              refine lv_iload_n X.1 X.2.1 dX4_point_75 rfl (lv_at hl 2 rfl) ?_
              obtain ⟨g57, h⟩ := gd_e h
              obtain ⟨μ58, e59, h⟩ := lt_e h
              refine tm_py X hK hP hD hS g57 e59 dX4_point_76 (fun H locs hP hD hS => ?_)
              refine lv_aload_n X.1 X.2.1 dX4_point_77 rfl (lv_at hl 0 rfl) ?_
              refine gX4_label X (fun w h => (List.mem_cons_of_mem _ (List.mem_append_right _ h))) hK hP (List.mem_cons_of_mem _ (List.mem_append_left _ (List.mem_of_getElem? (i := 4) rfl))) dX4_point_78 ?_
              refine lv_aload_n X.1 X.2.1 dX4_point_81 rfl (lv_at hl 0 rfl) ?_
              refine gX4_points X (fun w h => (List.mem_cons_of_mem _ (List.mem_append_right _ h))) hK hP (List.mem_cons_of_mem _ (List.mem_append_left _ (List.mem_of_getElem? (i := 0) rfl))) dX4_point_82 ?_
              refine lv_iload_n X.1 X.2.1 dX4_point_85 rfl (lv_at hl 3 rfl) ?_
              obtain ⟨g60, h⟩ := gd_e h
              obtain ⟨μ61, e62, h⟩ := lt_e h
              refine tm_lb X hK hP hD hS g60 e62 dX4_point_86 (fun H locs hP hD hS => ?_)
              refine lv_aload_n X.1 X.2.1 dX4_point_87 rfl (lv_at hl 0 rfl) ?_
              refine lv_dup X.1 X.2.1 dX4_point_88 rfl ?_
              refine gX4_points X (fun w h => (List.mem_cons_of_mem _ (List.mem_append_right _ h))) hK hP (List.mem_cons_of_mem _ (List.mem_append_left _ (List.mem_of_getElem? (i := 0) rfl))) dX4_point_89 ?_
              refine lv_iconst (v := (1 : Int32)) X.1 X.2.1 dX4_point_92 (by decide) ?_
              refine lv_iadd X.1 X.2.1 dX4_point_93 ?_
              obtain ⟨μ63, e64, h⟩ := lt_e h
              refine pX4_points X (fun w h => (List.mem_cons_of_mem _ (List.mem_append_right _ h))) hK hP hD hS (List.mem_cons_of_mem _ (List.mem_append_left _ (List.mem_of_getElem? (i := 0) rfl))) e64 dX4_point_94 (fun H locs hP hD hS => ?_)
              refine lv_aload_n X.1 X.2.1 dX4_point_97 rfl (lv_at hl 0 rfl) ?_
              obtain ⟨r65, q66, h⟩ := bd_e h
              refine kc_v (As := []) (rest := []) X (k_X4_forgets μ63 _ q66) (cwV 0 X.2.2.2.2 gX4_point_X4_forgets rfl rfl rfl hd_X4_forgets ⟨Nat.le_of_ble_eq_true rfl, Nat.le_of_ble_eq_true rfl⟩) hK hP hD hS hA (va_recv hK hP (ci := 3) (q0 := 0) rfl rfl) rfl hl.1 rfl (Nat.le_of_ble_eq_true rfl) dX4_point_98 ⟨Nat.le_of_ble_eq_true rfl, Nat.le_of_ble_eq_true rfl⟩ (fun H locs hP hD hS => ?_)
              refine lv_aload_n X.1 X.2.1 dX4_point_101 rfl (lv_at hl 0 rfl) ?_
              refine gX4_points X (fun w h => (List.mem_cons_of_mem _ (List.mem_append_right _ h))) hK hP (List.mem_cons_of_mem _ (List.mem_append_left _ (List.mem_of_getElem? (i := 0) rfl))) dX4_point_102 ?_
              refine lv_iconst (v := (1 : Int32)) X.1 X.2.1 dX4_point_105 (by decide) ?_
              refine lv_isub X.1 X.2.1 dX4_point_106 ?_
              have h := sm_e h
              subst h
              exact rt_i X hr hlk hK hP hD hS dX4_point_107
            · rw [if_pos c53] at h
              refine lv_bipush (v := (-4 : Int32)) X.1 X.2.1 dX4_point_54 (by decide) ?_
              have h := sm_e h
              subst h
              exact rt_i X hr hlk hK hP hD hS dX4_point_56
        · rw [if_neg c37] at h
          refine lv_bipush (v := (-2 : Int32)) X.1 X.2.1 dX4_point_30 (by decide) ?_
          have h := sm_e h
          subst h
          exact rt_i X hr hlk hK hP hD hS dX4_point_32
def f_X4_drop (μ : MS) : Option (Int32 × MS) := if (m_pt μ) = 0 then some ((-3 : Int32), μ) else lt_ (n_pt μ ((m_pt μ) - (1 : Int32))) (fun μ2 => (f_X4_forgets μ2).bind (fun r4 => some ((m_pt r4), r4)))
theorem hd_X4_drop : yX4_drop.cls = RX4 ∧ yX4_drop.cls ≠ "java/lang/invoke/MethodHandle" ∧ yX4_drop.cls ≠ "java/lang/invoke/VarHandle" ∧ (parseMethodDescriptor yX4_drop.desc).map (fun d => d.parameters.length) = some 0 := by decide +kernel
set_option maxHeartbeats 4000000 in
set_option maxRecDepth 100000 in
theorem k_X4_drop {l : Launch} {D : va_G} {k : Nat → ClassId} {a : Nat → Nat}  (μ : MS) (R : (Int32 × MS)) (h : f_X4_drop μ = some R) : Ct l yX4_drop wsX4_drop ({ frames := 1, cells := 0, slots := 0, locals := 20 } : Room) D (mT k) (mW k a μ) (mW k a R.2) [.ref (a 0)] (some (.int R.1)) := by
  refine ct_of (cc := cX4_drop) (maxL := 1) (ret := (some .int)) (by decide) rfl (Nat.le_of_ble_eq_true rfl) ?_
  intro p e s m args below meth c A ls X hr hlk hK hA hP hD hS hl
  have X : CallFix p m c cX4_drop 1 s args wsX4_drop RX4 := X
  have hl : lv_has ls 1 [(0, .ref (a 0))] := hl
  rw [f_X4_drop] at h
  refine lv_aload_n X.1 X.2.1 dX4_drop_0 rfl (lv_at hl 0 rfl) ?_
  refine gX4_points X (fun w h => (List.mem_cons_of_mem _ (List.mem_append_right _ h))) hK hP (List.mem_cons_of_mem _ (List.mem_append_left _ (List.mem_of_getElem? (i := 0) rfl))) dX4_drop_1 ?_
  refine lv_if_ne (tgt := 10) X.1 X.2.1 dX4_drop_4 (by decide) (fun c1 => ?_) (fun c1 => ?_)
  · rw [if_neg c1] at h
    refine lv_aload_n X.1 X.2.1 dX4_drop_10 rfl (lv_at hl 0 rfl) ?_
    refine lv_dup X.1 X.2.1 dX4_drop_11 rfl ?_
    refine gX4_points X (fun w h => (List.mem_cons_of_mem _ (List.mem_append_right _ h))) hK hP (List.mem_cons_of_mem _ (List.mem_append_left _ (List.mem_of_getElem? (i := 0) rfl))) dX4_drop_12 ?_
    refine lv_iconst (v := (1 : Int32)) X.1 X.2.1 dX4_drop_15 (by decide) ?_
    refine lv_isub X.1 X.2.1 dX4_drop_16 ?_
    obtain ⟨μ2, e3, h⟩ := lt_e h
    refine pX4_points X (fun w h => (List.mem_cons_of_mem _ (List.mem_append_right _ h))) hK hP hD hS (List.mem_cons_of_mem _ (List.mem_append_left _ (List.mem_of_getElem? (i := 0) rfl))) e3 dX4_drop_17 (fun H locs hP hD hS => ?_)
    refine lv_aload_n X.1 X.2.1 dX4_drop_20 rfl (lv_at hl 0 rfl) ?_
    obtain ⟨r4, q5, h⟩ := bd_e h
    refine kc_v (As := []) (rest := []) X (k_X4_forgets μ2 _ q5) (cwV 0 X.2.2.2.2 gX4_drop_X4_forgets rfl rfl rfl hd_X4_forgets ⟨Nat.le_of_ble_eq_true rfl, Nat.le_of_ble_eq_true rfl⟩) hK hP hD hS hA (va_recv hK hP (ci := 3) (q0 := 0) rfl rfl) rfl hl.1 rfl (Nat.le_of_ble_eq_true rfl) dX4_drop_21 ⟨Nat.le_of_ble_eq_true rfl, Nat.le_of_ble_eq_true rfl⟩ (fun H locs hP hD hS => ?_)
    refine lv_aload_n X.1 X.2.1 dX4_drop_24 rfl (lv_at hl 0 rfl) ?_
    refine gX4_points X (fun w h => (List.mem_cons_of_mem _ (List.mem_append_right _ h))) hK hP (List.mem_cons_of_mem _ (List.mem_append_left _ (List.mem_of_getElem? (i := 0) rfl))) dX4_drop_25 ?_
    have h := sm_e h
    subst h
    exact rt_i X hr hlk hK hP hD hS dX4_drop_28
  · rw [if_pos c1] at h
    refine lv_bipush (v := (-3 : Int32)) X.1 X.2.1 dX4_drop_7 (by decide) ?_
    have h := sm_e h
    subst h
    exact rt_i X hr hlk hK hP hD hS dX4_drop_9
def f_X4_degree (p0 : Int32) (μ : MS) : Option (Int32 × MS) := (f_X4_in p0 (1 : Int32) (2 : Int32) ).bind (fun r1 => if r1 = 0 then some ((-2 : Int32), μ) else if p0 = (2 : Int32) then if (m_pt μ) ≤ (4 : Int32) then lt_ (m_dg μ) (fun x12 => lt_ (n_dg μ p0) (fun μ14 => (f_X4_forgets μ14).bind (fun r16 => some (x12, r16)))) else some ((-3 : Int32), μ) else lt_ (m_dg μ) (fun x5 => lt_ (n_dg μ p0) (fun μ7 => (f_X4_forgets μ7).bind (fun r9 => some (x5, r9)))))
theorem hd_X4_degree : yX4_degree.cls = RX4 ∧ yX4_degree.cls ≠ "java/lang/invoke/MethodHandle" ∧ yX4_degree.cls ≠ "java/lang/invoke/VarHandle" ∧ (parseMethodDescriptor yX4_degree.desc).map (fun d => d.parameters.length) = some 1 := by decide +kernel
set_option maxHeartbeats 4000000 in
set_option maxRecDepth 100000 in
theorem k_X4_degree {l : Launch} {D : va_G} {k : Nat → ClassId} {a : Nat → Nat} (p0 : Int32) (μ : MS) (R : (Int32 × MS)) (h : f_X4_degree p0 μ = some R) : Ct l yX4_degree wsX4_degree ({ frames := 1, cells := 0, slots := 0, locals := 22 } : Room) D (mT k) (mW k a μ) (mW k a R.2) [.ref (a 0), .int p0] (some (.int R.1)) := by
  refine ct_of (cc := cX4_degree) (maxL := 3) (ret := (some .int)) (by decide) rfl (Nat.le_of_ble_eq_true rfl) ?_
  intro p e s m args below meth c A ls X hr hlk hK hA hP hD hS hl
  have X : CallFix p m c cX4_degree 3 s args wsX4_degree RX4 := X
  have hl : lv_has ls 3 [(0, .ref (a 0)), (1, .int p0)] := hl
  rw [f_X4_degree] at h
  refine lv_iload_n X.1 X.2.1 dX4_degree_0 rfl (lv_at hl 1 rfl) ?_
  refine lv_iconst (v := (1 : Int32)) X.1 X.2.1 dX4_degree_1 (by decide) ?_
  refine lv_iconst (v := (2 : Int32)) X.1 X.2.1 dX4_degree_2 (by decide) ?_
  obtain ⟨r1, q2, h⟩ := bd_e h
  refine kc_s (As := [.int p0, .int (1 : Int32), .int (2 : Int32)]) (rest := []) X (k_X4_in p0 (1 : Int32) (2 : Int32) _ q2) (va_cwS 3 X.2.2.2.2 gX4_degree_X4_in rfl rfl rfl hd_X4_in ⟨Nat.le_of_ble_eq_true rfl, Nat.le_of_ble_eq_true rfl⟩) hK hP hS hA rfl hl.1 rfl (Nat.le_of_ble_eq_true rfl) dX4_degree_3 ⟨Nat.le_of_ble_eq_true rfl, Nat.le_of_ble_eq_true rfl⟩ (fun H locs hP hS => ?_)
  refine lv_if_ne (tgt := 12) X.1 X.2.1 dX4_degree_6 (by decide) (fun c3 => ?_) (fun c3 => ?_)
  · rw [if_neg c3] at h
    refine lv_iload_n X.1 X.2.1 dX4_degree_12 rfl (lv_at hl 1 rfl) ?_
    refine lv_iconst (v := (2 : Int32)) X.1 X.2.1 dX4_degree_13 (by decide) ?_
    refine lv_icmp_ne (tgt := 28) X.1 X.2.1 dX4_degree_14 (by decide) (fun c4 => ?_) (fun c4 => ?_)
    · rw [if_neg c4] at h
      refine lv_aload_n X.1 X.2.1 dX4_degree_28 rfl (lv_at hl 0 rfl) ?_
      refine gX4_degree X (fun w h => (List.mem_cons_of_mem _ (List.mem_append_right _ h))) hK hP (List.mem_cons_of_mem _ (List.mem_append_left _ (List.mem_of_getElem? (i := 1) rfl))) dX4_degree_29 ?_
      obtain ⟨x5, e6, h⟩ := lt_e h
      refine nm_i e6 ?_
      refine lv_istore_n (lv' := [(2, .int x5), (0, .ref (a 0)), (1, .int p0)]) X.1 X.2.1 dX4_degree_32 rfl hl (by decide) rfl (fun ls hl => ?_)
      refine lv_aload_n X.1 X.2.1 dX4_degree_33 rfl (lv_at hl 1 rfl) ?_
      refine lv_iload_n X.1 X.2.1 dX4_degree_34 rfl (lv_at hl 2 rfl) ?_
      obtain ⟨μ7, e8, h⟩ := lt_e h
      refine pX4_degree X (fun w h => (List.mem_cons_of_mem _ (List.mem_append_right _ h))) hK hP hD hS (List.mem_cons_of_mem _ (List.mem_append_left _ (List.mem_of_getElem? (i := 1) rfl))) e8 dX4_degree_35 (fun H locs hP hD hS => ?_)
      refine lv_aload_n X.1 X.2.1 dX4_degree_38 rfl (lv_at hl 1 rfl) ?_
      obtain ⟨r9, q10, h⟩ := bd_e h
      refine kc_v (As := []) (rest := []) X (k_X4_forgets μ7 _ q10) (cwV 0 X.2.2.2.2 gX4_degree_X4_forgets rfl rfl rfl hd_X4_forgets ⟨Nat.le_of_ble_eq_true rfl, Nat.le_of_ble_eq_true rfl⟩) hK hP hD hS hA (va_recv hK hP (ci := 3) (q0 := 0) rfl rfl) rfl hl.1 rfl (Nat.le_of_ble_eq_true rfl) dX4_degree_39 ⟨Nat.le_of_ble_eq_true rfl, Nat.le_of_ble_eq_true rfl⟩ (fun H locs hP hD hS => ?_)
      refine lv_iload_n X.1 X.2.1 dX4_degree_42 rfl (lv_at hl 0 rfl) ?_
      have h := sm_e h
      subst h
      exact rt_i X hr hlk hK hP hD hS dX4_degree_43
    · rw [if_pos c4] at h
      refine lv_aload_n X.1 X.2.1 dX4_degree_17 rfl (lv_at hl 0 rfl) ?_
      refine gX4_points X (fun w h => (List.mem_cons_of_mem _ (List.mem_append_right _ h))) hK hP (List.mem_cons_of_mem _ (List.mem_append_left _ (List.mem_of_getElem? (i := 0) rfl))) dX4_degree_18 ?_
      refine lv_iconst (v := (4 : Int32)) X.1 X.2.1 dX4_degree_21 (by decide) ?_
      refine lv_icmp_le (tgt := 28) X.1 X.2.1 dX4_degree_22 (by decide) (fun c11 => ?_) (fun c11 => ?_)
      · rw [if_pos c11] at h
        refine lv_aload_n X.1 X.2.1 dX4_degree_28 rfl (lv_at hl 0 rfl) ?_
        refine gX4_degree X (fun w h => (List.mem_cons_of_mem _ (List.mem_append_right _ h))) hK hP (List.mem_cons_of_mem _ (List.mem_append_left _ (List.mem_of_getElem? (i := 1) rfl))) dX4_degree_29 ?_
        obtain ⟨x12, e13, h⟩ := lt_e h
        refine nm_i e13 ?_
        refine lv_istore_n (lv' := [(2, .int x12), (0, .ref (a 0)), (1, .int p0)]) X.1 X.2.1 dX4_degree_32 rfl hl (by decide) rfl (fun ls hl => ?_)
        refine lv_aload_n X.1 X.2.1 dX4_degree_33 rfl (lv_at hl 1 rfl) ?_
        refine lv_iload_n X.1 X.2.1 dX4_degree_34 rfl (lv_at hl 2 rfl) ?_
        obtain ⟨μ14, e15, h⟩ := lt_e h
        refine pX4_degree X (fun w h => (List.mem_cons_of_mem _ (List.mem_append_right _ h))) hK hP hD hS (List.mem_cons_of_mem _ (List.mem_append_left _ (List.mem_of_getElem? (i := 1) rfl))) e15 dX4_degree_35 (fun H locs hP hD hS => ?_)
        refine lv_aload_n X.1 X.2.1 dX4_degree_38 rfl (lv_at hl 1 rfl) ?_
        obtain ⟨r16, q17, h⟩ := bd_e h
        refine kc_v (As := []) (rest := []) X (k_X4_forgets μ14 _ q17) (cwV 0 X.2.2.2.2 gX4_degree_X4_forgets rfl rfl rfl hd_X4_forgets ⟨Nat.le_of_ble_eq_true rfl, Nat.le_of_ble_eq_true rfl⟩) hK hP hD hS hA (va_recv hK hP (ci := 3) (q0 := 0) rfl rfl) rfl hl.1 rfl (Nat.le_of_ble_eq_true rfl) dX4_degree_39 ⟨Nat.le_of_ble_eq_true rfl, Nat.le_of_ble_eq_true rfl⟩ (fun H locs hP hD hS => ?_)
        refine lv_iload_n X.1 X.2.1 dX4_degree_42 rfl (lv_at hl 0 rfl) ?_
        have h := sm_e h
        subst h
        exact rt_i X hr hlk hK hP hD hS dX4_degree_43
      · rw [if_neg c11] at h
        refine lv_bipush (v := (-3 : Int32)) X.1 X.2.1 dX4_degree_25 (by decide) ?_
        have h := sm_e h
        subst h
        exact rt_i X hr hlk hK hP hD hS dX4_degree_27
  · rw [if_pos c3] at h
    refine lv_bipush (v := (-2 : Int32)) X.1 X.2.1 dX4_degree_9 (by decide) ?_
    have h := sm_e h
    subst h
    exact rt_i X hr hlk hK hP hD hS dX4_degree_11
def f_X4_box (p0 : Int32) (p1 : Int32) (μ : MS) : Option (Int32 × MS) := (f_X4_in p0 (1 : Int32) (20 : Int32) ).bind (fun r1 => if r1 = 0 then some ((-2 : Int32), μ) else (f_X4_in p1 (1 : Int32) (6 : Int32) ).bind (fun r4 => if r4 = 0 then some ((-2 : Int32), μ) else lt_ (n_bA μ p0) (fun μ7 => lt_ (n_bB μ7 p1) (fun μ9 => (f_X4_forgets μ9).bind (fun r11 => some ((1 : Int32), r11))))))
theorem hd_X4_box : yX4_box.cls = RX4 ∧ yX4_box.cls ≠ "java/lang/invoke/MethodHandle" ∧ yX4_box.cls ≠ "java/lang/invoke/VarHandle" ∧ (parseMethodDescriptor yX4_box.desc).map (fun d => d.parameters.length) = some 2 := by decide +kernel
set_option maxHeartbeats 4000000 in
set_option maxRecDepth 100000 in
theorem k_X4_box {l : Launch} {D : va_G} {k : Nat → ClassId} {a : Nat → Nat} (p0 : Int32) (p1 : Int32) (μ : MS) (R : (Int32 × MS)) (h : f_X4_box p0 p1 μ = some R) : Ct l yX4_box wsX4_box ({ frames := 1, cells := 0, slots := 0, locals := 22 } : Room) D (mT k) (mW k a μ) (mW k a R.2) [.ref (a 0), .int p0, .int p1] (some (.int R.1)) := by
  refine ct_of (cc := cX4_box) (maxL := 3) (ret := (some .int)) (by decide) rfl (Nat.le_of_ble_eq_true rfl) ?_
  intro p e s m args below meth c A ls X hr hlk hK hA hP hD hS hl
  have X : CallFix p m c cX4_box 3 s args wsX4_box RX4 := X
  have hl : lv_has ls 3 [(0, .ref (a 0)), (1, .int p0), (2, .int p1)] := hl
  rw [f_X4_box] at h
  refine lv_iload_n X.1 X.2.1 dX4_box_0 rfl (lv_at hl 1 rfl) ?_
  refine lv_iconst (v := (1 : Int32)) X.1 X.2.1 dX4_box_1 (by decide) ?_
  refine lv_bipush (v := (20 : Int32)) X.1 X.2.1 dX4_box_2 (by decide) ?_
  obtain ⟨r1, q2, h⟩ := bd_e h
  refine kc_s (As := [.int p0, .int (1 : Int32), .int (20 : Int32)]) (rest := []) X (k_X4_in p0 (1 : Int32) (20 : Int32) _ q2) (va_cwS 3 X.2.2.2.2 gX4_box_X4_in rfl rfl rfl hd_X4_in ⟨Nat.le_of_ble_eq_true rfl, Nat.le_of_ble_eq_true rfl⟩) hK hP hS hA rfl hl.1 rfl (Nat.le_of_ble_eq_true rfl) dX4_box_4 ⟨Nat.le_of_ble_eq_true rfl, Nat.le_of_ble_eq_true rfl⟩ (fun H locs hP hS => ?_)
  refine lv_if_eq (tgt := 20) X.1 X.2.1 dX4_box_7 (by decide) (fun c3 => ?_) (fun c3 => ?_)
  · rw [if_pos c3] at h
    refine lv_bipush (v := (-2 : Int32)) X.1 X.2.1 dX4_box_20 (by decide) ?_
    have h := sm_e h
    subst h
    exact rt_i X hr hlk hK hP hD hS dX4_box_22
  · rw [if_neg c3] at h
    refine lv_iload_n X.1 X.2.1 dX4_box_10 rfl (lv_at hl 2 rfl) ?_
    refine lv_iconst (v := (1 : Int32)) X.1 X.2.1 dX4_box_11 (by decide) ?_
    refine lv_bipush (v := (6 : Int32)) X.1 X.2.1 dX4_box_12 (by decide) ?_
    obtain ⟨r4, q5, h⟩ := bd_e h
    refine kc_s (As := [.int p1, .int (1 : Int32), .int (6 : Int32)]) (rest := []) X (k_X4_in p1 (1 : Int32) (6 : Int32) _ q5) (va_cwS 3 X.2.2.2.2 gX4_box_X4_in rfl rfl rfl hd_X4_in ⟨Nat.le_of_ble_eq_true rfl, Nat.le_of_ble_eq_true rfl⟩) hK hP hS hA rfl hl.1 rfl (Nat.le_of_ble_eq_true rfl) dX4_box_14 ⟨Nat.le_of_ble_eq_true rfl, Nat.le_of_ble_eq_true rfl⟩ (fun H locs hP hS => ?_)
    refine lv_if_ne (tgt := 23) X.1 X.2.1 dX4_box_17 (by decide) (fun c6 => ?_) (fun c6 => ?_)
    · rw [if_neg c6] at h
      refine lv_aload_n X.1 X.2.1 dX4_box_23 rfl (lv_at hl 0 rfl) ?_
      refine lv_iload_n X.1 X.2.1 dX4_box_24 rfl (lv_at hl 1 rfl) ?_
      obtain ⟨μ7, e8, h⟩ := lt_e h
      refine pX4_boxAbove X (fun w h => (List.mem_cons_of_mem _ (List.mem_append_right _ h))) hK hP hD hS (List.mem_cons_of_mem _ (List.mem_append_left _ (List.mem_of_getElem? (i := 0) rfl))) e8 dX4_box_25 (fun H locs hP hD hS => ?_)
      refine lv_aload_n X.1 X.2.1 dX4_box_28 rfl (lv_at hl 0 rfl) ?_
      refine lv_iload_n X.1 X.2.1 dX4_box_29 rfl (lv_at hl 2 rfl) ?_
      obtain ⟨μ9, e10, h⟩ := lt_e h
      refine pX4_boxBelow X (fun w h => (List.mem_cons_of_mem _ (List.mem_append_right _ h))) hK hP hD hS (List.mem_cons_of_mem _ (List.mem_append_left _ (List.mem_of_getElem? (i := 1) rfl))) e10 dX4_box_30 (fun H locs hP hD hS => ?_)
      refine lv_aload_n X.1 X.2.1 dX4_box_33 rfl (lv_at hl 0 rfl) ?_
      obtain ⟨r11, q12, h⟩ := bd_e h
      refine kc_v (As := []) (rest := []) X (k_X4_forgets μ9 _ q12) (cwV 0 X.2.2.2.2 gX4_box_X4_forgets rfl rfl rfl hd_X4_forgets ⟨Nat.le_of_ble_eq_true rfl, Nat.le_of_ble_eq_true rfl⟩) hK hP hD hS hA (va_recv hK hP (ci := 3) (q0 := 0) rfl rfl) rfl hl.1 rfl (Nat.le_of_ble_eq_true rfl) dX4_box_34 ⟨Nat.le_of_ble_eq_true rfl, Nat.le_of_ble_eq_true rfl⟩ (fun H locs hP hD hS => ?_)
      refine lv_iconst (v := (1 : Int32)) X.1 X.2.1 dX4_box_37 (by decide) ?_
      have h := sm_e h
      subst h
      exact rt_i X hr hlk hK hP hD hS dX4_box_38
    · rw [if_pos c6] at h
      refine lv_bipush (v := (-2 : Int32)) X.1 X.2.1 dX4_box_20 (by decide) ?_
      have h := sm_e h
      subst h
      exact rt_i X hr hlk hK hP hD hS dX4_box_22
def f_X4_kernel (p0 : Int32) (p1 : Int32) (p2 : Int32) (μ : MS) : Option Int32 := gd (inB p0 6) (gd (inB p0 6) (lt_ ((((m_px μ p0.toNatClampNeg) * p1) + ((m_py μ p0.toNatClampNeg) * p2)) + (1 : Int32)) (fun x3 => if (m_dg μ) = (1 : Int32) then some x3 else some (x3 * x3))))
theorem hd_X4_kernel : yX4_kernel.cls = RX4 ∧ yX4_kernel.cls ≠ "java/lang/invoke/MethodHandle" ∧ yX4_kernel.cls ≠ "java/lang/invoke/VarHandle" ∧ (parseMethodDescriptor yX4_kernel.desc).map (fun d => d.parameters.length) = some 3 := by decide +kernel
set_option maxHeartbeats 4000000 in
set_option maxRecDepth 100000 in
theorem k_X4_kernel {l : Launch} {D : va_G} {k : Nat → ClassId} {a : Nat → Nat} (p0 : Int32) (p1 : Int32) (p2 : Int32) (μ : MS) (R : Int32) (h : f_X4_kernel p0 p1 p2 μ = some R) : Ct l yX4_kernel wsX4_kernel ({ frames := 0, cells := 0, slots := 0, locals := 0 } : Room) D (mT k) (mW k a μ) (mW k a μ) [.ref (a 0), .int p0, .int p1, .int p2] (some (.int R)) := by
  refine ct_of (cc := cX4_kernel) (maxL := 5) (ret := (some .int)) (by decide) rfl (Nat.le_of_ble_eq_true rfl) ?_
  intro p e s m args below meth c A ls X hr hlk hK hA hP hD hS hl
  have X : CallFix p m c cX4_kernel 5 s args wsX4_kernel RX4 := X
  have hl : lv_has ls 5 [(0, .ref (a 0)), (1, .int p0), (2, .int p1), (3, .int p2)] := hl
  rw [f_X4_kernel] at h
  refine lv_aload_n X.1 X.2.1 dX4_kernel_0 rfl (lv_at hl 0 rfl) ?_
  refine gX4_px X (fun w h => (List.mem_cons_of_mem _ (List.mem_append_right _ h))) hK hP (List.mem_cons_of_mem _ (List.mem_append_left _ (List.mem_of_getElem? (i := 0) rfl))) dX4_kernel_1 ?_
  refine lv_iload_n X.1 X.2.1 dX4_kernel_4 rfl (lv_at hl 1 rfl) ?_
  obtain ⟨g1, h⟩ := gd_e h
  refine lm_px X hK hP g1 dX4_kernel_5 ?_
  refine lv_iload_n X.1 X.2.1 dX4_kernel_6 rfl (lv_at hl 2 rfl) ?_
  refine lv_imul X.1 X.2.1 dX4_kernel_7 ?_
  refine lv_aload_n X.1 X.2.1 dX4_kernel_8 rfl (lv_at hl 0 rfl) ?_
  refine gX4_py X (fun w h => (List.mem_cons_of_mem _ (List.mem_append_right _ h))) hK hP (List.mem_cons_of_mem _ (List.mem_append_left _ (List.mem_of_getElem? (i := 1) rfl))) dX4_kernel_9 ?_
  refine lv_iload_n X.1 X.2.1 dX4_kernel_12 rfl (lv_at hl 1 rfl) ?_
  obtain ⟨g2, h⟩ := gd_e h
  refine lm_py X hK hP g2 dX4_kernel_13 ?_
  refine lv_iload_n X.1 X.2.1 dX4_kernel_14 rfl (lv_at hl 3 rfl) ?_
  refine lv_imul X.1 X.2.1 dX4_kernel_15 ?_
  refine lv_iadd X.1 X.2.1 dX4_kernel_16 ?_
  refine lv_iconst (v := (1 : Int32)) X.1 X.2.1 dX4_kernel_17 (by decide) ?_
  refine lv_iadd X.1 X.2.1 dX4_kernel_18 ?_
  obtain ⟨x3, e4, h⟩ := lt_e h
  refine nm_i e4 ?_
  refine lv_istore (lv' := [(4, .int x3), (0, .ref (a 0)), (1, .int p0), (2, .int p1), (3, .int p2)]) X.1 X.2.1 dX4_kernel_19 hl (by decide) rfl (fun ls hl => ?_)
  refine lv_aload_n X.1 X.2.1 dX4_kernel_21 rfl (lv_at hl 1 rfl) ?_
  refine gX4_degree X (fun w h => (List.mem_cons_of_mem _ (List.mem_append_right _ h))) hK hP (List.mem_cons_of_mem _ (List.mem_append_left _ (List.mem_of_getElem? (i := 2) rfl))) dX4_kernel_22 ?_
  refine lv_iconst (v := (1 : Int32)) X.1 X.2.1 dX4_kernel_25 (by decide) ?_
  refine lv_icmp_ne (tgt := 34) X.1 X.2.1 dX4_kernel_26 (by decide) (fun c5 => ?_) (fun c5 => ?_)
  · rw [if_neg c5] at h
    refine lv_iload X.1 X.2.1 dX4_kernel_34 (lv_at hl 0 rfl) ?_
    refine lv_iload X.1 X.2.1 dX4_kernel_36 (lv_at hl 0 rfl) ?_
    refine lv_imul X.1 X.2.1 dX4_kernel_38 ?_
    have h := sm_e h
    subst h
    exact rt_i X hr hlk hK hP hD hS dX4_kernel_39
  · rw [if_pos c5] at h
    refine lv_iload X.1 X.2.1 dX4_kernel_29 (lv_at hl 0 rfl) ?_
    refine lv_goto (tgt := 39) X.1 X.2.1 dX4_kernel_31 (by decide) ?_
    have h := sm_e h
    subst h
    exact rt_i X hr hlk hK hP hD hS dX4_kernel_39
def f_X4_qOf (p0 : Int32) (p1 : Int32) (μ : MS) : Option Int32 := gd (inB p0 6) (gd (inB p1 6) (gd (inB p1 6) (gd (inB p1 6) ((f_X4_kernel p0 (m_px μ p1.toNatClampNeg) (m_py μ p1.toNatClampNeg) μ).bind (fun r5 => some (((m_lb μ p0.toNatClampNeg) * (m_lb μ p1.toNatClampNeg)) * r5))))))
theorem hd_X4_qOf : yX4_qOf.cls = RX4 ∧ yX4_qOf.cls ≠ "java/lang/invoke/MethodHandle" ∧ yX4_qOf.cls ≠ "java/lang/invoke/VarHandle" ∧ (parseMethodDescriptor yX4_qOf.desc).map (fun d => d.parameters.length) = some 2 := by decide +kernel
set_option maxHeartbeats 4000000 in
set_option maxRecDepth 100000 in
theorem k_X4_qOf {l : Launch} {D : va_G} {k : Nat → ClassId} {a : Nat → Nat} (p0 : Int32) (p1 : Int32) (μ : MS) (R : Int32) (h : f_X4_qOf p0 p1 μ = some R) : Ct l yX4_qOf wsX4_qOf ({ frames := 1, cells := 0, slots := 0, locals := 24 } : Room) D (mT k) (mW k a μ) (mW k a μ) [.ref (a 0), .int p0, .int p1] (some (.int R)) := by
  refine ct_of (cc := cX4_qOf) (maxL := 3) (ret := (some .int)) (by decide) rfl (Nat.le_of_ble_eq_true rfl) ?_
  intro p e s m args below meth c A ls X hr hlk hK hA hP hD hS hl
  have X : CallFix p m c cX4_qOf 3 s args wsX4_qOf RX4 := X
  have hl : lv_has ls 3 [(0, .ref (a 0)), (1, .int p0), (2, .int p1)] := hl
  rw [f_X4_qOf] at h
  refine lv_aload_n X.1 X.2.1 dX4_qOf_0 rfl (lv_at hl 0 rfl) ?_
  refine gX4_label X (fun w h => (List.mem_cons_of_mem _ (List.mem_append_right _ h))) hK hP (List.mem_cons_of_mem _ (List.mem_append_left _ (List.mem_of_getElem? (i := 0) rfl))) dX4_qOf_1 ?_
  refine lv_iload_n X.1 X.2.1 dX4_qOf_4 rfl (lv_at hl 1 rfl) ?_
  obtain ⟨g1, h⟩ := gd_e h
  refine lm_lb X hK hP g1 dX4_qOf_5 ?_
  refine lv_aload_n X.1 X.2.1 dX4_qOf_6 rfl (lv_at hl 0 rfl) ?_
  refine gX4_label X (fun w h => (List.mem_cons_of_mem _ (List.mem_append_right _ h))) hK hP (List.mem_cons_of_mem _ (List.mem_append_left _ (List.mem_of_getElem? (i := 0) rfl))) dX4_qOf_7 ?_
  refine lv_iload_n X.1 X.2.1 dX4_qOf_10 rfl (lv_at hl 2 rfl) ?_
  obtain ⟨g2, h⟩ := gd_e h
  refine lm_lb X hK hP g2 dX4_qOf_11 ?_
  refine lv_imul X.1 X.2.1 dX4_qOf_12 ?_
  refine lv_aload_n X.1 X.2.1 dX4_qOf_13 rfl (lv_at hl 0 rfl) ?_
  refine lv_iload_n X.1 X.2.1 dX4_qOf_14 rfl (lv_at hl 1 rfl) ?_
  refine lv_aload_n X.1 X.2.1 dX4_qOf_15 rfl (lv_at hl 0 rfl) ?_
  refine gX4_px X (fun w h => (List.mem_cons_of_mem _ (List.mem_append_right _ h))) hK hP (List.mem_cons_of_mem _ (List.mem_append_left _ (List.mem_of_getElem? (i := 1) rfl))) dX4_qOf_16 ?_
  refine lv_iload_n X.1 X.2.1 dX4_qOf_19 rfl (lv_at hl 2 rfl) ?_
  obtain ⟨g3, h⟩ := gd_e h
  refine lm_px X hK hP g3 dX4_qOf_20 ?_
  refine lv_aload_n X.1 X.2.1 dX4_qOf_21 rfl (lv_at hl 0 rfl) ?_
  refine gX4_py X (fun w h => (List.mem_cons_of_mem _ (List.mem_append_right _ h))) hK hP (List.mem_cons_of_mem _ (List.mem_append_left _ (List.mem_of_getElem? (i := 2) rfl))) dX4_qOf_22 ?_
  refine lv_iload_n X.1 X.2.1 dX4_qOf_25 rfl (lv_at hl 2 rfl) ?_
  obtain ⟨g4, h⟩ := gd_e h
  refine lm_py X hK hP g4 dX4_qOf_26 ?_
  obtain ⟨r5, q6, h⟩ := bd_e h
  refine kc_v (As := [.int p0, .int (m_px μ p1.toNatClampNeg), .int (m_py μ p1.toNatClampNeg)]) (rest := [.int ((m_lb μ p0.toNatClampNeg) * (m_lb μ p1.toNatClampNeg))]) X (k_X4_kernel p0 (m_px μ p1.toNatClampNeg) (m_py μ p1.toNatClampNeg) μ _ q6) (cwV 3 X.2.2.2.2 gX4_qOf_X4_kernel rfl rfl rfl hd_X4_kernel ⟨Nat.le_of_ble_eq_true rfl, Nat.le_of_ble_eq_true rfl⟩) hK hP hD hS hA (va_recv hK hP (ci := 3) (q0 := 0) rfl rfl) rfl hl.1 rfl (Nat.le_of_ble_eq_true rfl) dX4_qOf_27 ⟨Nat.le_of_ble_eq_true rfl, Nat.le_of_ble_eq_true rfl⟩ (fun H locs hP hD hS => ?_)
  refine lv_imul X.1 X.2.1 dX4_qOf_30 ?_
  have h := sm_e h
  subst h
  exact rt_i X hr hlk hK hP hD hS dX4_qOf_31
def f_X4_q (p0 : Int32) (p1 : Int32) (μ : MS) : Option Int32 := (f_X4_isPoint p0 μ).bind (fun r1 => if r1 = 0 then some (1000000 : Int32) else (f_X4_isPoint p1 μ).bind (fun r4 => if r4 = 0 then some (1000000 : Int32) else (f_X4_qOf p0 p1 μ).bind (fun r7 => some r7)))
theorem hd_X4_q : yX4_q.cls = RX4 ∧ yX4_q.cls ≠ "java/lang/invoke/MethodHandle" ∧ yX4_q.cls ≠ "java/lang/invoke/VarHandle" ∧ (parseMethodDescriptor yX4_q.desc).map (fun d => d.parameters.length) = some 2 := by decide +kernel
set_option maxHeartbeats 4000000 in
set_option maxRecDepth 100000 in
theorem k_X4_q {l : Launch} {D : va_G} {k : Nat → ClassId} {a : Nat → Nat} (p0 : Int32) (p1 : Int32) (μ : MS) (R : Int32) (h : f_X4_q p0 p1 μ = some R) : Ct l yX4_q wsX4_q ({ frames := 2, cells := 0, slots := 0, locals := 46 } : Room) D (mT k) (mW k a μ) (mW k a μ) [.ref (a 0), .int p0, .int p1] (some (.int R)) := by
  refine ct_of (cc := cX4_q) (maxL := 3) (ret := (some .int)) (by decide) rfl (Nat.le_of_ble_eq_true rfl) ?_
  intro p e s m args below meth c A ls X hr hlk hK hA hP hD hS hl
  have X : CallFix p m c cX4_q 3 s args wsX4_q RX4 := X
  have hl : lv_has ls 3 [(0, .ref (a 0)), (1, .int p0), (2, .int p1)] := hl
  rw [f_X4_q] at h
  refine lv_aload_n X.1 X.2.1 dX4_q_0 rfl (lv_at hl 0 rfl) ?_
  refine lv_iload_n X.1 X.2.1 dX4_q_1 rfl (lv_at hl 1 rfl) ?_
  obtain ⟨r1, q2, h⟩ := bd_e h
  refine kc_v (As := [.int p0]) (rest := []) X (k_X4_isPoint p0 μ _ q2) (cwV 1 X.2.2.2.2 gX4_q_X4_isPoint rfl rfl rfl hd_X4_isPoint ⟨Nat.le_of_ble_eq_true rfl, Nat.le_of_ble_eq_true rfl⟩) hK hP hD hS hA (va_recv hK hP (ci := 3) (q0 := 0) rfl rfl) rfl hl.1 rfl (Nat.le_of_ble_eq_true rfl) dX4_q_2 ⟨Nat.le_of_ble_eq_true rfl, Nat.le_of_ble_eq_true rfl⟩ (fun H locs hP hD hS => ?_)
  refine lv_if_eq (tgt := 25) X.1 X.2.1 dX4_q_5 (by decide) (fun c3 => ?_) (fun c3 => ?_)
  · rw [if_pos c3] at h
    refine lv_ldc (v := (1000000 : Int32)) X.1 X.2.1 X.2.2.2.1 (X.2.2.2.2 _ (List.mem_cons_of_mem _ (List.mem_append_left _ (List.mem_of_getElem? (i := 0) rfl)))) dX4_q_25 ?_
    have h := sm_e h
    subst h
    exact rt_i X hr hlk hK hP hD hS dX4_q_27
  · rw [if_neg c3] at h
    refine lv_aload_n X.1 X.2.1 dX4_q_8 rfl (lv_at hl 0 rfl) ?_
    refine lv_iload_n X.1 X.2.1 dX4_q_9 rfl (lv_at hl 2 rfl) ?_
    obtain ⟨r4, q5, h⟩ := bd_e h
    refine kc_v (As := [.int p1]) (rest := []) X (k_X4_isPoint p1 μ _ q5) (cwV 1 X.2.2.2.2 gX4_q_X4_isPoint rfl rfl rfl hd_X4_isPoint ⟨Nat.le_of_ble_eq_true rfl, Nat.le_of_ble_eq_true rfl⟩) hK hP hD hS hA (va_recv hK hP (ci := 3) (q0 := 0) rfl rfl) rfl hl.1 rfl (Nat.le_of_ble_eq_true rfl) dX4_q_10 ⟨Nat.le_of_ble_eq_true rfl, Nat.le_of_ble_eq_true rfl⟩ (fun H locs hP hD hS => ?_)
    refine lv_if_eq (tgt := 25) X.1 X.2.1 dX4_q_13 (by decide) (fun c6 => ?_) (fun c6 => ?_)
    · rw [if_pos c6] at h
      refine lv_ldc (v := (1000000 : Int32)) X.1 X.2.1 X.2.2.2.1 (X.2.2.2.2 _ (List.mem_cons_of_mem _ (List.mem_append_left _ (List.mem_of_getElem? (i := 0) rfl)))) dX4_q_25 ?_
      have h := sm_e h
      subst h
      exact rt_i X hr hlk hK hP hD hS dX4_q_27
    · rw [if_neg c6] at h
      refine lv_aload_n X.1 X.2.1 dX4_q_16 rfl (lv_at hl 0 rfl) ?_
      refine lv_iload_n X.1 X.2.1 dX4_q_17 rfl (lv_at hl 1 rfl) ?_
      refine lv_iload_n X.1 X.2.1 dX4_q_18 rfl (lv_at hl 2 rfl) ?_
      obtain ⟨r7, q8, h⟩ := bd_e h
      refine kc_v (As := [.int p0, .int p1]) (rest := []) X (k_X4_qOf p0 p1 μ _ q8) (cwV 2 X.2.2.2.2 gX4_q_X4_qOf rfl rfl rfl hd_X4_qOf ⟨Nat.le_of_ble_eq_true rfl, Nat.le_of_ble_eq_true rfl⟩) hK hP hD hS hA (va_recv hK hP (ci := 3) (q0 := 0) rfl rfl) rfl hl.1 rfl (Nat.le_of_ble_eq_true rfl) dX4_q_19 ⟨Nat.le_of_ble_eq_true rfl, Nat.le_of_ble_eq_true rfl⟩ (fun H locs hP hD hS => ?_)
      refine lv_goto (tgt := 27) X.1 X.2.1 dX4_q_22 (by decide) ?_
      have h := sm_e h
      subst h
      exact rt_i X hr hlk hK hP hD hS dX4_q_27
def f_X4_product (p0 : Int64) (p1 : Int64) (μ : MS) : Option MS := lt_ (p0 &&& (4294967295 : Int64)) (fun x1 => lt_ (p0 >>> ((32 : Int32).toInt64 &&& 63)) (fun x3 => lt_ (p1 &&& (4294967295 : Int64)) (fun x5 => lt_ (p1 >>> ((32 : Int32).toInt64 &&& 63)) (fun x7 => lt_ (x1 * x5) (fun x9 => lt_ ((x3 * x5) + ((x9.toUInt64 >>> ((32 : Int32).toInt64.toUInt64 &&& Int64.toUInt64 63)).toInt64)) (fun x11 => lt_ ((x1 * x7) + (x11 &&& (4294967295 : Int64))) (fun x13 => lt_ (n_hi μ (((x3 * x7) + (x11 >>> ((32 : Int32).toInt64 &&& 63))) + (x13 >>> ((32 : Int32).toInt64 &&& 63)))) (fun μ15 => lt_ (n_lo μ15 (p0 * p1)) (fun μ17 => some μ17)))))))))
theorem hd_X4_product : yX4_product.cls = RX4 ∧ yX4_product.cls ≠ "java/lang/invoke/MethodHandle" ∧ yX4_product.cls ≠ "java/lang/invoke/VarHandle" ∧ (parseMethodDescriptor yX4_product.desc).map (fun d => d.parameters.length) = some 2 := by decide +kernel
set_option maxHeartbeats 4000000 in
set_option maxRecDepth 100000 in
theorem k_X4_product {l : Launch} {D : va_G} {k : Nat → ClassId} {a : Nat → Nat} (p0 : Int64) (p1 : Int64) (μ : MS) (R : MS) (h : f_X4_product p0 p1 μ = some R) : Ct l yX4_product wsX4_product ({ frames := 0, cells := 0, slots := 0, locals := 0 } : Room) D (mT k) (mW k a μ) (mW k a R) [.ref (a 0), .long p0, .long p1] none := by
  refine ct_of (cc := cX4_product) (maxL := 19) (ret := none) (by decide) rfl (Nat.le_of_ble_eq_true rfl) ?_
  intro p e s m args below meth c A ls X hr hlk hK hA hP hD hS hl
  have X : CallFix p m c cX4_product 19 s args wsX4_product RX4 := X
  have hl : lv_has ls 19 [(0, .ref (a 0)), (1, .long p0), (3, .long p1)] := hl
  rw [f_X4_product] at h
  refine lv_lload_n X.1 X.2.1 dX4_product_0 rfl (lv_at hl 1 rfl) ?_
  refine lv_ldc2 (v := (4294967295 : Int64)) X.1 X.2.1 X.2.2.2.1 (X.2.2.2.2 _ (List.mem_cons_of_mem _ (List.mem_append_left _ (List.mem_of_getElem? (i := 0) rfl)))) dX4_product_1 ?_
  refine lv_land X.1 X.2.1 dX4_product_4 ?_
  obtain ⟨x1, e2, h⟩ := lt_e h
  refine nm_l e2 ?_
  refine lv_lstore (lv' := [(5, .long x1), (0, .ref (a 0)), (1, .long p0), (3, .long p1)]) X.1 X.2.1 dX4_product_5 hl (by decide) rfl (fun ls hl => ?_)
  refine lv_lload_n X.1 X.2.1 dX4_product_7 rfl (lv_at hl 2 rfl) ?_
  refine lv_bipush (v := (32 : Int32)) X.1 X.2.1 dX4_product_8 (by decide) ?_
  refine lv_lshr (v := (p0 >>> ((32 : Int32).toInt64 &&& 63))) X.1 X.2.1 dX4_product_10 rfl ?_
  obtain ⟨x3, e4, h⟩ := lt_e h
  refine nm_l e4 ?_
  refine lv_lstore (lv' := [(7, .long x3), (5, .long x1), (0, .ref (a 0)), (1, .long p0), (3, .long p1)]) X.1 X.2.1 dX4_product_11 hl (by decide) rfl (fun ls hl => ?_)
  refine lv_lload_n X.1 X.2.1 dX4_product_13 rfl (lv_at hl 4 rfl) ?_
  refine lv_ldc2 (v := (4294967295 : Int64)) X.1 X.2.1 X.2.2.2.1 (X.2.2.2.2 _ (List.mem_cons_of_mem _ (List.mem_append_left _ (List.mem_of_getElem? (i := 0) rfl)))) dX4_product_14 ?_
  refine lv_land X.1 X.2.1 dX4_product_17 ?_
  obtain ⟨x5, e6, h⟩ := lt_e h
  refine nm_l e6 ?_
  refine lv_lstore (lv' := [(9, .long x5), (7, .long x3), (5, .long x1), (0, .ref (a 0)), (1, .long p0), (3, .long p1)]) X.1 X.2.1 dX4_product_18 hl (by decide) rfl (fun ls hl => ?_)
  refine lv_lload_n X.1 X.2.1 dX4_product_20 rfl (lv_at hl 5 rfl) ?_
  refine lv_bipush (v := (32 : Int32)) X.1 X.2.1 dX4_product_21 (by decide) ?_
  refine lv_lshr (v := (p1 >>> ((32 : Int32).toInt64 &&& 63))) X.1 X.2.1 dX4_product_23 rfl ?_
  obtain ⟨x7, e8, h⟩ := lt_e h
  refine nm_l e8 ?_
  refine lv_lstore (lv' := [(11, .long x7), (9, .long x5), (7, .long x3), (5, .long x1), (0, .ref (a 0)), (1, .long p0), (3, .long p1)]) X.1 X.2.1 dX4_product_24 hl (by decide) rfl (fun ls hl => ?_)
  refine lv_lload X.1 X.2.1 dX4_product_26 (lv_at hl 3 rfl) ?_
  refine lv_lload X.1 X.2.1 dX4_product_28 (lv_at hl 1 rfl) ?_
  refine lv_lmul X.1 X.2.1 dX4_product_30 ?_
  obtain ⟨x9, e10, h⟩ := lt_e h
  refine nm_l e10 ?_
  refine lv_lstore (lv' := [(13, .long x9), (11, .long x7), (9, .long x5), (7, .long x3), (5, .long x1), (0, .ref (a 0)), (1, .long p0), (3, .long p1)]) X.1 X.2.1 dX4_product_31 hl (by decide) rfl (fun ls hl => ?_)
  refine lv_lload X.1 X.2.1 dX4_product_33 (lv_at hl 3 rfl) ?_
  refine lv_lload X.1 X.2.1 dX4_product_35 (lv_at hl 2 rfl) ?_
  refine lv_lmul X.1 X.2.1 dX4_product_37 ?_
  refine lv_lload X.1 X.2.1 dX4_product_38 (lv_at hl 0 rfl) ?_
  refine lv_bipush (v := (32 : Int32)) X.1 X.2.1 dX4_product_40 (by decide) ?_
  refine lv_lushr (v := ((x9.toUInt64 >>> ((32 : Int32).toInt64.toUInt64 &&& Int64.toUInt64 63)).toInt64)) X.1 X.2.1 dX4_product_42 rfl ?_
  refine lv_ladd X.1 X.2.1 dX4_product_43 ?_
  obtain ⟨x11, e12, h⟩ := lt_e h
  refine nm_l e12 ?_
  refine lv_lstore (lv' := [(15, .long x11), (13, .long x9), (11, .long x7), (9, .long x5), (7, .long x3), (5, .long x1), (0, .ref (a 0)), (1, .long p0), (3, .long p1)]) X.1 X.2.1 dX4_product_44 hl (by decide) rfl (fun ls hl => ?_)
  refine lv_lload X.1 X.2.1 dX4_product_46 (lv_at hl 5 rfl) ?_
  refine lv_lload X.1 X.2.1 dX4_product_48 (lv_at hl 2 rfl) ?_
  refine lv_lmul X.1 X.2.1 dX4_product_50 ?_
  refine lv_lload X.1 X.2.1 dX4_product_51 (lv_at hl 0 rfl) ?_
  refine lv_ldc2 (v := (4294967295 : Int64)) X.1 X.2.1 X.2.2.2.1 (X.2.2.2.2 _ (List.mem_cons_of_mem _ (List.mem_append_left _ (List.mem_of_getElem? (i := 0) rfl)))) dX4_product_53 ?_
  refine lv_land X.1 X.2.1 dX4_product_56 ?_
  refine lv_ladd X.1 X.2.1 dX4_product_57 ?_
  obtain ⟨x13, e14, h⟩ := lt_e h
  refine nm_l e14 ?_
  refine lv_lstore (lv' := [(17, .long x13), (15, .long x11), (13, .long x9), (11, .long x7), (9, .long x5), (7, .long x3), (5, .long x1), (0, .ref (a 0)), (1, .long p0), (3, .long p1)]) X.1 X.2.1 dX4_product_58 hl (by decide) rfl (fun ls hl => ?_)
  refine lv_aload_n X.1 X.2.1 dX4_product_60 rfl (lv_at hl 7 rfl) ?_
  refine lv_lload X.1 X.2.1 dX4_product_61 (lv_at hl 5 rfl) ?_
  refine lv_lload X.1 X.2.1 dX4_product_63 (lv_at hl 3 rfl) ?_
  refine lv_lmul X.1 X.2.1 dX4_product_65 ?_
  refine lv_lload X.1 X.2.1 dX4_product_66 (lv_at hl 1 rfl) ?_
  refine lv_bipush (v := (32 : Int32)) X.1 X.2.1 dX4_product_68 (by decide) ?_
  refine lv_lshr (v := (x11 >>> ((32 : Int32).toInt64 &&& 63))) X.1 X.2.1 dX4_product_70 rfl ?_
  refine lv_ladd X.1 X.2.1 dX4_product_71 ?_
  refine lv_lload X.1 X.2.1 dX4_product_72 (lv_at hl 0 rfl) ?_
  refine lv_bipush (v := (32 : Int32)) X.1 X.2.1 dX4_product_74 (by decide) ?_
  refine lv_lshr (v := (x13 >>> ((32 : Int32).toInt64 &&& 63))) X.1 X.2.1 dX4_product_76 rfl ?_
  refine lv_ladd X.1 X.2.1 dX4_product_77 ?_
  obtain ⟨μ15, e16, h⟩ := lt_e h
  refine pX4_high X (fun w h => (List.mem_cons_of_mem _ (List.mem_append_right _ h))) hK hP hD hS (List.mem_cons_of_mem _ (List.mem_append_left _ (List.mem_of_getElem? (i := 1) rfl))) e16 dX4_product_78 (fun H locs hP hD hS => ?_)
  refine lv_aload_n X.1 X.2.1 dX4_product_81 rfl (lv_at hl 7 rfl) ?_
  refine lv_lload_n X.1 X.2.1 dX4_product_82 rfl (lv_at hl 8 rfl) ?_
  refine lv_lload_n X.1 X.2.1 dX4_product_83 rfl (lv_at hl 9 rfl) ?_
  refine lv_lmul X.1 X.2.1 dX4_product_84 ?_
  obtain ⟨μ17, e18, h⟩ := lt_e h
  refine pX4_low X (fun w h => (List.mem_cons_of_mem _ (List.mem_append_right _ h))) hK hP hD hS (List.mem_cons_of_mem _ (List.mem_append_left _ (List.mem_of_getElem? (i := 2) rfl))) e18 dX4_product_85 (fun H locs hP hD hS => ?_)
  have h := sm_e h
  subst h
  exact rt_v X hr hlk hK hP hD hS dX4_product_88
def f_X4_cross (p0 : Int64) (p1 : Int64) (p2 : Int64) (p3 : Int64) (μ : MS) : Option MS := (f_X4_product p0 p1 μ).bind (fun r1 => lt_ (m_hi r1) (fun x3 => lt_ (m_lo r1) (fun x5 => (f_X4_product p2 p3 r1).bind (fun r7 => lt_ (x5 - (m_lo r7)) (fun x9 => if 0 ≤ (lg_cmp (x5 + (-9223372036854775808 : Int64)) ((m_lo r7) + (-9223372036854775808 : Int64))) then if (0 : Int32) = 0 then lt_ (n_hi r7 ((x3 - (m_hi r7)) - (0 : Int64))) (fun μ13 => lt_ (n_lo μ13 x9) (fun μ15 => some μ15)) else lt_ (n_hi r7 ((x3 - (m_hi r7)) - (1 : Int64))) (fun μ17 => lt_ (n_lo μ17 x9) (fun μ19 => some μ19)) else if (1 : Int32) = 0 then lt_ (n_hi r7 ((x3 - (m_hi r7)) - (0 : Int64))) (fun μ22 => lt_ (n_lo μ22 x9) (fun μ24 => some μ24)) else lt_ (n_hi r7 ((x3 - (m_hi r7)) - (1 : Int64))) (fun μ26 => lt_ (n_lo μ26 x9) (fun μ28 => some μ28)))))))
theorem hd_X4_cross : yX4_cross.cls = RX4 ∧ yX4_cross.cls ≠ "java/lang/invoke/MethodHandle" ∧ yX4_cross.cls ≠ "java/lang/invoke/VarHandle" ∧ (parseMethodDescriptor yX4_cross.desc).map (fun d => d.parameters.length) = some 4 := by decide +kernel
set_option maxHeartbeats 4000000 in
set_option maxRecDepth 100000 in
theorem k_X4_cross {l : Launch} {D : va_G} {k : Nat → ClassId} {a : Nat → Nat} (p0 : Int64) (p1 : Int64) (p2 : Int64) (p3 : Int64) (μ : MS) (R : MS) (h : f_X4_cross p0 p1 p2 p3 μ = some R) : Ct l yX4_cross wsX4_cross ({ frames := 1, cells := 0, slots := 0, locals := 38 } : Room) D (mT k) (mW k a μ) (mW k a R) [.ref (a 0), .long p0, .long p1, .long p2, .long p3] none := by
  refine ct_of (cc := cX4_cross) (maxL := 16) (ret := none) (by decide) rfl (Nat.le_of_ble_eq_true rfl) ?_
  intro p e s m args below meth c A ls X hr hlk hK hA hP hD hS hl
  have X : CallFix p m c cX4_cross 16 s args wsX4_cross RX4 := X
  have hl : lv_has ls 16 [(0, .ref (a 0)), (1, .long p0), (3, .long p1), (5, .long p2), (7, .long p3)] := hl
  rw [f_X4_cross] at h
  refine lv_aload_n X.1 X.2.1 dX4_cross_0 rfl (lv_at hl 0 rfl) ?_
  refine lv_lload_n X.1 X.2.1 dX4_cross_1 rfl (lv_at hl 1 rfl) ?_
  refine lv_lload_n X.1 X.2.1 dX4_cross_2 rfl (lv_at hl 2 rfl) ?_
  obtain ⟨r1, q2, h⟩ := bd_e h
  refine kc_v (As := [.long p0, .long p1]) (rest := []) X (k_X4_product p0 p1 μ _ q2) (cwV 2 X.2.2.2.2 gX4_cross_X4_product rfl rfl rfl hd_X4_product ⟨Nat.le_of_ble_eq_true rfl, Nat.le_of_ble_eq_true rfl⟩) hK hP hD hS hA (va_recv hK hP (ci := 3) (q0 := 0) rfl rfl) rfl hl.1 rfl (Nat.le_of_ble_eq_true rfl) dX4_cross_3 ⟨Nat.le_of_ble_eq_true rfl, Nat.le_of_ble_eq_true rfl⟩ (fun H locs hP hD hS => ?_)
  refine lv_aload_n X.1 X.2.1 dX4_cross_6 rfl (lv_at hl 0 rfl) ?_
  refine gX4_high X (fun w h => (List.mem_cons_of_mem _ (List.mem_append_right _ h))) hK hP (List.mem_cons_of_mem _ (List.mem_append_left _ (List.mem_of_getElem? (i := 0) rfl))) dX4_cross_7 ?_
  obtain ⟨x3, e4, h⟩ := lt_e h
  refine nm_l e4 ?_
  refine lv_lstore (lv' := [(9, .long x3), (0, .ref (a 0)), (1, .long p0), (3, .long p1), (5, .long p2), (7, .long p3)]) X.1 X.2.1 dX4_cross_10 hl (by decide) rfl (fun ls hl => ?_)
  refine lv_aload_n X.1 X.2.1 dX4_cross_12 rfl (lv_at hl 1 rfl) ?_
  refine gX4_low X (fun w h => (List.mem_cons_of_mem _ (List.mem_append_right _ h))) hK hP (List.mem_cons_of_mem _ (List.mem_append_left _ (List.mem_of_getElem? (i := 1) rfl))) dX4_cross_13 ?_
  obtain ⟨x5, e6, h⟩ := lt_e h
  refine nm_l e6 ?_
  refine lv_lstore (lv' := [(11, .long x5), (9, .long x3), (0, .ref (a 0)), (1, .long p0), (3, .long p1), (5, .long p2), (7, .long p3)]) X.1 X.2.1 dX4_cross_16 hl (by decide) rfl (fun ls hl => ?_)
  refine lv_aload_n X.1 X.2.1 dX4_cross_18 rfl (lv_at hl 2 rfl) ?_
  refine lv_lload X.1 X.2.1 dX4_cross_19 (lv_at hl 5 rfl) ?_
  refine lv_lload X.1 X.2.1 dX4_cross_21 (lv_at hl 6 rfl) ?_
  obtain ⟨r7, q8, h⟩ := bd_e h
  refine kc_v (As := [.long p2, .long p3]) (rest := []) X (k_X4_product p2 p3 r1 _ q8) (cwV 2 X.2.2.2.2 gX4_cross_X4_product rfl rfl rfl hd_X4_product ⟨Nat.le_of_ble_eq_true rfl, Nat.le_of_ble_eq_true rfl⟩) hK hP hD hS hA (va_recv hK hP (ci := 3) (q0 := 0) rfl rfl) rfl hl.1 rfl (Nat.le_of_ble_eq_true rfl) dX4_cross_23 ⟨Nat.le_of_ble_eq_true rfl, Nat.le_of_ble_eq_true rfl⟩ (fun H locs hP hD hS => ?_)
  refine lv_lload X.1 X.2.1 dX4_cross_26 (lv_at hl 0 rfl) ?_
  refine lv_aload_n X.1 X.2.1 dX4_cross_28 rfl (lv_at hl 2 rfl) ?_
  refine gX4_low X (fun w h => (List.mem_cons_of_mem _ (List.mem_append_right _ h))) hK hP (List.mem_cons_of_mem _ (List.mem_append_left _ (List.mem_of_getElem? (i := 1) rfl))) dX4_cross_29 ?_
  refine lv_lsub X.1 X.2.1 dX4_cross_32 ?_
  obtain ⟨x9, e10, h⟩ := lt_e h
  refine nm_l e10 ?_
  refine lv_lstore (lv' := [(13, .long x9), (11, .long x5), (9, .long x3), (0, .ref (a 0)), (1, .long p0), (3, .long p1), (5, .long p2), (7, .long p3)]) X.1 X.2.1 dX4_cross_33 hl (by decide) rfl (fun ls hl => ?_)
  refine lv_lload X.1 X.2.1 dX4_cross_35 (lv_at hl 1 rfl) ?_
  refine lv_ldc2 (v := (-9223372036854775808 : Int64)) X.1 X.2.1 X.2.2.2.1 (X.2.2.2.2 _ (List.mem_cons_of_mem _ (List.mem_append_left _ (List.mem_of_getElem? (i := 2) rfl)))) dX4_cross_37 ?_
  refine lv_ladd X.1 X.2.1 dX4_cross_40 ?_
  refine lv_aload_n X.1 X.2.1 dX4_cross_41 rfl (lv_at hl 3 rfl) ?_
  refine gX4_low X (fun w h => (List.mem_cons_of_mem _ (List.mem_append_right _ h))) hK hP (List.mem_cons_of_mem _ (List.mem_append_left _ (List.mem_of_getElem? (i := 1) rfl))) dX4_cross_42 ?_
  refine lv_ldc2 (v := (-9223372036854775808 : Int64)) X.1 X.2.1 X.2.2.2.1 (X.2.2.2.2 _ (List.mem_cons_of_mem _ (List.mem_append_left _ (List.mem_of_getElem? (i := 2) rfl)))) dX4_cross_45 ?_
  refine lv_ladd X.1 X.2.1 dX4_cross_48 ?_
  refine W.lcmp X.1 X.2.1 dX4_cross_49 ?_
  refine lv_if_ge (tgt := 57) X.1 X.2.1 dX4_cross_50 (by decide) (fun c11 => ?_) (fun c11 => ?_)
  · rw [if_pos c11] at h
    refine lv_iconst (v := (0 : Int32)) X.1 X.2.1 dX4_cross_57 (by decide) ?_
    refine lv_istore (lv' := [(15, .int (0 : Int32)), (13, .long x9), (11, .long x5), (9, .long x3), (0, .ref (a 0)), (1, .long p0), (3, .long p1), (5, .long p2), (7, .long p3)]) X.1 X.2.1 dX4_cross_58 hl (by decide) rfl (fun ls hl => ?_)
    refine lv_aload_n X.1 X.2.1 dX4_cross_60 rfl (lv_at hl 4 rfl) ?_
    refine lv_lload X.1 X.2.1 dX4_cross_61 (lv_at hl 3 rfl) ?_
    refine lv_aload_n X.1 X.2.1 dX4_cross_63 rfl (lv_at hl 4 rfl) ?_
    refine gX4_high X (fun w h => (List.mem_cons_of_mem _ (List.mem_append_right _ h))) hK hP (List.mem_cons_of_mem _ (List.mem_append_left _ (List.mem_of_getElem? (i := 0) rfl))) dX4_cross_64 ?_
    refine lv_lsub X.1 X.2.1 dX4_cross_67 ?_
    refine lv_iload X.1 X.2.1 dX4_cross_68 (lv_at hl 0 rfl) ?_
    refine lv_if_eq (tgt := 77) X.1 X.2.1 dX4_cross_70 (by decide) (fun c12 => ?_) (fun c12 => ?_)
    · rw [if_pos c12] at h
      refine lv_lconst (v := (0 : Int64)) X.1 X.2.1 dX4_cross_77 (by decide) ?_
      refine lv_lsub X.1 X.2.1 dX4_cross_78 ?_
      obtain ⟨μ13, e14, h⟩ := lt_e h
      refine pX4_high X (fun w h => (List.mem_cons_of_mem _ (List.mem_append_right _ h))) hK hP hD hS (List.mem_cons_of_mem _ (List.mem_append_left _ (List.mem_of_getElem? (i := 0) rfl))) e14 dX4_cross_79 (fun H locs hP hD hS => ?_)
      refine lv_aload_n X.1 X.2.1 dX4_cross_82 rfl (lv_at hl 4 rfl) ?_
      refine lv_lload X.1 X.2.1 dX4_cross_83 (lv_at hl 1 rfl) ?_
      obtain ⟨μ15, e16, h⟩ := lt_e h
      refine pX4_low X (fun w h => (List.mem_cons_of_mem _ (List.mem_append_right _ h))) hK hP hD hS (List.mem_cons_of_mem _ (List.mem_append_left _ (List.mem_of_getElem? (i := 1) rfl))) e16 dX4_cross_85 (fun H locs hP hD hS => ?_)
      have h := sm_e h
      subst h
      exact rt_v X hr hlk hK hP hD hS dX4_cross_88
    · rw [if_neg c12] at h
      refine lv_lconst (v := (1 : Int64)) X.1 X.2.1 dX4_cross_73 (by decide) ?_
      refine lv_goto (tgt := 78) X.1 X.2.1 dX4_cross_74 (by decide) ?_
      refine lv_lsub X.1 X.2.1 dX4_cross_78 ?_
      obtain ⟨μ17, e18, h⟩ := lt_e h
      refine pX4_high X (fun w h => (List.mem_cons_of_mem _ (List.mem_append_right _ h))) hK hP hD hS (List.mem_cons_of_mem _ (List.mem_append_left _ (List.mem_of_getElem? (i := 0) rfl))) e18 dX4_cross_79 (fun H locs hP hD hS => ?_)
      refine lv_aload_n X.1 X.2.1 dX4_cross_82 rfl (lv_at hl 4 rfl) ?_
      refine lv_lload X.1 X.2.1 dX4_cross_83 (lv_at hl 1 rfl) ?_
      obtain ⟨μ19, e20, h⟩ := lt_e h
      refine pX4_low X (fun w h => (List.mem_cons_of_mem _ (List.mem_append_right _ h))) hK hP hD hS (List.mem_cons_of_mem _ (List.mem_append_left _ (List.mem_of_getElem? (i := 1) rfl))) e20 dX4_cross_85 (fun H locs hP hD hS => ?_)
      have h := sm_e h
      subst h
      exact rt_v X hr hlk hK hP hD hS dX4_cross_88
  · rw [if_neg c11] at h
    refine lv_iconst (v := (1 : Int32)) X.1 X.2.1 dX4_cross_53 (by decide) ?_
    refine lv_goto (tgt := 58) X.1 X.2.1 dX4_cross_54 (by decide) ?_
    refine lv_istore (lv' := [(15, .int (1 : Int32)), (13, .long x9), (11, .long x5), (9, .long x3), (0, .ref (a 0)), (1, .long p0), (3, .long p1), (5, .long p2), (7, .long p3)]) X.1 X.2.1 dX4_cross_58 hl (by decide) rfl (fun ls hl => ?_)
    refine lv_aload_n X.1 X.2.1 dX4_cross_60 rfl (lv_at hl 4 rfl) ?_
    refine lv_lload X.1 X.2.1 dX4_cross_61 (lv_at hl 3 rfl) ?_
    refine lv_aload_n X.1 X.2.1 dX4_cross_63 rfl (lv_at hl 4 rfl) ?_
    refine gX4_high X (fun w h => (List.mem_cons_of_mem _ (List.mem_append_right _ h))) hK hP (List.mem_cons_of_mem _ (List.mem_append_left _ (List.mem_of_getElem? (i := 0) rfl))) dX4_cross_64 ?_
    refine lv_lsub X.1 X.2.1 dX4_cross_67 ?_
    refine lv_iload X.1 X.2.1 dX4_cross_68 (lv_at hl 0 rfl) ?_
    refine lv_if_eq (tgt := 77) X.1 X.2.1 dX4_cross_70 (by decide) (fun c21 => ?_) (fun c21 => ?_)
    · rw [if_pos c21] at h
      refine lv_lconst (v := (0 : Int64)) X.1 X.2.1 dX4_cross_77 (by decide) ?_
      refine lv_lsub X.1 X.2.1 dX4_cross_78 ?_
      obtain ⟨μ22, e23, h⟩ := lt_e h
      refine pX4_high X (fun w h => (List.mem_cons_of_mem _ (List.mem_append_right _ h))) hK hP hD hS (List.mem_cons_of_mem _ (List.mem_append_left _ (List.mem_of_getElem? (i := 0) rfl))) e23 dX4_cross_79 (fun H locs hP hD hS => ?_)
      refine lv_aload_n X.1 X.2.1 dX4_cross_82 rfl (lv_at hl 4 rfl) ?_
      refine lv_lload X.1 X.2.1 dX4_cross_83 (lv_at hl 1 rfl) ?_
      obtain ⟨μ24, e25, h⟩ := lt_e h
      refine pX4_low X (fun w h => (List.mem_cons_of_mem _ (List.mem_append_right _ h))) hK hP hD hS (List.mem_cons_of_mem _ (List.mem_append_left _ (List.mem_of_getElem? (i := 1) rfl))) e25 dX4_cross_85 (fun H locs hP hD hS => ?_)
      have h := sm_e h
      subst h
      exact rt_v X hr hlk hK hP hD hS dX4_cross_88
    · rw [if_neg c21] at h
      refine lv_lconst (v := (1 : Int64)) X.1 X.2.1 dX4_cross_73 (by decide) ?_
      refine lv_goto (tgt := 78) X.1 X.2.1 dX4_cross_74 (by decide) ?_
      refine lv_lsub X.1 X.2.1 dX4_cross_78 ?_
      obtain ⟨μ26, e27, h⟩ := lt_e h
      refine pX4_high X (fun w h => (List.mem_cons_of_mem _ (List.mem_append_right _ h))) hK hP hD hS (List.mem_cons_of_mem _ (List.mem_append_left _ (List.mem_of_getElem? (i := 0) rfl))) e27 dX4_cross_79 (fun H locs hP hD hS => ?_)
      refine lv_aload_n X.1 X.2.1 dX4_cross_82 rfl (lv_at hl 4 rfl) ?_
      refine lv_lload X.1 X.2.1 dX4_cross_83 (lv_at hl 1 rfl) ?_
      obtain ⟨μ28, e29, h⟩ := lt_e h
      refine pX4_low X (fun w h => (List.mem_cons_of_mem _ (List.mem_append_right _ h))) hK hP hD hS (List.mem_cons_of_mem _ (List.mem_append_left _ (List.mem_of_getElem? (i := 1) rfl))) e29 dX4_cross_85 (fun H locs hP hD hS => ?_)
      have h := sm_e h
      subst h
      exact rt_v X hr hlk hK hP hD hS dX4_cross_88
def f_X4_signOfCross (p0 : Int64) (p1 : Int64) (p2 : Int64) (p3 : Int64) (μ : MS) : Option (Int32 × MS) := (f_X4_cross p0 p1 p2 p3 μ).bind (fun r1 => if 0 ≤ (lg_cmp (m_hi r1) (0 : Int64)) then if 0 < (lg_cmp (m_hi r1) (0 : Int64)) then some ((1 : Int32), r1) else if (lg_cmp (m_lo r1) (0 : Int64)) = 0 then some ((0 : Int32), r1) else some ((1 : Int32), r1) else some ((-1 : Int32), r1))
theorem hd_X4_signOfCross : yX4_signOfCross.cls = RX4 ∧ yX4_signOfCross.cls ≠ "java/lang/invoke/MethodHandle" ∧ yX4_signOfCross.cls ≠ "java/lang/invoke/VarHandle" ∧ (parseMethodDescriptor yX4_signOfCross.desc).map (fun d => d.parameters.length) = some 4 := by decide +kernel
set_option maxHeartbeats 4000000 in
set_option maxRecDepth 100000 in
theorem k_X4_signOfCross {l : Launch} {D : va_G} {k : Nat → ClassId} {a : Nat → Nat} (p0 : Int64) (p1 : Int64) (p2 : Int64) (p3 : Int64) (μ : MS) (R : (Int32 × MS)) (h : f_X4_signOfCross p0 p1 p2 p3 μ = some R) : Ct l yX4_signOfCross wsX4_signOfCross ({ frames := 2, cells := 0, slots := 0, locals := 73 } : Room) D (mT k) (mW k a μ) (mW k a R.2) [.ref (a 0), .long p0, .long p1, .long p2, .long p3] (some (.int R.1)) := by
  refine ct_of (cc := cX4_signOfCross) (maxL := 9) (ret := (some .int)) (by decide) rfl (Nat.le_of_ble_eq_true rfl) ?_
  intro p e s m args below meth c A ls X hr hlk hK hA hP hD hS hl
  have X : CallFix p m c cX4_signOfCross 9 s args wsX4_signOfCross RX4 := X
  have hl : lv_has ls 9 [(0, .ref (a 0)), (1, .long p0), (3, .long p1), (5, .long p2), (7, .long p3)] := hl
  rw [f_X4_signOfCross] at h
  refine lv_aload_n X.1 X.2.1 dX4_signOfCross_0 rfl (lv_at hl 0 rfl) ?_
  refine lv_lload_n X.1 X.2.1 dX4_signOfCross_1 rfl (lv_at hl 1 rfl) ?_
  refine lv_lload_n X.1 X.2.1 dX4_signOfCross_2 rfl (lv_at hl 2 rfl) ?_
  refine lv_lload X.1 X.2.1 dX4_signOfCross_3 (lv_at hl 3 rfl) ?_
  refine lv_lload X.1 X.2.1 dX4_signOfCross_5 (lv_at hl 4 rfl) ?_
  obtain ⟨r1, q2, h⟩ := bd_e h
  refine kc_v (As := [.long p0, .long p1, .long p2, .long p3]) (rest := []) X (k_X4_cross p0 p1 p2 p3 μ _ q2) (cwV 4 X.2.2.2.2 gX4_signOfCross_X4_cross rfl rfl rfl hd_X4_cross ⟨Nat.le_of_ble_eq_true rfl, Nat.le_of_ble_eq_true rfl⟩) hK hP hD hS hA (va_recv hK hP (ci := 3) (q0 := 0) rfl rfl) rfl hl.1 rfl (Nat.le_of_ble_eq_true rfl) dX4_signOfCross_7 ⟨Nat.le_of_ble_eq_true rfl, Nat.le_of_ble_eq_true rfl⟩ (fun H locs hP hD hS => ?_)
  refine lv_aload_n X.1 X.2.1 dX4_signOfCross_10 rfl (lv_at hl 0 rfl) ?_
  refine gX4_high X (fun w h => (List.mem_cons_of_mem _ (List.mem_append_right _ h))) hK hP (List.mem_cons_of_mem _ (List.mem_append_left _ (List.mem_of_getElem? (i := 0) rfl))) dX4_signOfCross_11 ?_
  refine lv_lconst (v := (0 : Int64)) X.1 X.2.1 dX4_signOfCross_14 (by decide) ?_
  refine W.lcmp X.1 X.2.1 dX4_signOfCross_15 ?_
  refine lv_if_ge (tgt := 23) X.1 X.2.1 dX4_signOfCross_16 (by decide) (fun c3 => ?_) (fun c3 => ?_)
  · rw [if_pos c3] at h
    refine lv_aload_n X.1 X.2.1 dX4_signOfCross_23 rfl (lv_at hl 0 rfl) ?_
    refine gX4_high X (fun w h => (List.mem_cons_of_mem _ (List.mem_append_right _ h))) hK hP (List.mem_cons_of_mem _ (List.mem_append_left _ (List.mem_of_getElem? (i := 0) rfl))) dX4_signOfCross_24 ?_
    refine lv_lconst (v := (0 : Int64)) X.1 X.2.1 dX4_signOfCross_27 (by decide) ?_
    refine W.lcmp X.1 X.2.1 dX4_signOfCross_28 ?_
    refine lv_if_gt (tgt := 41) X.1 X.2.1 dX4_signOfCross_29 (by decide) (fun c4 => ?_) (fun c4 => ?_)
    · rw [if_pos c4] at h
      refine lv_iconst (v := (1 : Int32)) X.1 X.2.1 dX4_signOfCross_41 (by decide) ?_
      refine lv_goto (tgt := 46) X.1 X.2.1 dX4_signOfCross_42 (by decide) ?_
      have h := sm_e h
      subst h
      exact rt_i X hr hlk hK hP hD hS dX4_signOfCross_46
    · rw [if_neg c4] at h
      refine lv_aload_n X.1 X.2.1 dX4_signOfCross_32 rfl (lv_at hl 0 rfl) ?_
      refine gX4_low X (fun w h => (List.mem_cons_of_mem _ (List.mem_append_right _ h))) hK hP (List.mem_cons_of_mem _ (List.mem_append_left _ (List.mem_of_getElem? (i := 1) rfl))) dX4_signOfCross_33 ?_
      refine lv_lconst (v := (0 : Int64)) X.1 X.2.1 dX4_signOfCross_36 (by decide) ?_
      refine W.lcmp X.1 X.2.1 dX4_signOfCross_37 ?_
      refine lv_if_eq (tgt := 45) X.1 X.2.1 dX4_signOfCross_38 (by decide) (fun c5 => ?_) (fun c5 => ?_)
      · rw [if_pos c5] at h
        refine lv_iconst (v := (0 : Int32)) X.1 X.2.1 dX4_signOfCross_45 (by decide) ?_
        have h := sm_e h
        subst h
        exact rt_i X hr hlk hK hP hD hS dX4_signOfCross_46
      · rw [if_neg c5] at h
        refine lv_iconst (v := (1 : Int32)) X.1 X.2.1 dX4_signOfCross_41 (by decide) ?_
        refine lv_goto (tgt := 46) X.1 X.2.1 dX4_signOfCross_42 (by decide) ?_
        have h := sm_e h
        subst h
        exact rt_i X hr hlk hK hP hD hS dX4_signOfCross_46
  · rw [if_neg c3] at h
    refine lv_iconst (v := (-1 : Int32)) X.1 X.2.1 dX4_signOfCross_19 (by decide) ?_
    refine lv_goto (tgt := 46) X.1 X.2.1 dX4_signOfCross_20 (by decide) ?_
    have h := sm_e h
    subst h
    exact rt_i X hr hlk hK hP hD hS dX4_signOfCross_46
def f_X4_shared_L62 (N : Nat) : Nat → Int64 → Int64 → Int64 → Int32 → MS → Option Int64
  | 0, _, _, _, _, _ => none
  | n + 1, v4, v6, v8, v10, μ => if (6 : Int32) ≤ v10 then some (v6 * v8) else lt_ (v8 * ((2 : Int64) - (v4 * v8))) (fun x2 => lt_ (v10 + (1 : Int32)) (fun x4 => f_X4_shared_L62 N n v4 v6 x2 x4 μ))
set_option maxHeartbeats 4000000 in
set_option maxRecDepth 100000 in
theorem t_X4_shared_L62 {p : Program} {l : Launch} {e : Env} {s : State} {m : MethodId} {args : Array Value} {below : List Frame} {meth : Method} {c : Code} {D : va_G} {A : Nat → Prop} {k : Nat → ClassId} {a : Nat → Nat} (X : CallFix p m c cX4_shared 11 s args wsX4_shared RX4) (hr : meth.sig.returnType = some .long) (hlk : meth.locks = false) (hK : va_K D vwCl (mT k) s) (hA : ∀ q : Nat, s.heap.size ≤ q → A q) (N : Nat) : ∀ (n : Nat) (v4 : Int64) (v6 : Int64) (v8 : Int64) (v10 : Int32) (μ : MS) (R : Int64), f_X4_shared_L62 N n v4 v6 v8 v10 μ = some R → ∀ (H : Heap) (locs : List Loc) (ls : Array Slot), va_P D vwCl (mW k a μ) H → va_D A (mW k a μ) → va_S A s.heap H locs → lv_has ls 11 [(4, .long v4), (6, .long v6), (8, .long v8), (10, .int v10)] → W p l e ({ frames := 0, cells := 0, slots := 0, locals := 0 } : Room) s m args below meth c H locs 0 0 (MQ below (cQ D (mT k) A (mW k a μ) (some (.long R))) args s 0 0 A) (F0 m 62 ls []) := by
  intro n
  induction n with
  | zero =>
    intro v4 v6 v8 v10 μ R h
    exact absurd h (by simp [f_X4_shared_L62])
  | succ n ih =>
    intro v4 v6 v8 v10 μ R h H locs ls hP hD hS hl
    rw [f_X4_shared_L62] at h
    refine lv_iload X.1 X.2.1 dX4_shared_62 (lv_at hl 3 rfl) ?_
    refine lv_bipush (v := (6 : Int32)) X.1 X.2.1 dX4_shared_64 (by decide) ?_
    refine lv_icmp_ge (tgt := 89) X.1 X.2.1 dX4_shared_66 (by decide) (fun c1 => ?_) (fun c1 => ?_)
    · rw [if_pos c1] at h
      refine lv_lload X.1 X.2.1 dX4_shared_89 (lv_at hl 1 rfl) ?_
      refine lv_lload X.1 X.2.1 dX4_shared_91 (lv_at hl 2 rfl) ?_
      refine lv_lmul X.1 X.2.1 dX4_shared_93 ?_
      have h := sm_e h
      subst h
      exact rt_l X hr hlk hK hP hD hS dX4_shared_94
    · rw [if_neg c1] at h
      refine lv_lload X.1 X.2.1 dX4_shared_69 (lv_at hl 2 rfl) ?_
      refine lv_ldc2 (v := (2 : Int64)) X.1 X.2.1 X.2.2.2.1 (X.2.2.2.2 _ (List.mem_cons_of_mem _ (List.mem_append_left _ (List.mem_of_getElem? (i := 2) rfl)))) dX4_shared_71 ?_
      refine lv_lload X.1 X.2.1 dX4_shared_74 (lv_at hl 0 rfl) ?_
      refine lv_lload X.1 X.2.1 dX4_shared_76 (lv_at hl 2 rfl) ?_
      refine lv_lmul X.1 X.2.1 dX4_shared_78 ?_
      refine lv_lsub X.1 X.2.1 dX4_shared_79 ?_
      refine lv_lmul X.1 X.2.1 dX4_shared_80 ?_
      obtain ⟨x2, e3, h⟩ := lt_e h
      refine nm_l e3 ?_
      refine lv_lstore (lv' := [(8, .long x2), (4, .long v4), (6, .long v6), (10, .int v10)]) X.1 X.2.1 dX4_shared_81 hl (by decide) rfl (fun ls hl => ?_)
      obtain ⟨x4, e5, h⟩ := lt_e h
      refine lv_iinc (v := x4) (lv' := [(10, .int x4), (8, .long x2), (4, .long v4), (6, .long v6)]) X.1 X.2.1 dX4_shared_83 hl (k := 3) rfl e5.symm (by decide) rfl (fun ls hl => ?_)
      refine lv_goto (tgt := 62) X.1 X.2.1 dX4_shared_86 (by decide) ?_
      exact ih v4 v6 x2 x4 μ _ h _ _ _ hP hD hS (lv_sub hl [2, 3, 1, 0] rfl)
def f_X4_shared_L5 (N : Nat) : Nat → Int32 → Int64 → MS → Option Int64
  | 0, _, _, _ => none
  | n + 1, v3, v4, μ => if (lg_cmp (v4 &&& (1 : Int64)) (0 : Int64)) = 0 then lt_ (v4 >>> ((1 : Int32).toInt64 &&& 63)) (fun x8 => lt_ (v3 + (1 : Int32)) (fun x10 => f_X4_shared_L5 N n x10 x8 μ)) else if v3 = 0 then lt_ (m_lo μ) (fun x6 => f_X4_shared_L62 N N v4 x6 v4 (0 : Int32) μ) else lt_ ((((m_lo μ).toUInt64 >>> (v3.toInt64.toUInt64 &&& Int64.toUInt64 63)).toInt64) ||| ((m_hi μ) <<< (((64 : Int32) - v3).toInt64 &&& 63))) (fun x3 => f_X4_shared_L62 N N v4 x3 v4 (0 : Int32) μ)
set_option maxHeartbeats 4000000 in
set_option maxRecDepth 100000 in
theorem t_X4_shared_L5 {p : Program} {l : Launch} {e : Env} {s : State} {m : MethodId} {args : Array Value} {below : List Frame} {meth : Method} {c : Code} {D : va_G} {A : Nat → Prop} {k : Nat → ClassId} {a : Nat → Nat} (X : CallFix p m c cX4_shared 11 s args wsX4_shared RX4) (hr : meth.sig.returnType = some .long) (hlk : meth.locks = false) (hK : va_K D vwCl (mT k) s) (hA : ∀ q : Nat, s.heap.size ≤ q → A q) (N : Nat) : ∀ (n : Nat) (v3 : Int32) (v4 : Int64) (μ : MS) (R : Int64), f_X4_shared_L5 N n v3 v4 μ = some R → ∀ (H : Heap) (locs : List Loc) (ls : Array Slot), va_P D vwCl (mW k a μ) H → va_D A (mW k a μ) → va_S A s.heap H locs → lv_has ls 11 [(0, .ref (a 0)), (3, .int v3), (4, .long v4)] → W p l e ({ frames := 0, cells := 0, slots := 0, locals := 0 } : Room) s m args below meth c H locs 0 0 (MQ below (cQ D (mT k) A (mW k a μ) (some (.long R))) args s 0 0 A) (F0 m 5 ls []) := by
  intro n
  induction n with
  | zero =>
    intro v3 v4 μ R h
    exact absurd h (by simp [f_X4_shared_L5])
  | succ n ih =>
    intro v3 v4 μ R h H locs ls hP hD hS hl
    rw [f_X4_shared_L5] at h
    refine lv_lload X.1 X.2.1 dX4_shared_5 (lv_at hl 2 rfl) ?_
    refine lv_lconst (v := (1 : Int64)) X.1 X.2.1 dX4_shared_7 (by decide) ?_
    refine lv_land X.1 X.2.1 dX4_shared_8 ?_
    refine lv_lconst (v := (0 : Int64)) X.1 X.2.1 dX4_shared_9 (by decide) ?_
    refine W.lcmp X.1 X.2.1 dX4_shared_10 ?_
    refine lv_if_ne (tgt := 26) X.1 X.2.1 dX4_shared_11 (by decide) (fun c1 => ?_) (fun c1 => ?_)
    · rw [if_neg c1] at h
      refine lv_iload_n X.1 X.2.1 dX4_shared_26 rfl (lv_at hl 1 rfl) ?_
      refine lv_if_ne (tgt := 37) X.1 X.2.1 dX4_shared_27 (by decide) (fun c2 => ?_) (fun c2 => ?_)
      · rw [if_neg c2] at h
        refine lv_aload_n X.1 X.2.1 dX4_shared_37 rfl (lv_at hl 0 rfl) ?_
        refine gX4_low X (fun w h => (List.mem_cons_of_mem _ (List.mem_append_right _ h))) hK hP (List.mem_cons_of_mem _ (List.mem_append_left _ (List.mem_of_getElem? (i := 0) rfl))) dX4_shared_38 ?_
        refine lv_iload_n X.1 X.2.1 dX4_shared_41 rfl (lv_at hl 1 rfl) ?_
        refine lv_lushr (v := (((m_lo μ).toUInt64 >>> (v3.toInt64.toUInt64 &&& Int64.toUInt64 63)).toInt64)) X.1 X.2.1 dX4_shared_42 rfl ?_
        refine lv_aload_n X.1 X.2.1 dX4_shared_43 rfl (lv_at hl 0 rfl) ?_
        refine gX4_high X (fun w h => (List.mem_cons_of_mem _ (List.mem_append_right _ h))) hK hP (List.mem_cons_of_mem _ (List.mem_append_left _ (List.mem_of_getElem? (i := 1) rfl))) dX4_shared_44 ?_
        refine lv_bipush (v := (64 : Int32)) X.1 X.2.1 dX4_shared_47 (by decide) ?_
        refine lv_iload_n X.1 X.2.1 dX4_shared_49 rfl (lv_at hl 1 rfl) ?_
        refine lv_isub X.1 X.2.1 dX4_shared_50 ?_
        refine lv_lshl (v := ((m_hi μ) <<< (((64 : Int32) - v3).toInt64 &&& 63))) X.1 X.2.1 dX4_shared_51 rfl ?_
        refine lv_lor X.1 X.2.1 dX4_shared_52 ?_
        obtain ⟨x3, e4, h⟩ := lt_e h
        refine nm_l e4 ?_
        refine lv_lstore (lv' := [(6, .long x3), (0, .ref (a 0)), (3, .int v3), (4, .long v4)]) X.1 X.2.1 dX4_shared_53 hl (by decide) rfl (fun ls hl => ?_)
        refine lv_lload X.1 X.2.1 dX4_shared_55 (lv_at hl 3 rfl) ?_
        refine lv_lstore (lv' := [(8, .long v4), (6, .long x3), (0, .ref (a 0)), (3, .int v3), (4, .long v4)]) X.1 X.2.1 dX4_shared_57 hl (by decide) rfl (fun ls hl => ?_)
        refine lv_iconst (v := (0 : Int32)) X.1 X.2.1 dX4_shared_59 (by decide) ?_
        refine lv_istore (lv' := [(10, .int (0 : Int32)), (8, .long v4), (6, .long x3), (0, .ref (a 0)), (3, .int v3), (4, .long v4)]) X.1 X.2.1 dX4_shared_60 hl (by decide) rfl (fun ls hl => ?_)
        exact t_X4_shared_L62 X hr hlk hK hA N N v4 x3 v4 (0 : Int32) μ _ h _ _ _ hP hD hS (lv_sub hl [5, 2, 1, 0] rfl)
      · rw [if_pos c2] at h
        refine lv_aload_n X.1 X.2.1 dX4_shared_30 rfl (lv_at hl 0 rfl) ?_
        refine gX4_low X (fun w h => (List.mem_cons_of_mem _ (List.mem_append_right _ h))) hK hP (List.mem_cons_of_mem _ (List.mem_append_left _ (List.mem_of_getElem? (i := 0) rfl))) dX4_shared_31 ?_
        refine lv_goto (tgt := 53) X.1 X.2.1 dX4_shared_34 (by decide) ?_
        obtain ⟨x6, e7, h⟩ := lt_e h
        refine nm_l e7 ?_
        refine lv_lstore (lv' := [(6, .long x6), (0, .ref (a 0)), (3, .int v3), (4, .long v4)]) X.1 X.2.1 dX4_shared_53 hl (by decide) rfl (fun ls hl => ?_)
        refine lv_lload X.1 X.2.1 dX4_shared_55 (lv_at hl 3 rfl) ?_
        refine lv_lstore (lv' := [(8, .long v4), (6, .long x6), (0, .ref (a 0)), (3, .int v3), (4, .long v4)]) X.1 X.2.1 dX4_shared_57 hl (by decide) rfl (fun ls hl => ?_)
        refine lv_iconst (v := (0 : Int32)) X.1 X.2.1 dX4_shared_59 (by decide) ?_
        refine lv_istore (lv' := [(10, .int (0 : Int32)), (8, .long v4), (6, .long x6), (0, .ref (a 0)), (3, .int v3), (4, .long v4)]) X.1 X.2.1 dX4_shared_60 hl (by decide) rfl (fun ls hl => ?_)
        exact t_X4_shared_L62 X hr hlk hK hA N N v4 x6 v4 (0 : Int32) μ _ h _ _ _ hP hD hS (lv_sub hl [5, 2, 1, 0] rfl)
    · rw [if_pos c1] at h
      refine lv_lload X.1 X.2.1 dX4_shared_14 (lv_at hl 2 rfl) ?_
      refine lv_iconst (v := (1 : Int32)) X.1 X.2.1 dX4_shared_16 (by decide) ?_
      refine lv_lshr (v := (v4 >>> ((1 : Int32).toInt64 &&& 63))) X.1 X.2.1 dX4_shared_17 rfl ?_
      obtain ⟨x8, e9, h⟩ := lt_e h
      refine nm_l e9 ?_
      refine lv_lstore (lv' := [(4, .long x8), (0, .ref (a 0)), (3, .int v3)]) X.1 X.2.1 dX4_shared_18 hl (by decide) rfl (fun ls hl => ?_)
      obtain ⟨x10, e11, h⟩ := lt_e h
      refine lv_iinc (v := x10) (lv' := [(3, .int x10), (4, .long x8), (0, .ref (a 0))]) X.1 X.2.1 dX4_shared_20 hl (k := 2) rfl e11.symm (by decide) rfl (fun ls hl => ?_)
      refine lv_goto (tgt := 5) X.1 X.2.1 dX4_shared_23 (by decide) ?_
      exact ih x10 x8 μ _ h _ _ _ hP hD hS (lv_sub hl [2, 0, 1] rfl)
def f_X4_shared (N : Nat) (p0 : Int64) (μ : MS) : Option Int64 := f_X4_shared_L5 N N (0 : Int32) p0 μ
theorem hd_X4_shared : yX4_shared.cls = RX4 ∧ yX4_shared.cls ≠ "java/lang/invoke/MethodHandle" ∧ yX4_shared.cls ≠ "java/lang/invoke/VarHandle" ∧ (parseMethodDescriptor yX4_shared.desc).map (fun d => d.parameters.length) = some 1 := by decide +kernel
set_option maxHeartbeats 4000000 in
set_option maxRecDepth 100000 in
theorem k_X4_shared {l : Launch} {D : va_G} {k : Nat → ClassId} {a : Nat → Nat} (N : Nat) (p0 : Int64) (μ : MS) (R : Int64) (h : f_X4_shared N p0 μ = some R) : Ct l yX4_shared wsX4_shared ({ frames := 0, cells := 0, slots := 0, locals := 0 } : Room) D (mT k) (mW k a μ) (mW k a μ) [.ref (a 0), .long p0] (some (.long R)) := by
  refine ct_of (cc := cX4_shared) (maxL := 11) (ret := (some .long)) (by decide) rfl (Nat.le_of_ble_eq_true rfl) ?_
  intro p e s m args below meth c A ls X hr hlk hK hA hP hD hS hl
  have X : CallFix p m c cX4_shared 11 s args wsX4_shared RX4 := X
  have hl : lv_has ls 11 [(0, .ref (a 0)), (1, .long p0)] := hl
  rw [f_X4_shared] at h
  refine lv_iconst (v := (0 : Int32)) X.1 X.2.1 dX4_shared_0 (by decide) ?_
  refine lv_istore_n (lv' := [(3, .int (0 : Int32)), (0, .ref (a 0)), (1, .long p0)]) X.1 X.2.1 dX4_shared_1 rfl hl (by decide) rfl (fun ls hl => ?_)
  refine lv_lload_n X.1 X.2.1 dX4_shared_2 rfl (lv_at hl 2 rfl) ?_
  refine lv_lstore (lv' := [(4, .long p0), (3, .int (0 : Int32)), (0, .ref (a 0)), (1, .long p0)]) X.1 X.2.1 dX4_shared_3 hl (by decide) rfl (fun ls hl => ?_)
  exact t_X4_shared_L5 X hr hlk hK hA N N (0 : Int32) p0 μ _ h _ _ _ hP hD hS (lv_sub hl [2, 1, 0] rfl)
def f_X4_size (p0 : Int64) : Option Int64 := if 0 ≤ (lg_cmp p0 (0 : Int64)) then some p0 else some (-p0)
theorem hd_X4_size : yX4_size.cls ≠ "java/lang/invoke/MethodHandle" ∧ yX4_size.cls ≠ "java/lang/invoke/VarHandle" ∧ (parseMethodDescriptor yX4_size.desc).map (fun d => d.parameters.length) = some 1 := by decide +kernel
set_option maxHeartbeats 4000000 in
set_option maxRecDepth 100000 in
theorem k_X4_size {l : Launch} {D : va_G} (p0 : Int64) (R : Int64) (h : f_X4_size p0 = some R) : Ct l yX4_size wsX4_size ({ frames := 0, cells := 0, slots := 0, locals := 0 } : Room) D ([]) ([]) ([]) [.long p0] (some (.long R)) := by
  refine ct_of (cc := cX4_size) (maxL := 2) (ret := (some .long)) (by decide) rfl (Nat.le_of_ble_eq_true rfl) ?_
  intro p e s m args below meth c A ls X hr hlk hK hA hP hD hS hl
  have X : CallFix p m c cX4_size 2 s args wsX4_size RX4 := X
  have hl : lv_has ls 2 [(0, .long p0)] := hl
  rw [f_X4_size] at h
  refine lv_lload_n X.1 X.2.1 dX4_size_0 rfl (lv_at hl 0 rfl) ?_
  refine lv_lconst (v := (0 : Int64)) X.1 X.2.1 dX4_size_1 (by decide) ?_
  refine W.lcmp X.1 X.2.1 dX4_size_2 ?_
  refine lv_if_ge (tgt := 11) X.1 X.2.1 dX4_size_3 (by decide) (fun c1 => ?_) (fun c1 => ?_)
  · rw [if_pos c1] at h
    refine lv_lload_n X.1 X.2.1 dX4_size_11 rfl (lv_at hl 0 rfl) ?_
    have h := sm_e h
    subst h
    exact rt_l X hr hlk hK hP hD hS dX4_size_12
  · rw [if_neg c1] at h
    refine lv_lload_n X.1 X.2.1 dX4_size_6 rfl (lv_at hl 0 rfl) ?_
    refine lv_lneg X.1 X.2.1 dX4_size_7 ?_
    refine lv_goto (tgt := 12) X.1 X.2.1 dX4_size_8 (by decide) ?_
    have h := sm_e h
    subst h
    exact rt_l X hr hlk hK hP hD hS dX4_size_12
def f_X4_divisor_L12 (N : Nat) : Nat → Int64 → Int64 → Option Int64
  | 0, _, _ => none
  | n + 1, v4, v6 => if (lg_cmp v6 (0 : Int64)) = 0 then some v4 else gd (!decide (v6 = 0)) (lt_ (v4 - v4 / v6 * v6) (fun x3 => f_X4_divisor_L12 N n v6 x3))
set_option maxHeartbeats 4000000 in
set_option maxRecDepth 100000 in
theorem t_X4_divisor_L12 {p : Program} {l : Launch} {e : Env} {s : State} {m : MethodId} {args : Array Value} {below : List Frame} {meth : Method} {c : Code} {D : va_G} {A : Nat → Prop} (X : CallFix p m c cX4_divisor 10 s args wsX4_divisor RX4) (hr : meth.sig.returnType = some .long) (hlk : meth.locks = false) (hK : va_K D vwCl ([]) s) (hA : ∀ q : Nat, s.heap.size ≤ q → A q) (N : Nat) : ∀ (n : Nat) (v4 : Int64) (v6 : Int64) (R : Int64), f_X4_divisor_L12 N n v4 v6 = some R → ∀ (H : Heap) (locs : List Loc) (ls : Array Slot), va_P D vwCl ([]) H → va_D A ([]) → va_S A s.heap H locs → lv_has ls 10 [(4, .long v4), (6, .long v6)] → W p l e ({ frames := 1, cells := 0, slots := 0, locals := 21 } : Room) s m args below meth c H locs 0 0 (MQ below (cQ D ([]) A ([]) (some (.long R))) args s 0 0 A) (F0 m 12 ls []) := by
  intro n
  induction n with
  | zero =>
    intro v4 v6  R h
    exact absurd h (by simp [f_X4_divisor_L12])
  | succ n ih =>
    intro v4 v6  R h H locs ls hP hD hS hl
    rw [f_X4_divisor_L12] at h
    refine lv_lload X.1 X.2.1 dX4_divisor_12 (lv_at hl 1 rfl) ?_
    refine lv_lconst (v := (0 : Int64)) X.1 X.2.1 dX4_divisor_14 (by decide) ?_
    refine W.lcmp X.1 X.2.1 dX4_divisor_15 ?_
    refine lv_if_eq (tgt := 37) X.1 X.2.1 dX4_divisor_16 (by decide) (fun c1 => ?_) (fun c1 => ?_)
    · rw [if_pos c1] at h
      refine lv_lload X.1 X.2.1 dX4_divisor_37 (lv_at hl 0 rfl) ?_
      have h := sm_e h
      subst h
      exact rt_l X hr hlk hK hP hD hS dX4_divisor_39
    · rw [if_neg c1] at h
      refine lv_lload X.1 X.2.1 dX4_divisor_19 (lv_at hl 0 rfl) ?_
      refine lv_lload X.1 X.2.1 dX4_divisor_21 (lv_at hl 1 rfl) ?_
      obtain ⟨g2, h⟩ := gd_e h
      refine lv_lrem X.1 X.2.1 dX4_divisor_23 (nz_e g2) ?_
      obtain ⟨x3, e4, h⟩ := lt_e h
      refine nm_l e4 ?_
      refine lv_lstore (lv' := [(8, .long x3), (4, .long v4), (6, .long v6)]) X.1 X.2.1 dX4_divisor_24 hl (by decide) rfl (fun ls hl => ?_)
      refine lv_lload X.1 X.2.1 dX4_divisor_26 (lv_at hl 2 rfl) ?_
      refine lv_lstore (lv' := [(4, .long v6), (8, .long x3), (6, .long v6)]) X.1 X.2.1 dX4_divisor_28 hl (by decide) rfl (fun ls hl => ?_)
      refine lv_lload X.1 X.2.1 dX4_divisor_30 (lv_at hl 1 rfl) ?_
      refine lv_lstore (lv' := [(6, .long x3), (4, .long v6), (8, .long x3)]) X.1 X.2.1 dX4_divisor_32 hl (by decide) rfl (fun ls hl => ?_)
      refine lv_goto (tgt := 12) X.1 X.2.1 dX4_divisor_34 (by decide) ?_
      exact ih v6 x3  _ h _ _ _ hP hD hS (lv_sub hl [1, 0] rfl)
def f_X4_divisor (N : Nat) (p0 : Int64) (p1 : Int64) : Option Int64 := (f_X4_size p0 ).bind (fun r1 => (f_X4_size p1 ).bind (fun r3 => f_X4_divisor_L12 N N r1 r3))
theorem hd_X4_divisor : yX4_divisor.cls ≠ "java/lang/invoke/MethodHandle" ∧ yX4_divisor.cls ≠ "java/lang/invoke/VarHandle" ∧ (parseMethodDescriptor yX4_divisor.desc).map (fun d => d.parameters.length) = some 2 := by decide +kernel
set_option maxHeartbeats 4000000 in
set_option maxRecDepth 100000 in
theorem k_X4_divisor {l : Launch} {D : va_G} (N : Nat) (p0 : Int64) (p1 : Int64) (R : Int64) (h : f_X4_divisor N p0 p1 = some R) : Ct l yX4_divisor wsX4_divisor ({ frames := 1, cells := 0, slots := 0, locals := 21 } : Room) D ([]) ([]) ([]) [.long p0, .long p1] (some (.long R)) := by
  refine ct_of (cc := cX4_divisor) (maxL := 10) (ret := (some .long)) (by decide) rfl (Nat.le_of_ble_eq_true rfl) ?_
  intro p e s m args below meth c A ls X hr hlk hK hA hP hD hS hl
  have X : CallFix p m c cX4_divisor 10 s args wsX4_divisor RX4 := X
  have hl : lv_has ls 10 [(0, .long p0), (2, .long p1)] := hl
  rw [f_X4_divisor] at h
  refine lv_lload_n X.1 X.2.1 dX4_divisor_0 rfl (lv_at hl 0 rfl) ?_
  obtain ⟨r1, q2, h⟩ := bd_e h
  refine kc_s (As := [.long p0]) (rest := []) X (k_X4_size p0 _ q2) (va_cwS 1 X.2.2.2.2 gX4_divisor_X4_size rfl rfl rfl hd_X4_size ⟨Nat.le_of_ble_eq_true rfl, Nat.le_of_ble_eq_true rfl⟩) hK hP hS hA rfl hl.1 rfl (Nat.le_of_ble_eq_true rfl) dX4_divisor_1 ⟨Nat.le_of_ble_eq_true rfl, Nat.le_of_ble_eq_true rfl⟩ (fun H locs hP hS => ?_)
  refine lv_lstore (lv' := [(4, .long r1), (0, .long p0), (2, .long p1)]) X.1 X.2.1 dX4_divisor_4 hl (by decide) rfl (fun ls hl => ?_)
  refine lv_lload_n X.1 X.2.1 dX4_divisor_6 rfl (lv_at hl 2 rfl) ?_
  obtain ⟨r3, q4, h⟩ := bd_e h
  refine kc_s (As := [.long p1]) (rest := []) X (k_X4_size p1 _ q4) (va_cwS 1 X.2.2.2.2 gX4_divisor_X4_size rfl rfl rfl hd_X4_size ⟨Nat.le_of_ble_eq_true rfl, Nat.le_of_ble_eq_true rfl⟩) hK hP hS hA rfl hl.1 rfl (Nat.le_of_ble_eq_true rfl) dX4_divisor_7 ⟨Nat.le_of_ble_eq_true rfl, Nat.le_of_ble_eq_true rfl⟩ (fun H locs hP hS => ?_)
  refine lv_lstore (lv' := [(6, .long r3), (4, .long r1), (0, .long p0), (2, .long p1)]) X.1 X.2.1 dX4_divisor_10 hl (by decide) rfl (fun ls hl => ?_)
  exact t_X4_divisor_L12 X hr hlk hK hA N N r1 r3  _ h _ _ _ hP hD hS (lv_sub hl [1, 0] rfl)
def f_X4_lowest (N : Nat) (p0 : Int64) (p1 : Int64) (p2 : Int32) : Option Int64 := (f_X4_divisor N p0 p1 ).bind (fun r1 => if p2 = 0 then gd (!decide (r1 = 0)) (some (p0 / r1)) else if p2 = (1 : Int32) then gd (!decide (r1 = 0)) (some (p1 / r1)) else some (0 : Int64))
theorem hd_X4_lowest : yX4_lowest.cls ≠ "java/lang/invoke/MethodHandle" ∧ yX4_lowest.cls ≠ "java/lang/invoke/VarHandle" ∧ (parseMethodDescriptor yX4_lowest.desc).map (fun d => d.parameters.length) = some 3 := by decide +kernel
set_option maxHeartbeats 4000000 in
set_option maxRecDepth 100000 in
theorem k_X4_lowest {l : Launch} {D : va_G} (N : Nat) (p0 : Int64) (p1 : Int64) (p2 : Int32) (R : Int64) (h : f_X4_lowest N p0 p1 p2 = some R) : Ct l yX4_lowest wsX4_lowest ({ frames := 2, cells := 0, slots := 0, locals := 50 } : Room) D ([]) ([]) ([]) [.long p0, .long p1, .int p2] (some (.long R)) := by
  refine ct_of (cc := cX4_lowest) (maxL := 7) (ret := (some .long)) (by decide) rfl (Nat.le_of_ble_eq_true rfl) ?_
  intro p e s m args below meth c A ls X hr hlk hK hA hP hD hS hl
  have X : CallFix p m c cX4_lowest 7 s args wsX4_lowest RX4 := X
  have hl : lv_has ls 7 [(0, .long p0), (2, .long p1), (4, .int p2)] := hl
  rw [f_X4_lowest] at h
  refine lv_lload_n X.1 X.2.1 dX4_lowest_0 rfl (lv_at hl 0 rfl) ?_
  refine lv_lload_n X.1 X.2.1 dX4_lowest_1 rfl (lv_at hl 1 rfl) ?_
  obtain ⟨r1, q2, h⟩ := bd_e h
  refine kc_s (As := [.long p0, .long p1]) (rest := []) X (k_X4_divisor N p0 p1 _ q2) (va_cwS 2 X.2.2.2.2 gX4_lowest_X4_divisor rfl rfl rfl hd_X4_divisor ⟨Nat.le_of_ble_eq_true rfl, Nat.le_of_ble_eq_true rfl⟩) hK hP hS hA rfl hl.1 rfl (Nat.le_of_ble_eq_true rfl) dX4_lowest_2 ⟨Nat.le_of_ble_eq_true rfl, Nat.le_of_ble_eq_true rfl⟩ (fun H locs hP hS => ?_)
  refine lv_lstore (lv' := [(5, .long r1), (0, .long p0), (2, .long p1), (4, .int p2)]) X.1 X.2.1 dX4_lowest_5 hl (by decide) rfl (fun ls hl => ?_)
  refine lv_iload X.1 X.2.1 dX4_lowest_7 (lv_at hl 3 rfl) ?_
  refine lv_if_ne (tgt := 19) X.1 X.2.1 dX4_lowest_9 (by decide) (fun c3 => ?_) (fun c3 => ?_)
  · rw [if_neg c3] at h
    refine lv_iload X.1 X.2.1 dX4_lowest_19 (lv_at hl 3 rfl) ?_
    refine lv_iconst (v := (1 : Int32)) X.1 X.2.1 dX4_lowest_21 (by decide) ?_
    refine lv_icmp_ne (tgt := 32) X.1 X.2.1 dX4_lowest_22 (by decide) (fun c4 => ?_) (fun c4 => ?_)
    · rw [if_neg c4] at h
      refine lv_lconst (v := (0 : Int64)) X.1 X.2.1 dX4_lowest_32 (by decide) ?_
      have h := sm_e h
      subst h
      exact rt_l X hr hlk hK hP hD hS dX4_lowest_33
    · rw [if_pos c4] at h
      refine lv_lload_n X.1 X.2.1 dX4_lowest_25 rfl (lv_at hl 2 rfl) ?_
      refine lv_lload X.1 X.2.1 dX4_lowest_26 (lv_at hl 0 rfl) ?_
      obtain ⟨g5, h⟩ := gd_e h
      refine lv_ldiv X.1 X.2.1 dX4_lowest_28 (nz_e g5) ?_
      refine lv_goto (tgt := 33) X.1 X.2.1 dX4_lowest_29 (by decide) ?_
      have h := sm_e h
      subst h
      exact rt_l X hr hlk hK hP hD hS dX4_lowest_33
  · rw [if_pos c3] at h
    refine lv_lload_n X.1 X.2.1 dX4_lowest_12 rfl (lv_at hl 1 rfl) ?_
    refine lv_lload X.1 X.2.1 dX4_lowest_13 (lv_at hl 0 rfl) ?_
    obtain ⟨g6, h⟩ := gd_e h
    refine lv_ldiv X.1 X.2.1 dX4_lowest_15 (nz_e g6) ?_
    refine lv_goto (tgt := 33) X.1 X.2.1 dX4_lowest_16 (by decide) ?_
    have h := sm_e h
    subst h
    exact rt_l X hr hlk hK hP hD hS dX4_lowest_33
def f_X4_m (p0 : Int32) (p1 : Int32) (μ : MS) : Option Int64 := if (m_pt μ) ≤ p0 then if p1 = ((m_pt μ) + p0) then some (1 : Int64) else if p0 = ((m_pt μ) + p1) then some (-1 : Int64) else some (0 : Int64) else if (m_pt μ) ≤ p1 then if p1 = ((m_pt μ) + p0) then some (1 : Int64) else if p0 = ((m_pt μ) + p1) then some (-1 : Int64) else some (0 : Int64) else (f_X4_qOf p0 p1 μ).bind (fun r7 => some (r7.toInt64))
theorem hd_X4_m : yX4_m.cls = RX4 ∧ yX4_m.cls ≠ "java/lang/invoke/MethodHandle" ∧ yX4_m.cls ≠ "java/lang/invoke/VarHandle" ∧ (parseMethodDescriptor yX4_m.desc).map (fun d => d.parameters.length) = some 2 := by decide +kernel
set_option maxHeartbeats 4000000 in
set_option maxRecDepth 100000 in
theorem k_X4_m {l : Launch} {D : va_G} {k : Nat → ClassId} {a : Nat → Nat} (p0 : Int32) (p1 : Int32) (μ : MS) (R : Int64) (h : f_X4_m p0 p1 μ = some R) : Ct l yX4_m wsX4_m ({ frames := 2, cells := 0, slots := 0, locals := 46 } : Room) D (mT k) (mW k a μ) (mW k a μ) [.ref (a 0), .int p0, .int p1] (some (.long R)) := by
  refine ct_of (cc := cX4_m) (maxL := 3) (ret := (some .long)) (by decide) rfl (Nat.le_of_ble_eq_true rfl) ?_
  intro p e s m args below meth c A ls X hr hlk hK hA hP hD hS hl
  have X : CallFix p m c cX4_m 3 s args wsX4_m RX4 := X
  have hl : lv_has ls 3 [(0, .ref (a 0)), (1, .int p0), (2, .int p1)] := hl
  rw [f_X4_m] at h
  refine lv_iload_n X.1 X.2.1 dX4_m_0 rfl (lv_at hl 1 rfl) ?_
  refine lv_aload_n X.1 X.2.1 dX4_m_1 rfl (lv_at hl 0 rfl) ?_
  refine gX4_points X (fun w h => (List.mem_cons_of_mem _ (List.mem_append_right _ h))) hK hP (List.mem_cons_of_mem _ (List.mem_append_left _ (List.mem_of_getElem? (i := 0) rfl))) dX4_m_2 ?_
  refine lv_icmp_ge (tgt := 26) X.1 X.2.1 dX4_m_5 (by decide) (fun c1 => ?_) (fun c1 => ?_)
  · rw [if_pos c1] at h
    refine lv_iload_n X.1 X.2.1 dX4_m_26 rfl (lv_at hl 2 rfl) ?_
    refine lv_aload_n X.1 X.2.1 dX4_m_27 rfl (lv_at hl 0 rfl) ?_
    refine gX4_points X (fun w h => (List.mem_cons_of_mem _ (List.mem_append_right _ h))) hK hP (List.mem_cons_of_mem _ (List.mem_append_left _ (List.mem_of_getElem? (i := 0) rfl))) dX4_m_28 ?_
    refine lv_iload_n X.1 X.2.1 dX4_m_31 rfl (lv_at hl 1 rfl) ?_
    refine lv_iadd X.1 X.2.1 dX4_m_32 ?_
    refine lv_icmp_ne (tgt := 40) X.1 X.2.1 dX4_m_33 (by decide) (fun c2 => ?_) (fun c2 => ?_)
    · rw [if_neg c2] at h
      refine lv_iload_n X.1 X.2.1 dX4_m_40 rfl (lv_at hl 1 rfl) ?_
      refine lv_aload_n X.1 X.2.1 dX4_m_41 rfl (lv_at hl 0 rfl) ?_
      refine gX4_points X (fun w h => (List.mem_cons_of_mem _ (List.mem_append_right _ h))) hK hP (List.mem_cons_of_mem _ (List.mem_append_left _ (List.mem_of_getElem? (i := 0) rfl))) dX4_m_42 ?_
      refine lv_iload_n X.1 X.2.1 dX4_m_45 rfl (lv_at hl 2 rfl) ?_
      refine lv_iadd X.1 X.2.1 dX4_m_46 ?_
      refine lv_icmp_ne (tgt := 56) X.1 X.2.1 dX4_m_47 (by decide) (fun c3 => ?_) (fun c3 => ?_)
      · rw [if_neg c3] at h
        refine lv_lconst (v := (0 : Int64)) X.1 X.2.1 dX4_m_56 (by decide) ?_
        have h := sm_e h
        subst h
        exact rt_l X hr hlk hK hP hD hS dX4_m_57
      · rw [if_pos c3] at h
        refine lv_ldc2 (v := (-1 : Int64)) X.1 X.2.1 X.2.2.2.1 (X.2.2.2.2 _ (List.mem_cons_of_mem _ (List.mem_append_left _ (List.mem_of_getElem? (i := 1) rfl)))) dX4_m_50 ?_
        refine lv_goto (tgt := 57) X.1 X.2.1 dX4_m_53 (by decide) ?_
        have h := sm_e h
        subst h
        exact rt_l X hr hlk hK hP hD hS dX4_m_57
    · rw [if_pos c2] at h
      refine lv_lconst (v := (1 : Int64)) X.1 X.2.1 dX4_m_36 (by decide) ?_
      refine lv_goto (tgt := 57) X.1 X.2.1 dX4_m_37 (by decide) ?_
      have h := sm_e h
      subst h
      exact rt_l X hr hlk hK hP hD hS dX4_m_57
  · rw [if_neg c1] at h
    refine lv_iload_n X.1 X.2.1 dX4_m_8 rfl (lv_at hl 2 rfl) ?_
    refine lv_aload_n X.1 X.2.1 dX4_m_9 rfl (lv_at hl 0 rfl) ?_
    refine gX4_points X (fun w h => (List.mem_cons_of_mem _ (List.mem_append_right _ h))) hK hP (List.mem_cons_of_mem _ (List.mem_append_left _ (List.mem_of_getElem? (i := 0) rfl))) dX4_m_10 ?_
    refine lv_icmp_ge (tgt := 26) X.1 X.2.1 dX4_m_13 (by decide) (fun c4 => ?_) (fun c4 => ?_)
    · rw [if_pos c4] at h
      refine lv_iload_n X.1 X.2.1 dX4_m_26 rfl (lv_at hl 2 rfl) ?_
      refine lv_aload_n X.1 X.2.1 dX4_m_27 rfl (lv_at hl 0 rfl) ?_
      refine gX4_points X (fun w h => (List.mem_cons_of_mem _ (List.mem_append_right _ h))) hK hP (List.mem_cons_of_mem _ (List.mem_append_left _ (List.mem_of_getElem? (i := 0) rfl))) dX4_m_28 ?_
      refine lv_iload_n X.1 X.2.1 dX4_m_31 rfl (lv_at hl 1 rfl) ?_
      refine lv_iadd X.1 X.2.1 dX4_m_32 ?_
      refine lv_icmp_ne (tgt := 40) X.1 X.2.1 dX4_m_33 (by decide) (fun c5 => ?_) (fun c5 => ?_)
      · rw [if_neg c5] at h
        refine lv_iload_n X.1 X.2.1 dX4_m_40 rfl (lv_at hl 1 rfl) ?_
        refine lv_aload_n X.1 X.2.1 dX4_m_41 rfl (lv_at hl 0 rfl) ?_
        refine gX4_points X (fun w h => (List.mem_cons_of_mem _ (List.mem_append_right _ h))) hK hP (List.mem_cons_of_mem _ (List.mem_append_left _ (List.mem_of_getElem? (i := 0) rfl))) dX4_m_42 ?_
        refine lv_iload_n X.1 X.2.1 dX4_m_45 rfl (lv_at hl 2 rfl) ?_
        refine lv_iadd X.1 X.2.1 dX4_m_46 ?_
        refine lv_icmp_ne (tgt := 56) X.1 X.2.1 dX4_m_47 (by decide) (fun c6 => ?_) (fun c6 => ?_)
        · rw [if_neg c6] at h
          refine lv_lconst (v := (0 : Int64)) X.1 X.2.1 dX4_m_56 (by decide) ?_
          have h := sm_e h
          subst h
          exact rt_l X hr hlk hK hP hD hS dX4_m_57
        · rw [if_pos c6] at h
          refine lv_ldc2 (v := (-1 : Int64)) X.1 X.2.1 X.2.2.2.1 (X.2.2.2.2 _ (List.mem_cons_of_mem _ (List.mem_append_left _ (List.mem_of_getElem? (i := 1) rfl)))) dX4_m_50 ?_
          refine lv_goto (tgt := 57) X.1 X.2.1 dX4_m_53 (by decide) ?_
          have h := sm_e h
          subst h
          exact rt_l X hr hlk hK hP hD hS dX4_m_57
      · rw [if_pos c5] at h
        refine lv_lconst (v := (1 : Int64)) X.1 X.2.1 dX4_m_36 (by decide) ?_
        refine lv_goto (tgt := 57) X.1 X.2.1 dX4_m_37 (by decide) ?_
        have h := sm_e h
        subst h
        exact rt_l X hr hlk hK hP hD hS dX4_m_57
    · rw [if_neg c4] at h
      refine lv_aload_n X.1 X.2.1 dX4_m_16 rfl (lv_at hl 0 rfl) ?_
      refine lv_iload_n X.1 X.2.1 dX4_m_17 rfl (lv_at hl 1 rfl) ?_
      refine lv_iload_n X.1 X.2.1 dX4_m_18 rfl (lv_at hl 2 rfl) ?_
      obtain ⟨r7, q8, h⟩ := bd_e h
      refine kc_v (As := [.int p0, .int p1]) (rest := []) X (k_X4_qOf p0 p1 μ _ q8) (cwV 2 X.2.2.2.2 gX4_m_X4_qOf rfl rfl rfl hd_X4_qOf ⟨Nat.le_of_ble_eq_true rfl, Nat.le_of_ble_eq_true rfl⟩) hK hP hD hS hA (va_recv hK hP (ci := 3) (q0 := 0) rfl rfl) rfl hl.1 rfl (Nat.le_of_ble_eq_true rfl) dX4_m_19 ⟨Nat.le_of_ble_eq_true rfl, Nat.le_of_ble_eq_true rfl⟩ (fun H locs hP hD hS => ?_)
      refine lv_i2l (v := r7.toInt64) X.1 X.2.1 dX4_m_22 rfl ?_
      refine lv_goto (tgt := 57) X.1 X.2.1 dX4_m_23 (by decide) ?_
      have h := sm_e h
      subst h
      exact rt_l X hr hlk hK hP hD hS dX4_m_57
def f_X4_columnQ (μ : MS) : Option Int32 := some (((2 : Int32) * (m_rw μ)) + (1 : Int32))
theorem hd_X4_columnQ : yX4_columnQ.cls = RX4 ∧ yX4_columnQ.cls ≠ "java/lang/invoke/MethodHandle" ∧ yX4_columnQ.cls ≠ "java/lang/invoke/VarHandle" ∧ (parseMethodDescriptor yX4_columnQ.desc).map (fun d => d.parameters.length) = some 0 := by decide +kernel
set_option maxHeartbeats 4000000 in
set_option maxRecDepth 100000 in
theorem k_X4_columnQ {l : Launch} {D : va_G} {k : Nat → ClassId} {a : Nat → Nat}  (μ : MS) (R : Int32) (h : f_X4_columnQ μ = some R) : Ct l yX4_columnQ wsX4_columnQ ({ frames := 0, cells := 0, slots := 0, locals := 0 } : Room) D (mT k) (mW k a μ) (mW k a μ) [.ref (a 0)] (some (.int R)) := by
  refine ct_of (cc := cX4_columnQ) (maxL := 1) (ret := (some .int)) (by decide) rfl (Nat.le_of_ble_eq_true rfl) ?_
  intro p e s m args below meth c A ls X hr hlk hK hA hP hD hS hl
  have X : CallFix p m c cX4_columnQ 1 s args wsX4_columnQ RX4 := X
  have hl : lv_has ls 1 [(0, .ref (a 0))] := hl
  rw [f_X4_columnQ] at h
  refine lv_iconst (v := (2 : Int32)) X.1 X.2.1 dX4_columnQ_0 (by decide) ?_
  refine lv_aload_n X.1 X.2.1 dX4_columnQ_1 rfl (lv_at hl 0 rfl) ?_
  refine gX4_rows X (fun w h => (List.mem_cons_of_mem _ (List.mem_append_right _ h))) hK hP (List.mem_cons_of_mem _ (List.mem_append_left _ (List.mem_of_getElem? (i := 0) rfl))) dX4_columnQ_2 ?_
  refine lv_imul X.1 X.2.1 dX4_columnQ_5 ?_
  refine lv_iconst (v := (1 : Int32)) X.1 X.2.1 dX4_columnQ_6 (by decide) ?_
  refine lv_iadd X.1 X.2.1 dX4_columnQ_7 ?_
  have h := sm_e h
  subst h
  exact rt_i X hr hlk hK hP hD hS dX4_columnQ_8
def f_X4_begin_L53 (N : Nat) : Nat → Int32 → Int32 → MS → Option MS
  | 0, _, _, _ => none
  | n + 1, v1, v2, μ => if (m_rw μ) ≤ v2 then some μ else if v2 = v1 then gd (inB (((26 : Int32) * v1) + v2) 312) (lt_ (n_tb μ (vp_updL (m_tb μ) (((26 : Int32) * v1) + v2).toNatClampNeg (1 : Int64))) (fun μ14 => (f_X4_m v1 v2 μ14).bind (fun r16 => gd (inB ((((26 : Int32) * v1) + (m_rw μ14)) + v2) 312) (lt_ (n_tb μ14 (vp_updL (m_tb μ14) ((((26 : Int32) * v1) + (m_rw μ14)) + v2).toNatClampNeg (-r16))) (fun μ19 => lt_ (v2 + (1 : Int32)) (fun x21 => f_X4_begin_L53 N n v1 x21 μ19)))))) else gd (inB (((26 : Int32) * v1) + v2) 312) (lt_ (n_tb μ (vp_updL (m_tb μ) (((26 : Int32) * v1) + v2).toNatClampNeg (0 : Int64))) (fun μ4 => (f_X4_m v1 v2 μ4).bind (fun r6 => gd (inB ((((26 : Int32) * v1) + (m_rw μ4)) + v2) 312) (lt_ (n_tb μ4 (vp_updL (m_tb μ4) ((((26 : Int32) * v1) + (m_rw μ4)) + v2).toNatClampNeg (-r6))) (fun μ9 => lt_ (v2 + (1 : Int32)) (fun x11 => f_X4_begin_L53 N n v1 x11 μ9))))))
set_option maxHeartbeats 4000000 in
set_option maxRecDepth 100000 in
theorem t_X4_begin_L53 {p : Program} {l : Launch} {e : Env} {s : State} {m : MethodId} {args : Array Value} {below : List Frame} {meth : Method} {c : Code} {D : va_G} {A : Nat → Prop} {k : Nat → ClassId} {a : Nat → Nat} (X : CallFix p m c cX4_begin 3 s args wsX4_begin RX4) (hK : va_K D vwCl (mT k) s) (hA : ∀ q : Nat, s.heap.size ≤ q → A q) (N : Nat) {Q : State → Prop} : ∀ (n : Nat) (v1 : Int32) (v2 : Int32) (μ : MS) (R : MS), f_X4_begin_L53 N n v1 v2 μ = some R → ∀ (H : Heap) (locs : List Loc) (ls : Array Slot), va_P D vwCl (mW k a μ) H → va_D A (mW k a μ) → va_S A s.heap H locs → lv_has ls 3 [(0, .ref (a 0)), (1, .int v1), (2, .int v2)] → (∀ (H : Heap) (locs : List Loc) (ls : Array Slot), va_P D vwCl (mW k a R) H → va_D A (mW k a R) → va_S A s.heap H locs → lv_has ls 3 [(0, .ref (a 0)), (1, .int v1)] → W p l e ({ frames := 3, cells := 0, slots := 0, locals := 68 } : Room) s m args below meth c H locs 0 0 Q (F0 m 111 ls [])) → W p l e ({ frames := 3, cells := 0, slots := 0, locals := 68 } : Room) s m args below meth c H locs 0 0 Q (F0 m 53 ls []) := by
  intro n
  induction n with
  | zero =>
    intro v1 v2 μ R h
    exact absurd h (by simp [f_X4_begin_L53])
  | succ n ih =>
    intro v1 v2 μ R h H locs ls hP hD hS hl kk
    rw [f_X4_begin_L53] at h
    refine lv_iload_n X.1 X.2.1 dX4_begin_53 rfl (lv_at hl 2 rfl) ?_
    refine lv_aload_n X.1 X.2.1 dX4_begin_54 rfl (lv_at hl 0 rfl) ?_
    refine gX4_rows X (fun w h => (List.mem_cons_of_mem _ (List.mem_append_right _ h))) hK hP (List.mem_cons_of_mem _ (List.mem_append_left _ (List.mem_append_left _ (List.mem_of_getElem? (i := 2) rfl)))) dX4_begin_55 ?_
    refine lv_icmp_ge (tgt := 111) X.1 X.2.1 dX4_begin_58 (by decide) (fun c1 => ?_) (fun c1 => ?_)
    · rw [if_pos c1] at h
      have h := sm_e h
      subst h
      exact kk _ _ _ hP hD hS (lv_sub hl [0, 1] rfl)
    · rw [if_neg c1] at h
      refine lv_aload_n X.1 X.2.1 dX4_begin_61 rfl (lv_at hl 0 rfl) ?_
      refine gX4_table X (fun w h => (List.mem_cons_of_mem _ (List.mem_append_right _ h))) hK hP (List.mem_cons_of_mem _ (List.mem_append_left _ (List.mem_append_left _ (List.mem_of_getElem? (i := 5) rfl)))) dX4_begin_62 ?_
      refine lv_bipush (v := (26 : Int32)) X.1 X.2.1 dX4_begin_65 (by decide) ?_
      refine lv_iload_n X.1 X.2.1 dX4_begin_67 rfl (lv_at hl 1 rfl) ?_
      refine lv_imul X.1 X.2.1 dX4_begin_68 ?_
      refine lv_iload_n X.1 X.2.1 dX4_begin_69 rfl (lv_at hl 2 rfl) ?_
      refine lv_iadd X.1 X.2.1 dX4_begin_70 ?_
      refine lv_iload_n X.1 X.2.1 dX4_begin_71 rfl (lv_at hl 2 rfl) ?_
      refine lv_iload_n X.1 X.2.1 dX4_begin_72 rfl (lv_at hl 1 rfl) ?_
      refine lv_icmp_ne (tgt := 80) X.1 X.2.1 dX4_begin_73 (by decide) (fun c2 => ?_) (fun c2 => ?_)
      · rw [if_neg c2] at h
        refine lv_lconst (v := (0 : Int64)) X.1 X.2.1 dX4_begin_80 (by decide) ?_
        obtain ⟨g3, h⟩ := gd_e h
        obtain ⟨μ4, e5, h⟩ := lt_e h
        refine tm_tb X hK hP hD hS g3 e5 dX4_begin_81 (fun H locs hP hD hS => ?_)
        refine lv_aload_n X.1 X.2.1 dX4_begin_82 rfl (lv_at hl 0 rfl) ?_
        refine gX4_table X (fun w h => (List.mem_cons_of_mem _ (List.mem_append_right _ h))) hK hP (List.mem_cons_of_mem _ (List.mem_append_left _ (List.mem_append_left _ (List.mem_of_getElem? (i := 5) rfl)))) dX4_begin_83 ?_
        refine lv_bipush (v := (26 : Int32)) X.1 X.2.1 dX4_begin_86 (by decide) ?_
        refine lv_iload_n X.1 X.2.1 dX4_begin_88 rfl (lv_at hl 1 rfl) ?_
        refine lv_imul X.1 X.2.1 dX4_begin_89 ?_
        refine lv_aload_n X.1 X.2.1 dX4_begin_90 rfl (lv_at hl 0 rfl) ?_
        refine gX4_rows X (fun w h => (List.mem_cons_of_mem _ (List.mem_append_right _ h))) hK hP (List.mem_cons_of_mem _ (List.mem_append_left _ (List.mem_append_left _ (List.mem_of_getElem? (i := 2) rfl)))) dX4_begin_91 ?_
        refine lv_iadd X.1 X.2.1 dX4_begin_94 ?_
        refine lv_iload_n X.1 X.2.1 dX4_begin_95 rfl (lv_at hl 2 rfl) ?_
        refine lv_iadd X.1 X.2.1 dX4_begin_96 ?_
        refine lv_aload_n X.1 X.2.1 dX4_begin_97 rfl (lv_at hl 0 rfl) ?_
        refine lv_iload_n X.1 X.2.1 dX4_begin_98 rfl (lv_at hl 1 rfl) ?_
        refine lv_iload_n X.1 X.2.1 dX4_begin_99 rfl (lv_at hl 2 rfl) ?_
        obtain ⟨r6, q7, h⟩ := bd_e h
        refine kc_v (As := [.int v1, .int v2]) (rest := [.int ((((26 : Int32) * v1) + (m_rw μ4)) + v2), .ref (a 4)]) X (k_X4_m v1 v2 μ4 _ q7) (cwV 2 X.2.2.2.2 gX4_begin_X4_m rfl rfl rfl hd_X4_m ⟨Nat.le_of_ble_eq_true rfl, Nat.le_of_ble_eq_true rfl⟩) hK hP hD hS hA (va_recv hK hP (ci := 3) (q0 := 0) rfl rfl) rfl hl.1 rfl (Nat.le_of_ble_eq_true rfl) dX4_begin_100 ⟨Nat.le_of_ble_eq_true rfl, Nat.le_of_ble_eq_true rfl⟩ (fun H locs hP hD hS => ?_)
        refine lv_lneg X.1 X.2.1 dX4_begin_103 ?_
        obtain ⟨g8, h⟩ := gd_e h
        obtain ⟨μ9, e10, h⟩ := lt_e h
        refine tm_tb X hK hP hD hS g8 e10 dX4_begin_104 (fun H locs hP hD hS => ?_)
        obtain ⟨x11, e12, h⟩ := lt_e h
        refine lv_iinc (v := x11) (lv' := [(2, .int x11), (0, .ref (a 0)), (1, .int v1)]) X.1 X.2.1 dX4_begin_105 hl (k := 2) rfl e12.symm (by decide) rfl (fun ls hl => ?_)
        refine lv_goto (tgt := 53) X.1 X.2.1 dX4_begin_108 (by decide) ?_
        exact ih v1 x11 μ9 _ h _ _ _ hP hD hS (lv_sub hl [1, 2, 0] rfl) kk
      · rw [if_pos c2] at h
        refine lv_lconst (v := (1 : Int64)) X.1 X.2.1 dX4_begin_76 (by decide) ?_
        refine lv_goto (tgt := 81) X.1 X.2.1 dX4_begin_77 (by decide) ?_
        obtain ⟨g13, h⟩ := gd_e h
        obtain ⟨μ14, e15, h⟩ := lt_e h
        refine tm_tb X hK hP hD hS g13 e15 dX4_begin_81 (fun H locs hP hD hS => ?_)
        refine lv_aload_n X.1 X.2.1 dX4_begin_82 rfl (lv_at hl 0 rfl) ?_
        refine gX4_table X (fun w h => (List.mem_cons_of_mem _ (List.mem_append_right _ h))) hK hP (List.mem_cons_of_mem _ (List.mem_append_left _ (List.mem_append_left _ (List.mem_of_getElem? (i := 5) rfl)))) dX4_begin_83 ?_
        refine lv_bipush (v := (26 : Int32)) X.1 X.2.1 dX4_begin_86 (by decide) ?_
        refine lv_iload_n X.1 X.2.1 dX4_begin_88 rfl (lv_at hl 1 rfl) ?_
        refine lv_imul X.1 X.2.1 dX4_begin_89 ?_
        refine lv_aload_n X.1 X.2.1 dX4_begin_90 rfl (lv_at hl 0 rfl) ?_
        refine gX4_rows X (fun w h => (List.mem_cons_of_mem _ (List.mem_append_right _ h))) hK hP (List.mem_cons_of_mem _ (List.mem_append_left _ (List.mem_append_left _ (List.mem_of_getElem? (i := 2) rfl)))) dX4_begin_91 ?_
        refine lv_iadd X.1 X.2.1 dX4_begin_94 ?_
        refine lv_iload_n X.1 X.2.1 dX4_begin_95 rfl (lv_at hl 2 rfl) ?_
        refine lv_iadd X.1 X.2.1 dX4_begin_96 ?_
        refine lv_aload_n X.1 X.2.1 dX4_begin_97 rfl (lv_at hl 0 rfl) ?_
        refine lv_iload_n X.1 X.2.1 dX4_begin_98 rfl (lv_at hl 1 rfl) ?_
        refine lv_iload_n X.1 X.2.1 dX4_begin_99 rfl (lv_at hl 2 rfl) ?_
        obtain ⟨r16, q17, h⟩ := bd_e h
        refine kc_v (As := [.int v1, .int v2]) (rest := [.int ((((26 : Int32) * v1) + (m_rw μ14)) + v2), .ref (a 4)]) X (k_X4_m v1 v2 μ14 _ q17) (cwV 2 X.2.2.2.2 gX4_begin_X4_m rfl rfl rfl hd_X4_m ⟨Nat.le_of_ble_eq_true rfl, Nat.le_of_ble_eq_true rfl⟩) hK hP hD hS hA (va_recv hK hP (ci := 3) (q0 := 0) rfl rfl) rfl hl.1 rfl (Nat.le_of_ble_eq_true rfl) dX4_begin_100 ⟨Nat.le_of_ble_eq_true rfl, Nat.le_of_ble_eq_true rfl⟩ (fun H locs hP hD hS => ?_)
        refine lv_lneg X.1 X.2.1 dX4_begin_103 ?_
        obtain ⟨g18, h⟩ := gd_e h
        obtain ⟨μ19, e20, h⟩ := lt_e h
        refine tm_tb X hK hP hD hS g18 e20 dX4_begin_104 (fun H locs hP hD hS => ?_)
        obtain ⟨x21, e22, h⟩ := lt_e h
        refine lv_iinc (v := x21) (lv' := [(2, .int x21), (0, .ref (a 0)), (1, .int v1)]) X.1 X.2.1 dX4_begin_105 hl (k := 2) rfl e22.symm (by decide) rfl (fun ls hl => ?_)
        refine lv_goto (tgt := 53) X.1 X.2.1 dX4_begin_108 (by decide) ?_
        exact ih v1 x21 μ19 _ h _ _ _ hP hD hS (lv_sub hl [1, 2, 0] rfl) kk
def f_X4_begin_L36 (N : Nat) : Nat → Int32 → MS → Option (Int32 × MS)
  | 0, _, _ => none
  | n + 1, v1, μ => if (m_rw μ) ≤ v1 then some ((m_rw μ), μ) else gd (inB v1 12) (lt_ (n_tl μ (upd (m_tl μ) v1.toNatClampNeg v1)) (fun μ3 => (f_X4_begin_L53 N N v1 (0 : Int32) μ3).bind (fun r23 => gd (inB (((26 : Int32) * v1) + ((2 : Int32) * (m_rw r23))) 312) (lt_ (n_tb r23 (vp_updL (m_tb r23) (((26 : Int32) * v1) + ((2 : Int32) * (m_rw r23))).toNatClampNeg (-1 : Int64))) (fun μ26 => (f_X4_columnQ μ26).bind (fun r28 => if (m_pt μ26) ≤ v1 then gd (inB (((26 : Int32) * v1) + r28) 312) (lt_ (n_tb μ26 (vp_updL (m_tb μ26) (((26 : Int32) * v1) + r28).toNatClampNeg ((m_bA μ26).toInt64))) (fun μ32 => lt_ (v1 + (1 : Int32)) (fun x34 => f_X4_begin_L36 N n x34 μ32))) else gd (inB (((26 : Int32) * v1) + r28) 312) (lt_ (n_tb μ26 (vp_updL (m_tb μ26) (((26 : Int32) * v1) + r28).toNatClampNeg ((-(m_bB μ26)).toInt64))) (fun μ37 => lt_ (v1 + (1 : Int32)) (fun x39 => f_X4_begin_L36 N n x39 μ37)))))))))
set_option maxHeartbeats 4000000 in
set_option maxRecDepth 100000 in
theorem t_X4_begin_L36 {p : Program} {l : Launch} {e : Env} {s : State} {m : MethodId} {args : Array Value} {below : List Frame} {meth : Method} {c : Code} {D : va_G} {A : Nat → Prop} {k : Nat → ClassId} {a : Nat → Nat} (X : CallFix p m c cX4_begin 3 s args wsX4_begin RX4) (hr : meth.sig.returnType = some .int) (hlk : meth.locks = false) (hK : va_K D vwCl (mT k) s) (hA : ∀ q : Nat, s.heap.size ≤ q → A q) (N : Nat) : ∀ (n : Nat) (v1 : Int32) (μ : MS) (R : (Int32 × MS)), f_X4_begin_L36 N n v1 μ = some R → ∀ (H : Heap) (locs : List Loc) (ls : Array Slot), va_P D vwCl (mW k a μ) H → va_D A (mW k a μ) → va_S A s.heap H locs → lv_has ls 3 [(0, .ref (a 0)), (1, .int v1)] → W p l e ({ frames := 3, cells := 0, slots := 0, locals := 68 } : Room) s m args below meth c H locs 0 0 (MQ below (cQ D (mT k) A (mW k a R.2) (some (.int R.1))) args s 0 0 A) (F0 m 36 ls []) := by
  intro n
  induction n with
  | zero =>
    intro v1 μ R h
    exact absurd h (by simp [f_X4_begin_L36])
  | succ n ih =>
    intro v1 μ R h H locs ls hP hD hS hl
    rw [f_X4_begin_L36] at h
    refine lv_iload_n X.1 X.2.1 dX4_begin_36 rfl (lv_at hl 1 rfl) ?_
    refine lv_aload_n X.1 X.2.1 dX4_begin_37 rfl (lv_at hl 0 rfl) ?_
    refine gX4_rows X (fun w h => (List.mem_cons_of_mem _ (List.mem_append_right _ h))) hK hP (List.mem_cons_of_mem _ (List.mem_append_left _ (List.mem_append_left _ (List.mem_of_getElem? (i := 2) rfl)))) dX4_begin_38 ?_
    refine lv_icmp_ge (tgt := 172) X.1 X.2.1 dX4_begin_41 (by decide) (fun c1 => ?_) (fun c1 => ?_)
    · rw [if_pos c1] at h
      refine lv_aload_n X.1 X.2.1 dX4_begin_172 rfl (lv_at hl 0 rfl) ?_
      refine gX4_rows X (fun w h => (List.mem_cons_of_mem _ (List.mem_append_right _ h))) hK hP (List.mem_cons_of_mem _ (List.mem_append_left _ (List.mem_append_left _ (List.mem_of_getElem? (i := 2) rfl)))) dX4_begin_173 ?_
      have h := sm_e h
      subst h
      exact rt_i X hr hlk hK hP hD hS dX4_begin_176
    · rw [if_neg c1] at h
      refine lv_aload_n X.1 X.2.1 dX4_begin_44 rfl (lv_at hl 0 rfl) ?_
      refine gX4_tells X (fun w h => (List.mem_cons_of_mem _ (List.mem_append_right _ h))) hK hP (List.mem_cons_of_mem _ (List.mem_append_left _ (List.mem_append_left _ (List.mem_of_getElem? (i := 4) rfl)))) dX4_begin_45 ?_
      refine lv_iload_n X.1 X.2.1 dX4_begin_48 rfl (lv_at hl 1 rfl) ?_
      refine lv_iload_n X.1 X.2.1 dX4_begin_49 rfl (lv_at hl 1 rfl) ?_
      obtain ⟨g2, h⟩ := gd_e h
      obtain ⟨μ3, e4, h⟩ := lt_e h
      refine tm_tl X hK hP hD hS g2 e4 dX4_begin_50 (fun H locs hP hD hS => ?_)
      refine lv_iconst (v := (0 : Int32)) X.1 X.2.1 dX4_begin_51 (by decide) ?_
      refine lv_istore_n (lv' := [(2, .int (0 : Int32)), (0, .ref (a 0)), (1, .int v1)]) X.1 X.2.1 dX4_begin_52 rfl hl (by decide) rfl (fun ls hl => ?_)
      obtain ⟨r23, q24, h⟩ := bd_e h
      refine t_X4_begin_L53 X hK hA N N v1 (0 : Int32) μ3 _ q24 _ _ _ hP hD hS (lv_sub hl [1, 2, 0] rfl) (fun H locs ls hP hD hS hl => ?_)
      refine lv_aload_n X.1 X.2.1 dX4_begin_111 rfl (lv_at hl 0 rfl) ?_
      refine gX4_table X (fun w h => (List.mem_cons_of_mem _ (List.mem_append_right _ h))) hK hP (List.mem_cons_of_mem _ (List.mem_append_left _ (List.mem_append_left _ (List.mem_of_getElem? (i := 5) rfl)))) dX4_begin_112 ?_
      refine lv_bipush (v := (26 : Int32)) X.1 X.2.1 dX4_begin_115 (by decide) ?_
      refine lv_iload_n X.1 X.2.1 dX4_begin_117 rfl (lv_at hl 1 rfl) ?_
      refine lv_imul X.1 X.2.1 dX4_begin_118 ?_
      refine lv_iconst (v := (2 : Int32)) X.1 X.2.1 dX4_begin_119 (by decide) ?_
      refine lv_aload_n X.1 X.2.1 dX4_begin_120 rfl (lv_at hl 0 rfl) ?_
      refine gX4_rows X (fun w h => (List.mem_cons_of_mem _ (List.mem_append_right _ h))) hK hP (List.mem_cons_of_mem _ (List.mem_append_left _ (List.mem_append_left _ (List.mem_of_getElem? (i := 2) rfl)))) dX4_begin_121 ?_
      refine lv_imul X.1 X.2.1 dX4_begin_124 ?_
      refine lv_iadd X.1 X.2.1 dX4_begin_125 ?_
      refine lv_ldc2 (v := (-1 : Int64)) X.1 X.2.1 X.2.2.2.1 (X.2.2.2.2 _ (List.mem_cons_of_mem _ (List.mem_append_left _ (List.mem_append_left _ (List.mem_of_getElem? (i := 6) rfl))))) dX4_begin_126 ?_
      obtain ⟨g25, h⟩ := gd_e h
      obtain ⟨μ26, e27, h⟩ := lt_e h
      refine tm_tb X hK hP hD hS g25 e27 dX4_begin_129 (fun H locs hP hD hS => ?_)
      refine lv_aload_n X.1 X.2.1 dX4_begin_130 rfl (lv_at hl 0 rfl) ?_
      refine gX4_table X (fun w h => (List.mem_cons_of_mem _ (List.mem_append_right _ h))) hK hP (List.mem_cons_of_mem _ (List.mem_append_left _ (List.mem_append_left _ (List.mem_of_getElem? (i := 5) rfl)))) dX4_begin_131 ?_
      refine lv_bipush (v := (26 : Int32)) X.1 X.2.1 dX4_begin_134 (by decide) ?_
      refine lv_iload_n X.1 X.2.1 dX4_begin_136 rfl (lv_at hl 1 rfl) ?_
      refine lv_imul X.1 X.2.1 dX4_begin_137 ?_
      refine lv_aload_n X.1 X.2.1 dX4_begin_138 rfl (lv_at hl 0 rfl) ?_
      obtain ⟨r28, q29, h⟩ := bd_e h
      refine kc_v (As := []) (rest := [.int ((26 : Int32) * v1), .ref (a 4)]) X (k_X4_columnQ μ26 _ q29) (cwV 0 X.2.2.2.2 gX4_begin_X4_columnQ rfl rfl rfl hd_X4_columnQ ⟨Nat.le_of_ble_eq_true rfl, Nat.le_of_ble_eq_true rfl⟩) hK hP hD hS hA (va_recv hK hP (ci := 3) (q0 := 0) rfl rfl) rfl hl.1 rfl (Nat.le_of_ble_eq_true rfl) dX4_begin_139 ⟨Nat.le_of_ble_eq_true rfl, Nat.le_of_ble_eq_true rfl⟩ (fun H locs hP hD hS => ?_)
      refine lv_iadd X.1 X.2.1 dX4_begin_142 ?_
      refine lv_iload_n X.1 X.2.1 dX4_begin_143 rfl (lv_at hl 1 rfl) ?_
      refine lv_aload_n X.1 X.2.1 dX4_begin_144 rfl (lv_at hl 0 rfl) ?_
      refine gX4_points X (fun w h => (List.mem_cons_of_mem _ (List.mem_append_right _ h))) hK hP (List.mem_cons_of_mem _ (List.mem_append_left _ (List.mem_append_left _ (List.mem_of_getElem? (i := 0) rfl)))) dX4_begin_145 ?_
      refine lv_icmp_ge (tgt := 160) X.1 X.2.1 dX4_begin_148 (by decide) (fun c30 => ?_) (fun c30 => ?_)
      · rw [if_pos c30] at h
        refine lv_aload_n X.1 X.2.1 dX4_begin_160 rfl (lv_at hl 0 rfl) ?_
        refine gX4_boxAbove X (fun w h => (List.mem_cons_of_mem _ (List.mem_append_right _ h))) hK hP (List.mem_cons_of_mem _ (List.mem_append_left _ (List.mem_append_left _ (List.mem_of_getElem? (i := 8) rfl)))) dX4_begin_161 ?_
        refine lv_i2l (v := (m_bA μ26).toInt64) X.1 X.2.1 dX4_begin_164 rfl ?_
        obtain ⟨g31, h⟩ := gd_e h
        obtain ⟨μ32, e33, h⟩ := lt_e h
        refine tm_tb X hK hP hD hS g31 e33 dX4_begin_165 (fun H locs hP hD hS => ?_)
        obtain ⟨x34, e35, h⟩ := lt_e h
        refine lv_iinc (v := x34) (lv' := [(1, .int x34), (0, .ref (a 0))]) X.1 X.2.1 dX4_begin_166 hl (k := 1) rfl e35.symm (by decide) rfl (fun ls hl => ?_)
        refine lv_goto (tgt := 36) X.1 X.2.1 dX4_begin_169 (by decide) ?_
        exact ih x34 μ32 _ h _ _ _ hP hD hS (lv_sub hl [1, 0] rfl)
      · rw [if_neg c30] at h
        refine lv_aload_n X.1 X.2.1 dX4_begin_151 rfl (lv_at hl 0 rfl) ?_
        refine gX4_boxBelow X (fun w h => (List.mem_cons_of_mem _ (List.mem_append_right _ h))) hK hP (List.mem_cons_of_mem _ (List.mem_append_left _ (List.mem_append_left _ (List.mem_of_getElem? (i := 7) rfl)))) dX4_begin_152 ?_
        refine lv_ineg X.1 X.2.1 dX4_begin_155 ?_
        refine lv_i2l (v := (-(m_bB μ26)).toInt64) X.1 X.2.1 dX4_begin_156 rfl ?_
        refine lv_goto (tgt := 165) X.1 X.2.1 dX4_begin_157 (by decide) ?_
        obtain ⟨g36, h⟩ := gd_e h
        obtain ⟨μ37, e38, h⟩ := lt_e h
        refine tm_tb X hK hP hD hS g36 e38 dX4_begin_165 (fun H locs hP hD hS => ?_)
        obtain ⟨x39, e40, h⟩ := lt_e h
        refine lv_iinc (v := x39) (lv' := [(1, .int x39), (0, .ref (a 0))]) X.1 X.2.1 dX4_begin_166 hl (k := 1) rfl e40.symm (by decide) rfl (fun ls hl => ?_)
        refine lv_goto (tgt := 36) X.1 X.2.1 dX4_begin_169 (by decide) ?_
        exact ih x39 μ37 _ h _ _ _ hP hD hS (lv_sub hl [1, 0] rfl)
def f_X4_begin (N : Nat) (μ : MS) : Option (Int32 × MS) := if (m_pt μ) = 0 then some ((-3 : Int32), μ) else (f_X4_forgets μ).bind (fun r2 => gd (isZ (1 : Int32)) (lt_ (n_bg r2 (1 : Int32)) (fun μ5 => lt_ (n_rw μ5 ((2 : Int32) * (m_pt μ5))) (fun μ7 => lt_ (n_bl μ7 (1 : Int64)) (fun μ9 => f_X4_begin_L36 N N (0 : Int32) μ9)))))
theorem hd_X4_begin : yX4_begin.cls = RX4 ∧ yX4_begin.cls ≠ "java/lang/invoke/MethodHandle" ∧ yX4_begin.cls ≠ "java/lang/invoke/VarHandle" ∧ (parseMethodDescriptor yX4_begin.desc).map (fun d => d.parameters.length) = some 0 := by decide +kernel
set_option maxHeartbeats 4000000 in
set_option maxRecDepth 100000 in
theorem k_X4_begin {l : Launch} {D : va_G} {k : Nat → ClassId} {a : Nat → Nat} (N : Nat)  (μ : MS) (R : (Int32 × MS)) (h : f_X4_begin N μ = some R) : Ct l yX4_begin wsX4_begin ({ frames := 3, cells := 0, slots := 0, locals := 68 } : Room) D (mT k) (mW k a μ) (mW k a R.2) [.ref (a 0)] (some (.int R.1)) := by
  refine ct_of (cc := cX4_begin) (maxL := 3) (ret := (some .int)) (by decide) rfl (Nat.le_of_ble_eq_true rfl) ?_
  intro p e s m args below meth c A ls X hr hlk hK hA hP hD hS hl
  have X : CallFix p m c cX4_begin 3 s args wsX4_begin RX4 := X
  have hl : lv_has ls 3 [(0, .ref (a 0))] := hl
  rw [f_X4_begin] at h
  refine lv_aload_n X.1 X.2.1 dX4_begin_0 rfl (lv_at hl 0 rfl) ?_
  refine gX4_points X (fun w h => (List.mem_cons_of_mem _ (List.mem_append_right _ h))) hK hP (List.mem_cons_of_mem _ (List.mem_append_left _ (List.mem_append_left _ (List.mem_of_getElem? (i := 0) rfl)))) dX4_begin_1 ?_
  refine lv_if_ne (tgt := 10) X.1 X.2.1 dX4_begin_4 (by decide) (fun c1 => ?_) (fun c1 => ?_)
  · rw [if_neg c1] at h
    refine lv_aload_n X.1 X.2.1 dX4_begin_10 rfl (lv_at hl 0 rfl) ?_
    obtain ⟨r2, q3, h⟩ := bd_e h
    refine kc_v (As := []) (rest := []) X (k_X4_forgets μ _ q3) (cwV 0 X.2.2.2.2 gX4_begin_X4_forgets rfl rfl rfl hd_X4_forgets ⟨Nat.le_of_ble_eq_true rfl, Nat.le_of_ble_eq_true rfl⟩) hK hP hD hS hA (va_recv hK hP (ci := 3) (q0 := 0) rfl rfl) rfl hl.1 rfl (Nat.le_of_ble_eq_true rfl) dX4_begin_11 ⟨Nat.le_of_ble_eq_true rfl, Nat.le_of_ble_eq_true rfl⟩ (fun H locs hP hD hS => ?_)
    refine lv_aload_n X.1 X.2.1 dX4_begin_14 rfl (lv_at hl 0 rfl) ?_
    refine lv_iconst (v := (1 : Int32)) X.1 X.2.1 dX4_begin_15 (by decide) ?_
    obtain ⟨g4, h⟩ := gd_e h
    obtain ⟨μ5, e6, h⟩ := lt_e h
    refine pX4_isBegun X (fun w h => (List.mem_cons_of_mem _ (List.mem_append_right _ h))) hK hP hD hS g4 (List.mem_cons_of_mem _ (List.mem_append_left _ (List.mem_append_left _ (List.mem_of_getElem? (i := 1) rfl)))) e6 dX4_begin_16 (fun H locs hP hD hS => ?_)
    refine lv_aload_n X.1 X.2.1 dX4_begin_19 rfl (lv_at hl 0 rfl) ?_
    refine lv_iconst (v := (2 : Int32)) X.1 X.2.1 dX4_begin_20 (by decide) ?_
    refine lv_aload_n X.1 X.2.1 dX4_begin_21 rfl (lv_at hl 0 rfl) ?_
    refine gX4_points X (fun w h => (List.mem_cons_of_mem _ (List.mem_append_right _ h))) hK hP (List.mem_cons_of_mem _ (List.mem_append_left _ (List.mem_append_left _ (List.mem_of_getElem? (i := 0) rfl)))) dX4_begin_22 ?_
    refine lv_imul X.1 X.2.1 dX4_begin_25 ?_
    obtain ⟨μ7, e8, h⟩ := lt_e h
    refine pX4_rows X (fun w h => (List.mem_cons_of_mem _ (List.mem_append_right _ h))) hK hP hD hS (List.mem_cons_of_mem _ (List.mem_append_left _ (List.mem_append_left _ (List.mem_of_getElem? (i := 2) rfl)))) e8 dX4_begin_26 (fun H locs hP hD hS => ?_)
    refine lv_aload_n X.1 X.2.1 dX4_begin_29 rfl (lv_at hl 0 rfl) ?_
    refine lv_lconst (v := (1 : Int64)) X.1 X.2.1 dX4_begin_30 (by decide) ?_
    obtain ⟨μ9, e10, h⟩ := lt_e h
    refine pX4_below X (fun w h => (List.mem_cons_of_mem _ (List.mem_append_right _ h))) hK hP hD hS (List.mem_cons_of_mem _ (List.mem_append_left _ (List.mem_append_left _ (List.mem_of_getElem? (i := 3) rfl)))) e10 dX4_begin_31 (fun H locs hP hD hS => ?_)
    refine lv_iconst (v := (0 : Int32)) X.1 X.2.1 dX4_begin_34 (by decide) ?_
    refine lv_istore_n (lv' := [(1, .int (0 : Int32)), (0, .ref (a 0))]) X.1 X.2.1 dX4_begin_35 rfl hl (by decide) rfl (fun ls hl => ?_)
    exact t_X4_begin_L36 X hr hlk hK hA N N (0 : Int32) μ9 _ h _ _ _ hP hD hS (lv_sub hl [1, 0] rfl)
  · rw [if_pos c1] at h
    refine lv_bipush (v := (-3 : Int32)) X.1 X.2.1 dX4_begin_7 (by decide) ?_
    have h := sm_e h
    subst h
    exact rt_i X hr hlk hK hP hD hS dX4_begin_9
def f_X4_isLess_L47 (N : Nat) : Nat → Int32 → Int32 → Int64 → Int64 → Int32 → MS → Option (Int32 × MS)
  | 0, _, _, _, _, _, _ => none
  | n + 1, v1, v2, v4, v6, v8, μ => if (m_rw μ) ≤ v8 then some ((0 : Int32), μ) else if 0 ≤ v8 then gd (inB (((26 : Int32) * v1) + v8) 312) (gd (inB (((26 : Int32) * v2) + v8) 312) ((f_X4_signOfCross (m_tb μ (((26 : Int32) * v1) + v8).toNatClampNeg) v6 (m_tb μ (((26 : Int32) * v2) + v8).toNatClampNeg) v4 μ).bind (fun r5 => if r5.1 = 0 then lt_ (v8 + (1 : Int32)) (fun x8 => f_X4_isLess_L47 N n v1 v2 v4 v6 x8 r5.2) else if 0 ≤ r5.1 then some ((0 : Int32), r5.2) else some ((1 : Int32), r5.2)))) else (f_X4_columnQ μ).bind (fun r11 => gd (inB (((26 : Int32) * v1) + r11) 312) (gd (inB (((26 : Int32) * v2) + r11) 312) ((f_X4_signOfCross (m_tb μ (((26 : Int32) * v1) + r11).toNatClampNeg) v6 (m_tb μ (((26 : Int32) * v2) + r11).toNatClampNeg) v4 μ).bind (fun r15 => if r15.1 = 0 then lt_ (v8 + (1 : Int32)) (fun x18 => f_X4_isLess_L47 N n v1 v2 v4 v6 x18 r15.2) else if 0 ≤ r15.1 then some ((0 : Int32), r15.2) else some ((1 : Int32), r15.2)))))
set_option maxHeartbeats 4000000 in
set_option maxRecDepth 100000 in
theorem t_X4_isLess_L47 {p : Program} {l : Launch} {e : Env} {s : State} {m : MethodId} {args : Array Value} {below : List Frame} {meth : Method} {c : Code} {D : va_G} {A : Nat → Prop} {k : Nat → ClassId} {a : Nat → Nat} (X : CallFix p m c cX4_isLess 11 s args wsX4_isLess RX4) (hr : meth.sig.returnType = some .boolean) (hlk : meth.locks = false) (hK : va_K D vwCl (mT k) s) (hA : ∀ q : Nat, s.heap.size ≤ q → A q) (N : Nat) : ∀ (n : Nat) (v1 : Int32) (v2 : Int32) (v4 : Int64) (v6 : Int64) (v8 : Int32) (μ : MS) (R : (Int32 × MS)), f_X4_isLess_L47 N n v1 v2 v4 v6 v8 μ = some R → ∀ (H : Heap) (locs : List Loc) (ls : Array Slot), va_P D vwCl (mW k a μ) H → va_D A (mW k a μ) → va_S A s.heap H locs → lv_has ls 11 [(0, .ref (a 0)), (1, .int v1), (2, .int v2), (4, .long v4), (6, .long v6), (8, .int v8)] → W p l e ({ frames := 3, cells := 0, slots := 0, locals := 101 } : Room) s m args below meth c H locs 0 0 (MQ below (cQ D (mT k) A (mW k a R.2) (some (.int R.1))) args s 0 0 A) (F0 m 47 ls []) := by
  intro n
  induction n with
  | zero =>
    intro v1 v2 v4 v6 v8 μ R h
    exact absurd h (by simp [f_X4_isLess_L47])
  | succ n ih =>
    intro v1 v2 v4 v6 v8 μ R h H locs ls hP hD hS hl
    rw [f_X4_isLess_L47] at h
    refine lv_iload X.1 X.2.1 dX4_isLess_47 (lv_at hl 5 rfl) ?_
    refine lv_aload_n X.1 X.2.1 dX4_isLess_49 rfl (lv_at hl 0 rfl) ?_
    refine gX4_rows X (fun w h => (List.mem_cons_of_mem _ (List.mem_append_right _ h))) hK hP (List.mem_cons_of_mem _ (List.mem_append_left _ (List.mem_of_getElem? (i := 1) rfl))) dX4_isLess_50 ?_
    refine lv_icmp_ge (tgt := 128) X.1 X.2.1 dX4_isLess_53 (by decide) (fun c1 => ?_) (fun c1 => ?_)
    · rw [if_pos c1] at h
      refine lv_iconst (v := (0 : Int32)) X.1 X.2.1 dX4_isLess_128 (by decide) ?_
      have h := sm_e h
      subst h
      exact rt_z (v := (0 : Int32)) X hr hlk rfl hK hP hD hS dX4_isLess_129
    · rw [if_neg c1] at h
      refine lv_iload X.1 X.2.1 dX4_isLess_56 (lv_at hl 5 rfl) ?_
      refine lv_if_ge (tgt := 68) X.1 X.2.1 dX4_isLess_58 (by decide) (fun c2 => ?_) (fun c2 => ?_)
      · rw [if_pos c2] at h
        refine lv_iload X.1 X.2.1 dX4_isLess_68 (lv_at hl 5 rfl) ?_
        refine lv_istore (lv' := [(9, .int v8), (0, .ref (a 0)), (1, .int v1), (2, .int v2), (4, .long v4), (6, .long v6), (8, .int v8)]) X.1 X.2.1 dX4_isLess_70 hl (by decide) rfl (fun ls hl => ?_)
        refine lv_aload_n X.1 X.2.1 dX4_isLess_72 rfl (lv_at hl 1 rfl) ?_
        refine lv_aload_n X.1 X.2.1 dX4_isLess_73 rfl (lv_at hl 1 rfl) ?_
        refine gX4_table X (fun w h => (List.mem_cons_of_mem _ (List.mem_append_right _ h))) hK hP (List.mem_cons_of_mem _ (List.mem_append_left _ (List.mem_of_getElem? (i := 0) rfl))) dX4_isLess_74 ?_
        refine lv_bipush (v := (26 : Int32)) X.1 X.2.1 dX4_isLess_77 (by decide) ?_
        refine lv_iload_n X.1 X.2.1 dX4_isLess_79 rfl (lv_at hl 2 rfl) ?_
        refine lv_imul X.1 X.2.1 dX4_isLess_80 ?_
        refine lv_iload X.1 X.2.1 dX4_isLess_81 (lv_at hl 0 rfl) ?_
        refine lv_iadd X.1 X.2.1 dX4_isLess_83 ?_
        obtain ⟨g3, h⟩ := gd_e h
        refine lm_tb X hK hP g3 dX4_isLess_84 ?_
        refine lv_lload X.1 X.2.1 dX4_isLess_85 (lv_at hl 5 rfl) ?_
        refine lv_aload_n X.1 X.2.1 dX4_isLess_87 rfl (lv_at hl 1 rfl) ?_
        refine gX4_table X (fun w h => (List.mem_cons_of_mem _ (List.mem_append_right _ h))) hK hP (List.mem_cons_of_mem _ (List.mem_append_left _ (List.mem_of_getElem? (i := 0) rfl))) dX4_isLess_88 ?_
        refine lv_bipush (v := (26 : Int32)) X.1 X.2.1 dX4_isLess_91 (by decide) ?_
        refine lv_iload_n X.1 X.2.1 dX4_isLess_93 rfl (lv_at hl 3 rfl) ?_
        refine lv_imul X.1 X.2.1 dX4_isLess_94 ?_
        refine lv_iload X.1 X.2.1 dX4_isLess_95 (lv_at hl 0 rfl) ?_
        refine lv_iadd X.1 X.2.1 dX4_isLess_97 ?_
        obtain ⟨g4, h⟩ := gd_e h
        refine lm_tb X hK hP g4 dX4_isLess_98 ?_
        refine lv_lload X.1 X.2.1 dX4_isLess_99 (lv_at hl 4 rfl) ?_
        obtain ⟨r5, q6, h⟩ := bd_e h
        refine kc_v (As := [.long (m_tb μ (((26 : Int32) * v1) + v8).toNatClampNeg), .long v6, .long (m_tb μ (((26 : Int32) * v2) + v8).toNatClampNeg), .long v4]) (rest := []) X (k_X4_signOfCross (m_tb μ (((26 : Int32) * v1) + v8).toNatClampNeg) v6 (m_tb μ (((26 : Int32) * v2) + v8).toNatClampNeg) v4 μ _ q6) (cwV 4 X.2.2.2.2 gX4_isLess_X4_signOfCross rfl rfl rfl hd_X4_signOfCross ⟨Nat.le_of_ble_eq_true rfl, Nat.le_of_ble_eq_true rfl⟩) hK hP hD hS hA (va_recv hK hP (ci := 3) (q0 := 0) rfl rfl) rfl hl.1 rfl (Nat.le_of_ble_eq_true rfl) dX4_isLess_101 ⟨Nat.le_of_ble_eq_true rfl, Nat.le_of_ble_eq_true rfl⟩ (fun H locs hP hD hS => ?_)
        refine lv_istore (lv' := [(10, .int r5.1), (9, .int v8), (0, .ref (a 0)), (1, .int v1), (2, .int v2), (4, .long v4), (6, .long v6), (8, .int v8)]) X.1 X.2.1 dX4_isLess_104 hl (by decide) rfl (fun ls hl => ?_)
        refine lv_iload X.1 X.2.1 dX4_isLess_106 (lv_at hl 0 rfl) ?_
        refine lv_if_eq (tgt := 122) X.1 X.2.1 dX4_isLess_108 (by decide) (fun c7 => ?_) (fun c7 => ?_)
        · rw [if_pos c7] at h
          obtain ⟨x8, e9, h⟩ := lt_e h
          refine lv_iinc (v := x8) (lv' := [(8, .int x8), (10, .int r5.1), (9, .int v8), (0, .ref (a 0)), (1, .int v1), (2, .int v2), (4, .long v4), (6, .long v6)]) X.1 X.2.1 dX4_isLess_122 hl (k := 7) rfl e9.symm (by decide) rfl (fun ls hl => ?_)
          refine lv_goto (tgt := 47) X.1 X.2.1 dX4_isLess_125 (by decide) ?_
          exact ih v1 v2 v4 v6 x8 r5.2 _ h _ _ _ hP hD hS (lv_sub hl [3, 4, 5, 6, 7, 0] rfl)
        · rw [if_neg c7] at h
          refine lv_iload X.1 X.2.1 dX4_isLess_111 (lv_at hl 0 rfl) ?_
          refine lv_if_ge (tgt := 120) X.1 X.2.1 dX4_isLess_113 (by decide) (fun c10 => ?_) (fun c10 => ?_)
          · rw [if_pos c10] at h
            refine lv_iconst (v := (0 : Int32)) X.1 X.2.1 dX4_isLess_120 (by decide) ?_
            have h := sm_e h
            subst h
            exact rt_z (v := (0 : Int32)) X hr hlk rfl hK hP hD hS dX4_isLess_121
          · rw [if_neg c10] at h
            refine lv_iconst (v := (1 : Int32)) X.1 X.2.1 dX4_isLess_116 (by decide) ?_
            refine lv_goto (tgt := 121) X.1 X.2.1 dX4_isLess_117 (by decide) ?_
            have h := sm_e h
            subst h
            exact rt_z (v := (1 : Int32)) X hr hlk rfl hK hP hD hS dX4_isLess_121
      · rw [if_neg c2] at h
        refine lv_aload_n X.1 X.2.1 dX4_isLess_61 rfl (lv_at hl 0 rfl) ?_
        obtain ⟨r11, q12, h⟩ := bd_e h
        refine kc_v (As := []) (rest := []) X (k_X4_columnQ μ _ q12) (cwV 0 X.2.2.2.2 gX4_isLess_X4_columnQ rfl rfl rfl hd_X4_columnQ ⟨Nat.le_of_ble_eq_true rfl, Nat.le_of_ble_eq_true rfl⟩) hK hP hD hS hA (va_recv hK hP (ci := 3) (q0 := 0) rfl rfl) rfl hl.1 rfl (Nat.le_of_ble_eq_true rfl) dX4_isLess_62 ⟨Nat.le_of_ble_eq_true rfl, Nat.le_of_ble_eq_true rfl⟩ (fun H locs hP hD hS => ?_)
        refine lv_goto (tgt := 70) X.1 X.2.1 dX4_isLess_65 (by decide) ?_
        refine lv_istore (lv' := [(9, .int r11), (0, .ref (a 0)), (1, .int v1), (2, .int v2), (4, .long v4), (6, .long v6), (8, .int v8)]) X.1 X.2.1 dX4_isLess_70 hl (by decide) rfl (fun ls hl => ?_)
        refine lv_aload_n X.1 X.2.1 dX4_isLess_72 rfl (lv_at hl 1 rfl) ?_
        refine lv_aload_n X.1 X.2.1 dX4_isLess_73 rfl (lv_at hl 1 rfl) ?_
        refine gX4_table X (fun w h => (List.mem_cons_of_mem _ (List.mem_append_right _ h))) hK hP (List.mem_cons_of_mem _ (List.mem_append_left _ (List.mem_of_getElem? (i := 0) rfl))) dX4_isLess_74 ?_
        refine lv_bipush (v := (26 : Int32)) X.1 X.2.1 dX4_isLess_77 (by decide) ?_
        refine lv_iload_n X.1 X.2.1 dX4_isLess_79 rfl (lv_at hl 2 rfl) ?_
        refine lv_imul X.1 X.2.1 dX4_isLess_80 ?_
        refine lv_iload X.1 X.2.1 dX4_isLess_81 (lv_at hl 0 rfl) ?_
        refine lv_iadd X.1 X.2.1 dX4_isLess_83 ?_
        obtain ⟨g13, h⟩ := gd_e h
        refine lm_tb X hK hP g13 dX4_isLess_84 ?_
        refine lv_lload X.1 X.2.1 dX4_isLess_85 (lv_at hl 5 rfl) ?_
        refine lv_aload_n X.1 X.2.1 dX4_isLess_87 rfl (lv_at hl 1 rfl) ?_
        refine gX4_table X (fun w h => (List.mem_cons_of_mem _ (List.mem_append_right _ h))) hK hP (List.mem_cons_of_mem _ (List.mem_append_left _ (List.mem_of_getElem? (i := 0) rfl))) dX4_isLess_88 ?_
        refine lv_bipush (v := (26 : Int32)) X.1 X.2.1 dX4_isLess_91 (by decide) ?_
        refine lv_iload_n X.1 X.2.1 dX4_isLess_93 rfl (lv_at hl 3 rfl) ?_
        refine lv_imul X.1 X.2.1 dX4_isLess_94 ?_
        refine lv_iload X.1 X.2.1 dX4_isLess_95 (lv_at hl 0 rfl) ?_
        refine lv_iadd X.1 X.2.1 dX4_isLess_97 ?_
        obtain ⟨g14, h⟩ := gd_e h
        refine lm_tb X hK hP g14 dX4_isLess_98 ?_
        refine lv_lload X.1 X.2.1 dX4_isLess_99 (lv_at hl 4 rfl) ?_
        obtain ⟨r15, q16, h⟩ := bd_e h
        refine kc_v (As := [.long (m_tb μ (((26 : Int32) * v1) + r11).toNatClampNeg), .long v6, .long (m_tb μ (((26 : Int32) * v2) + r11).toNatClampNeg), .long v4]) (rest := []) X (k_X4_signOfCross (m_tb μ (((26 : Int32) * v1) + r11).toNatClampNeg) v6 (m_tb μ (((26 : Int32) * v2) + r11).toNatClampNeg) v4 μ _ q16) (cwV 4 X.2.2.2.2 gX4_isLess_X4_signOfCross rfl rfl rfl hd_X4_signOfCross ⟨Nat.le_of_ble_eq_true rfl, Nat.le_of_ble_eq_true rfl⟩) hK hP hD hS hA (va_recv hK hP (ci := 3) (q0 := 0) rfl rfl) rfl hl.1 rfl (Nat.le_of_ble_eq_true rfl) dX4_isLess_101 ⟨Nat.le_of_ble_eq_true rfl, Nat.le_of_ble_eq_true rfl⟩ (fun H locs hP hD hS => ?_)
        refine lv_istore (lv' := [(10, .int r15.1), (9, .int r11), (0, .ref (a 0)), (1, .int v1), (2, .int v2), (4, .long v4), (6, .long v6), (8, .int v8)]) X.1 X.2.1 dX4_isLess_104 hl (by decide) rfl (fun ls hl => ?_)
        refine lv_iload X.1 X.2.1 dX4_isLess_106 (lv_at hl 0 rfl) ?_
        refine lv_if_eq (tgt := 122) X.1 X.2.1 dX4_isLess_108 (by decide) (fun c17 => ?_) (fun c17 => ?_)
        · rw [if_pos c17] at h
          obtain ⟨x18, e19, h⟩ := lt_e h
          refine lv_iinc (v := x18) (lv' := [(8, .int x18), (10, .int r15.1), (9, .int r11), (0, .ref (a 0)), (1, .int v1), (2, .int v2), (4, .long v4), (6, .long v6)]) X.1 X.2.1 dX4_isLess_122 hl (k := 7) rfl e19.symm (by decide) rfl (fun ls hl => ?_)
          refine lv_goto (tgt := 47) X.1 X.2.1 dX4_isLess_125 (by decide) ?_
          exact ih v1 v2 v4 v6 x18 r15.2 _ h _ _ _ hP hD hS (lv_sub hl [3, 4, 5, 6, 7, 0] rfl)
        · rw [if_neg c17] at h
          refine lv_iload X.1 X.2.1 dX4_isLess_111 (lv_at hl 0 rfl) ?_
          refine lv_if_ge (tgt := 120) X.1 X.2.1 dX4_isLess_113 (by decide) (fun c20 => ?_) (fun c20 => ?_)
          · rw [if_pos c20] at h
            refine lv_iconst (v := (0 : Int32)) X.1 X.2.1 dX4_isLess_120 (by decide) ?_
            have h := sm_e h
            subst h
            exact rt_z (v := (0 : Int32)) X hr hlk rfl hK hP hD hS dX4_isLess_121
          · rw [if_neg c20] at h
            refine lv_iconst (v := (1 : Int32)) X.1 X.2.1 dX4_isLess_116 (by decide) ?_
            refine lv_goto (tgt := 121) X.1 X.2.1 dX4_isLess_117 (by decide) ?_
            have h := sm_e h
            subst h
            exact rt_z (v := (1 : Int32)) X hr hlk rfl hK hP hD hS dX4_isLess_121
def f_X4_isLess (N : Nat) (p0 : Int32) (p1 : Int32) (p2 : Int32) (μ : MS) : Option (Int32 × MS) := if p2 = (-1 : Int32) then if p2 = (-1 : Int32) then f_X4_isLess_L47 N N p0 p1 (1 : Int64) (1 : Int64) (-1 : Int32) μ else gd (inB (((26 : Int32) * p1) + p2) 312) (lt_ (m_tb μ (((26 : Int32) * p1) + p2).toNatClampNeg) (fun x23 => f_X4_isLess_L47 N N p0 p1 (1 : Int64) x23 (-1 : Int32) μ)) else gd (inB (((26 : Int32) * p0) + p2) 312) (lt_ (m_tb μ (((26 : Int32) * p0) + p2).toNatClampNeg) (fun x3 => if p2 = (-1 : Int32) then f_X4_isLess_L47 N N p0 p1 x3 (1 : Int64) (-1 : Int32) μ else gd (inB (((26 : Int32) * p1) + p2) 312) (lt_ (m_tb μ (((26 : Int32) * p1) + p2).toNatClampNeg) (fun x7 => f_X4_isLess_L47 N N p0 p1 x3 x7 (-1 : Int32) μ))))
theorem hd_X4_isLess : yX4_isLess.cls = RX4 ∧ yX4_isLess.cls ≠ "java/lang/invoke/MethodHandle" ∧ yX4_isLess.cls ≠ "java/lang/invoke/VarHandle" ∧ (parseMethodDescriptor yX4_isLess.desc).map (fun d => d.parameters.length) = some 3 := by decide +kernel
set_option maxHeartbeats 4000000 in
set_option maxRecDepth 100000 in
theorem k_X4_isLess {l : Launch} {D : va_G} {k : Nat → ClassId} {a : Nat → Nat} (N : Nat) (p0 : Int32) (p1 : Int32) (p2 : Int32) (μ : MS) (R : (Int32 × MS)) (h : f_X4_isLess N p0 p1 p2 μ = some R) : Ct l yX4_isLess wsX4_isLess ({ frames := 3, cells := 0, slots := 0, locals := 101 } : Room) D (mT k) (mW k a μ) (mW k a R.2) [.ref (a 0), .int p0, .int p1, .int p2] (some (.int R.1)) := by
  refine ct_of (cc := cX4_isLess) (maxL := 11) (ret := (some .boolean)) (by decide) rfl (Nat.le_of_ble_eq_true rfl) ?_
  intro p e s m args below meth c A ls X hr hlk hK hA hP hD hS hl
  have X : CallFix p m c cX4_isLess 11 s args wsX4_isLess RX4 := X
  have hl : lv_has ls 11 [(0, .ref (a 0)), (1, .int p0), (2, .int p1), (3, .int p2)] := hl
  rw [f_X4_isLess] at h
  refine lv_iload_n X.1 X.2.1 dX4_isLess_0 rfl (lv_at hl 3 rfl) ?_
  refine lv_iconst (v := (-1 : Int32)) X.1 X.2.1 dX4_isLess_1 (by decide) ?_
  refine lv_icmp_ne (tgt := 9) X.1 X.2.1 dX4_isLess_2 (by decide) (fun c1 => ?_) (fun c1 => ?_)
  · rw [if_neg c1] at h
    refine lv_aload_n X.1 X.2.1 dX4_isLess_9 rfl (lv_at hl 0 rfl) ?_
    refine gX4_table X (fun w h => (List.mem_cons_of_mem _ (List.mem_append_right _ h))) hK hP (List.mem_cons_of_mem _ (List.mem_append_left _ (List.mem_of_getElem? (i := 0) rfl))) dX4_isLess_10 ?_
    refine lv_bipush (v := (26 : Int32)) X.1 X.2.1 dX4_isLess_13 (by decide) ?_
    refine lv_iload_n X.1 X.2.1 dX4_isLess_15 rfl (lv_at hl 1 rfl) ?_
    refine lv_imul X.1 X.2.1 dX4_isLess_16 ?_
    refine lv_iload_n X.1 X.2.1 dX4_isLess_17 rfl (lv_at hl 3 rfl) ?_
    refine lv_iadd X.1 X.2.1 dX4_isLess_18 ?_
    obtain ⟨g2, h⟩ := gd_e h
    refine lm_tb X hK hP g2 dX4_isLess_19 ?_
    obtain ⟨x3, e4, h⟩ := lt_e h
    refine nm_l e4 ?_
    refine lv_lstore (lv' := [(4, .long x3), (0, .ref (a 0)), (1, .int p0), (2, .int p1), (3, .int p2)]) X.1 X.2.1 dX4_isLess_20 hl (by decide) rfl (fun ls hl => ?_)
    refine lv_iload_n X.1 X.2.1 dX4_isLess_22 rfl (lv_at hl 4 rfl) ?_
    refine lv_iconst (v := (-1 : Int32)) X.1 X.2.1 dX4_isLess_23 (by decide) ?_
    refine lv_icmp_ne (tgt := 31) X.1 X.2.1 dX4_isLess_24 (by decide) (fun c5 => ?_) (fun c5 => ?_)
    · rw [if_neg c5] at h
      refine lv_aload_n X.1 X.2.1 dX4_isLess_31 rfl (lv_at hl 1 rfl) ?_
      refine gX4_table X (fun w h => (List.mem_cons_of_mem _ (List.mem_append_right _ h))) hK hP (List.mem_cons_of_mem _ (List.mem_append_left _ (List.mem_of_getElem? (i := 0) rfl))) dX4_isLess_32 ?_
      refine lv_bipush (v := (26 : Int32)) X.1 X.2.1 dX4_isLess_35 (by decide) ?_
      refine lv_iload_n X.1 X.2.1 dX4_isLess_37 rfl (lv_at hl 3 rfl) ?_
      refine lv_imul X.1 X.2.1 dX4_isLess_38 ?_
      refine lv_iload_n X.1 X.2.1 dX4_isLess_39 rfl (lv_at hl 4 rfl) ?_
      refine lv_iadd X.1 X.2.1 dX4_isLess_40 ?_
      obtain ⟨g6, h⟩ := gd_e h
      refine lm_tb X hK hP g6 dX4_isLess_41 ?_
      obtain ⟨x7, e8, h⟩ := lt_e h
      refine nm_l e8 ?_
      refine lv_lstore (lv' := [(6, .long x7), (4, .long x3), (0, .ref (a 0)), (1, .int p0), (2, .int p1), (3, .int p2)]) X.1 X.2.1 dX4_isLess_42 hl (by decide) rfl (fun ls hl => ?_)
      refine lv_iconst (v := (-1 : Int32)) X.1 X.2.1 dX4_isLess_44 (by decide) ?_
      refine lv_istore (lv' := [(8, .int (-1 : Int32)), (6, .long x7), (4, .long x3), (0, .ref (a 0)), (1, .int p0), (2, .int p1), (3, .int p2)]) X.1 X.2.1 dX4_isLess_45 hl (by decide) rfl (fun ls hl => ?_)
      exact t_X4_isLess_L47 X hr hlk hK hA N N p0 p1 x3 x7 (-1 : Int32) μ _ h _ _ _ hP hD hS (lv_sub hl [3, 4, 5, 2, 1, 0] rfl)
    · rw [if_pos c5] at h
      refine lv_lconst (v := (1 : Int64)) X.1 X.2.1 dX4_isLess_27 (by decide) ?_
      refine lv_goto (tgt := 42) X.1 X.2.1 dX4_isLess_28 (by decide) ?_
      refine lv_lstore (lv' := [(6, .long (1 : Int64)), (4, .long x3), (0, .ref (a 0)), (1, .int p0), (2, .int p1), (3, .int p2)]) X.1 X.2.1 dX4_isLess_42 hl (by decide) rfl (fun ls hl => ?_)
      refine lv_iconst (v := (-1 : Int32)) X.1 X.2.1 dX4_isLess_44 (by decide) ?_
      refine lv_istore (lv' := [(8, .int (-1 : Int32)), (6, .long (1 : Int64)), (4, .long x3), (0, .ref (a 0)), (1, .int p0), (2, .int p1), (3, .int p2)]) X.1 X.2.1 dX4_isLess_45 hl (by decide) rfl (fun ls hl => ?_)
      exact t_X4_isLess_L47 X hr hlk hK hA N N p0 p1 x3 (1 : Int64) (-1 : Int32) μ _ h _ _ _ hP hD hS (lv_sub hl [3, 4, 5, 2, 1, 0] rfl)
  · rw [if_pos c1] at h
    refine lv_lconst (v := (1 : Int64)) X.1 X.2.1 dX4_isLess_5 (by decide) ?_
    refine lv_goto (tgt := 20) X.1 X.2.1 dX4_isLess_6 (by decide) ?_
    refine lv_lstore (lv' := [(4, .long (1 : Int64)), (0, .ref (a 0)), (1, .int p0), (2, .int p1), (3, .int p2)]) X.1 X.2.1 dX4_isLess_20 hl (by decide) rfl (fun ls hl => ?_)
    refine lv_iload_n X.1 X.2.1 dX4_isLess_22 rfl (lv_at hl 4 rfl) ?_
    refine lv_iconst (v := (-1 : Int32)) X.1 X.2.1 dX4_isLess_23 (by decide) ?_
    refine lv_icmp_ne (tgt := 31) X.1 X.2.1 dX4_isLess_24 (by decide) (fun c21 => ?_) (fun c21 => ?_)
    · rw [if_neg c21] at h
      refine lv_aload_n X.1 X.2.1 dX4_isLess_31 rfl (lv_at hl 1 rfl) ?_
      refine gX4_table X (fun w h => (List.mem_cons_of_mem _ (List.mem_append_right _ h))) hK hP (List.mem_cons_of_mem _ (List.mem_append_left _ (List.mem_of_getElem? (i := 0) rfl))) dX4_isLess_32 ?_
      refine lv_bipush (v := (26 : Int32)) X.1 X.2.1 dX4_isLess_35 (by decide) ?_
      refine lv_iload_n X.1 X.2.1 dX4_isLess_37 rfl (lv_at hl 3 rfl) ?_
      refine lv_imul X.1 X.2.1 dX4_isLess_38 ?_
      refine lv_iload_n X.1 X.2.1 dX4_isLess_39 rfl (lv_at hl 4 rfl) ?_
      refine lv_iadd X.1 X.2.1 dX4_isLess_40 ?_
      obtain ⟨g22, h⟩ := gd_e h
      refine lm_tb X hK hP g22 dX4_isLess_41 ?_
      obtain ⟨x23, e24, h⟩ := lt_e h
      refine nm_l e24 ?_
      refine lv_lstore (lv' := [(6, .long x23), (4, .long (1 : Int64)), (0, .ref (a 0)), (1, .int p0), (2, .int p1), (3, .int p2)]) X.1 X.2.1 dX4_isLess_42 hl (by decide) rfl (fun ls hl => ?_)
      refine lv_iconst (v := (-1 : Int32)) X.1 X.2.1 dX4_isLess_44 (by decide) ?_
      refine lv_istore (lv' := [(8, .int (-1 : Int32)), (6, .long x23), (4, .long (1 : Int64)), (0, .ref (a 0)), (1, .int p0), (2, .int p1), (3, .int p2)]) X.1 X.2.1 dX4_isLess_45 hl (by decide) rfl (fun ls hl => ?_)
      exact t_X4_isLess_L47 X hr hlk hK hA N N p0 p1 (1 : Int64) x23 (-1 : Int32) μ _ h _ _ _ hP hD hS (lv_sub hl [3, 4, 5, 2, 1, 0] rfl)
    · rw [if_pos c21] at h
      refine lv_lconst (v := (1 : Int64)) X.1 X.2.1 dX4_isLess_27 (by decide) ?_
      refine lv_goto (tgt := 42) X.1 X.2.1 dX4_isLess_28 (by decide) ?_
      refine lv_lstore (lv' := [(6, .long (1 : Int64)), (4, .long (1 : Int64)), (0, .ref (a 0)), (1, .int p0), (2, .int p1), (3, .int p2)]) X.1 X.2.1 dX4_isLess_42 hl (by decide) rfl (fun ls hl => ?_)
      refine lv_iconst (v := (-1 : Int32)) X.1 X.2.1 dX4_isLess_44 (by decide) ?_
      refine lv_istore (lv' := [(8, .int (-1 : Int32)), (6, .long (1 : Int64)), (4, .long (1 : Int64)), (0, .ref (a 0)), (1, .int p0), (2, .int p1), (3, .int p2)]) X.1 X.2.1 dX4_isLess_45 hl (by decide) rfl (fun ls hl => ?_)
      exact t_X4_isLess_L47 X hr hlk hK hA N N p0 p1 (1 : Int64) (1 : Int64) (-1 : Int32) μ _ h _ _ _ hP hD hS (lv_sub hl [3, 4, 5, 2, 1, 0] rfl)
def f_X4_turn_L153 (N : Nat) : Nat → Int32 → Int32 → MS → Option MS
  | 0, _, _, _ => none
  | n + 1, v5, v6, μ => (f_X4_columnQ μ).bind (fun r1 => if r1 < v6 then some μ else gd (inB (((26 : Int32) * v5) + v6) 312) (gd (inB (((26 : Int32) * v5) + v6) 312) (lt_ (n_tb μ (vp_updL (m_tb μ) (((26 : Int32) * v5) + v6).toNatClampNeg (-(m_tb μ (((26 : Int32) * v5) + v6).toNatClampNeg)))) (fun μ6 => lt_ (v6 + (1 : Int32)) (fun x8 => f_X4_turn_L153 N n v5 x8 μ6)))))
set_option maxHeartbeats 4000000 in
set_option maxRecDepth 100000 in
theorem t_X4_turn_L153 {p : Program} {l : Launch} {e : Env} {s : State} {m : MethodId} {args : Array Value} {below : List Frame} {meth : Method} {c : Code} {D : va_G} {A : Nat → Prop} {k : Nat → ClassId} {a : Nat → Nat} (X : CallFix p m c cX4_turn 9 s args wsX4_turn RX4) (hK : va_K D vwCl (mT k) s) (hA : ∀ q : Nat, s.heap.size ≤ q → A q) (N : Nat) {Q : State → Prop} : ∀ (n : Nat) (v5 : Int32) (v6 : Int32) (μ : MS) (R : MS), f_X4_turn_L153 N n v5 v6 μ = some R → ∀ (H : Heap) (locs : List Loc) (ls : Array Slot), va_P D vwCl (mW k a μ) H → va_D A (mW k a μ) → va_S A s.heap H locs → lv_has ls 9 [(0, .ref (a 0)), (5, .int v5), (6, .int v6)] → (∀ (H : Heap) (locs : List Loc) (ls : Array Slot), va_P D vwCl (mW k a R) H → va_D A (mW k a R) → va_S A s.heap H locs → lv_has ls 9 [(0, .ref (a 0)), (5, .int v5)] → W p l e ({ frames := 2, cells := 0, slots := 0, locals := 73 } : Room) s m args below meth c H locs 0 0 Q (F0 m 195 ls [])) → W p l e ({ frames := 2, cells := 0, slots := 0, locals := 73 } : Room) s m args below meth c H locs 0 0 Q (F0 m 153 ls []) := by
  intro n
  induction n with
  | zero =>
    intro v5 v6 μ R h
    exact absurd h (by simp [f_X4_turn_L153])
  | succ n ih =>
    intro v5 v6 μ R h H locs ls hP hD hS hl kk
    rw [f_X4_turn_L153] at h
    refine lv_iload X.1 X.2.1 dX4_turn_153 (lv_at hl 2 rfl) ?_
    refine lv_aload_n X.1 X.2.1 dX4_turn_155 rfl (lv_at hl 0 rfl) ?_
    obtain ⟨r1, q2, h⟩ := bd_e h
    refine kc_v (As := []) (rest := [.int v6]) X (k_X4_columnQ μ _ q2) (cwV 0 X.2.2.2.2 gX4_turn_X4_columnQ rfl rfl rfl hd_X4_columnQ ⟨Nat.le_of_ble_eq_true rfl, Nat.le_of_ble_eq_true rfl⟩) hK hP hD hS hA (va_recv hK hP (ci := 3) (q0 := 0) rfl rfl) rfl hl.1 rfl (Nat.le_of_ble_eq_true rfl) dX4_turn_156 ⟨Nat.le_of_ble_eq_true rfl, Nat.le_of_ble_eq_true rfl⟩ (fun H locs hP hD hS => ?_)
    refine lv_icmp_gt (tgt := 195) X.1 X.2.1 dX4_turn_159 (by decide) (fun c3 => ?_) (fun c3 => ?_)
    · rw [if_pos c3] at h
      have h := sm_e h
      subst h
      exact kk _ _ _ hP hD hS (lv_sub hl [0, 1] rfl)
    · rw [if_neg c3] at h
      refine lv_aload_n X.1 X.2.1 dX4_turn_162 rfl (lv_at hl 0 rfl) ?_
      refine gX4_table X (fun w h => (List.mem_cons_of_mem _ (List.mem_append_right _ h))) hK hP (List.mem_cons_of_mem _ (List.mem_append_left _ (List.mem_append_left _ (List.mem_of_getElem? (i := 0) rfl)))) dX4_turn_163 ?_
      refine lv_bipush (v := (26 : Int32)) X.1 X.2.1 dX4_turn_166 (by decide) ?_
      refine lv_iload X.1 X.2.1 dX4_turn_168 (lv_at hl 1 rfl) ?_
      refine lv_imul X.1 X.2.1 dX4_turn_170 ?_
      refine lv_iload X.1 X.2.1 dX4_turn_171 (lv_at hl 2 rfl) ?_
      refine lv_iadd X.1 X.2.1 dX4_turn_173 ?_
      refine lv_aload_n X.1 X.2.1 dX4_turn_174 rfl (lv_at hl 0 rfl) ?_
      refine gX4_table X (fun w h => (List.mem_cons_of_mem _ (List.mem_append_right _ h))) hK hP (List.mem_cons_of_mem _ (List.mem_append_left _ (List.mem_append_left _ (List.mem_of_getElem? (i := 0) rfl)))) dX4_turn_175 ?_
      refine lv_bipush (v := (26 : Int32)) X.1 X.2.1 dX4_turn_178 (by decide) ?_
      refine lv_iload X.1 X.2.1 dX4_turn_180 (lv_at hl 1 rfl) ?_
      refine lv_imul X.1 X.2.1 dX4_turn_182 ?_
      refine lv_iload X.1 X.2.1 dX4_turn_183 (lv_at hl 2 rfl) ?_
      refine lv_iadd X.1 X.2.1 dX4_turn_185 ?_
      obtain ⟨g4, h⟩ := gd_e h
      refine lm_tb X hK hP g4 dX4_turn_186 ?_
      refine lv_lneg X.1 X.2.1 dX4_turn_187 ?_
      obtain ⟨g5, h⟩ := gd_e h
      obtain ⟨μ6, e7, h⟩ := lt_e h
      refine tm_tb X hK hP hD hS g5 e7 dX4_turn_188 (fun H locs hP hD hS => ?_)
      obtain ⟨x8, e9, h⟩ := lt_e h
      refine lv_iinc (v := x8) (lv' := [(6, .int x8), (0, .ref (a 0)), (5, .int v5)]) X.1 X.2.1 dX4_turn_189 hl (k := 2) rfl e9.symm (by decide) rfl (fun ls hl => ?_)
      refine lv_goto (tgt := 153) X.1 X.2.1 dX4_turn_192 (by decide) ?_
      exact ih v5 x8 μ6 _ h _ _ _ hP hD hS (lv_sub hl [1, 2, 0] rfl) kk
def f_X4_turn_L141 (N : Nat) : Nat → Int32 → MS → Option MS
  | 0, _, _ => none
  | n + 1, v5, μ => if (m_rw μ) ≤ v5 then some μ else (f_X4_turn_L153 N N v5 (0 : Int32) μ).bind (fun r10 => lt_ (v5 + (1 : Int32)) (fun x12 => f_X4_turn_L141 N n x12 r10))
set_option maxHeartbeats 4000000 in
set_option maxRecDepth 100000 in
theorem t_X4_turn_L141 {p : Program} {l : Launch} {e : Env} {s : State} {m : MethodId} {args : Array Value} {below : List Frame} {meth : Method} {c : Code} {D : va_G} {A : Nat → Prop} {k : Nat → ClassId} {a : Nat → Nat} (X : CallFix p m c cX4_turn 9 s args wsX4_turn RX4) (hr : meth.sig.returnType = none) (hlk : meth.locks = false) (hK : va_K D vwCl (mT k) s) (hA : ∀ q : Nat, s.heap.size ≤ q → A q) (N : Nat) : ∀ (n : Nat) (v5 : Int32) (μ : MS) (R : MS), f_X4_turn_L141 N n v5 μ = some R → ∀ (H : Heap) (locs : List Loc) (ls : Array Slot), va_P D vwCl (mW k a μ) H → va_D A (mW k a μ) → va_S A s.heap H locs → lv_has ls 9 [(0, .ref (a 0)), (5, .int v5)] → W p l e ({ frames := 2, cells := 0, slots := 0, locals := 73 } : Room) s m args below meth c H locs 0 0 (MQ below (cQ D (mT k) A (mW k a R) none) args s 0 0 A) (F0 m 141 ls []) := by
  intro n
  induction n with
  | zero =>
    intro v5 μ R h
    exact absurd h (by simp [f_X4_turn_L141])
  | succ n ih =>
    intro v5 μ R h H locs ls hP hD hS hl
    rw [f_X4_turn_L141] at h
    refine lv_iload X.1 X.2.1 dX4_turn_141 (lv_at hl 1 rfl) ?_
    refine lv_aload_n X.1 X.2.1 dX4_turn_143 rfl (lv_at hl 0 rfl) ?_
    refine gX4_rows X (fun w h => (List.mem_cons_of_mem _ (List.mem_append_right _ h))) hK hP (List.mem_cons_of_mem _ (List.mem_append_left _ (List.mem_append_left _ (List.mem_of_getElem? (i := 1) rfl)))) dX4_turn_144 ?_
    refine lv_icmp_ge (tgt := 201) X.1 X.2.1 dX4_turn_147 (by decide) (fun c1 => ?_) (fun c1 => ?_)
    · rw [if_pos c1] at h
      have h := sm_e h
      subst h
      exact rt_v X hr hlk hK hP hD hS dX4_turn_201
    · rw [if_neg c1] at h
      refine lv_iconst (v := (0 : Int32)) X.1 X.2.1 dX4_turn_150 (by decide) ?_
      refine lv_istore (lv' := [(6, .int (0 : Int32)), (0, .ref (a 0)), (5, .int v5)]) X.1 X.2.1 dX4_turn_151 hl (by decide) rfl (fun ls hl => ?_)
      obtain ⟨r10, q11, h⟩ := bd_e h
      refine t_X4_turn_L153 X hK hA N N v5 (0 : Int32) μ _ q11 _ _ _ hP hD hS (lv_sub hl [1, 2, 0] rfl) (fun H locs ls hP hD hS hl => ?_)
      obtain ⟨x12, e13, h⟩ := lt_e h
      refine lv_iinc (v := x12) (lv' := [(5, .int x12), (0, .ref (a 0))]) X.1 X.2.1 dX4_turn_195 hl (k := 1) rfl e13.symm (by decide) rfl (fun ls hl => ?_)
      refine lv_goto (tgt := 141) X.1 X.2.1 dX4_turn_198 (by decide) ?_
      exact ih x12 r10 _ h _ _ _ hP hD hS (lv_sub hl [1, 0] rfl)
def f_X4_turn_L41 (N : Nat) : Nat → Int32 → Int32 → Int64 → Int32 → Int64 → Int32 → MS → Option MS
  | 0, _, _, _, _, _, _, _ => none
  | n + 1, v1, v2, v3, v5, v6, v8, μ => (f_X4_columnQ μ).bind (fun r1 => if r1 < v8 then some μ else if v5 = v1 then some μ else gd (inB (((26 : Int32) * v5) + v8) 312) (gd (inB (((26 : Int32) * v1) + v8) 312) ((f_X4_cross (m_tb μ (((26 : Int32) * v5) + v8).toNatClampNeg) v3 v6 (m_tb μ (((26 : Int32) * v1) + v8).toNatClampNeg) μ).bind (fun r7 => (f_X4_shared N (m_bl r7) r7).bind (fun r9 => gd (inB (((26 : Int32) * v5) + v8) 312) (lt_ (n_tb r7 (vp_updL (m_tb r7) (((26 : Int32) * v5) + v8).toNatClampNeg r9)) (fun μ12 => lt_ (v8 + (1 : Int32)) (fun x14 => f_X4_turn_L41 N n v1 v2 v3 v5 v6 x14 μ12))))))))
set_option maxHeartbeats 4000000 in
set_option maxRecDepth 100000 in
theorem t_X4_turn_L41 {p : Program} {l : Launch} {e : Env} {s : State} {m : MethodId} {args : Array Value} {below : List Frame} {meth : Method} {c : Code} {D : va_G} {A : Nat → Prop} {k : Nat → ClassId} {a : Nat → Nat} (X : CallFix p m c cX4_turn 9 s args wsX4_turn RX4) (hK : va_K D vwCl (mT k) s) (hA : ∀ q : Nat, s.heap.size ≤ q → A q) (N : Nat) {Q : State → Prop} : ∀ (n : Nat) (v1 : Int32) (v2 : Int32) (v3 : Int64) (v5 : Int32) (v6 : Int64) (v8 : Int32) (μ : MS) (R : MS), f_X4_turn_L41 N n v1 v2 v3 v5 v6 v8 μ = some R → ∀ (H : Heap) (locs : List Loc) (ls : Array Slot), va_P D vwCl (mW k a μ) H → va_D A (mW k a μ) → va_S A s.heap H locs → lv_has ls 9 [(0, .ref (a 0)), (1, .int v1), (2, .int v2), (3, .long v3), (5, .int v5), (6, .long v6), (8, .int v8)] → (∀ (H : Heap) (locs : List Loc) (ls : Array Slot), va_P D vwCl (mW k a R) H → va_D A (mW k a R) → va_S A s.heap H locs → lv_has ls 9 [(0, .ref (a 0)), (1, .int v1), (2, .int v2), (3, .long v3), (5, .int v5)] → W p l e ({ frames := 2, cells := 0, slots := 0, locals := 73 } : Room) s m args below meth c H locs 0 0 Q (F0 m 115 ls [])) → W p l e ({ frames := 2, cells := 0, slots := 0, locals := 73 } : Room) s m args below meth c H locs 0 0 Q (F0 m 41 ls []) := by
  intro n
  induction n with
  | zero =>
    intro v1 v2 v3 v5 v6 v8 μ R h
    exact absurd h (by simp [f_X4_turn_L41])
  | succ n ih =>
    intro v1 v2 v3 v5 v6 v8 μ R h H locs ls hP hD hS hl kk
    rw [f_X4_turn_L41] at h
    refine lv_iload X.1 X.2.1 dX4_turn_41 (lv_at hl 6 rfl) ?_
    refine lv_aload_n X.1 X.2.1 dX4_turn_43 rfl (lv_at hl 0 rfl) ?_
    obtain ⟨r1, q2, h⟩ := bd_e h
    refine kc_v (As := []) (rest := [.int v8]) X (k_X4_columnQ μ _ q2) (cwV 0 X.2.2.2.2 gX4_turn_X4_columnQ rfl rfl rfl hd_X4_columnQ ⟨Nat.le_of_ble_eq_true rfl, Nat.le_of_ble_eq_true rfl⟩) hK hP hD hS hA (va_recv hK hP (ci := 3) (q0 := 0) rfl rfl) rfl hl.1 rfl (Nat.le_of_ble_eq_true rfl) dX4_turn_44 ⟨Nat.le_of_ble_eq_true rfl, Nat.le_of_ble_eq_true rfl⟩ (fun H locs hP hD hS => ?_)
    refine lv_icmp_gt (tgt := 115) X.1 X.2.1 dX4_turn_47 (by decide) (fun c3 => ?_) (fun c3 => ?_)
    · rw [if_pos c3] at h
      have h := sm_e h
      subst h
      exact kk _ _ _ hP hD hS (lv_sub hl [0, 1, 2, 3, 4] rfl)
    · rw [if_neg c3] at h
      refine lv_iload X.1 X.2.1 dX4_turn_50 (lv_at hl 4 rfl) ?_
      refine lv_iload_n X.1 X.2.1 dX4_turn_52 rfl (lv_at hl 1 rfl) ?_
      refine lv_icmp_eq (tgt := 115) X.1 X.2.1 dX4_turn_53 (by decide) (fun c4 => ?_) (fun c4 => ?_)
      · rw [if_pos c4] at h
        have h := sm_e h
        subst h
        exact kk _ _ _ hP hD hS (lv_sub hl [0, 1, 2, 3, 4] rfl)
      · rw [if_neg c4] at h
        refine lv_aload_n X.1 X.2.1 dX4_turn_56 rfl (lv_at hl 0 rfl) ?_
        refine lv_aload_n X.1 X.2.1 dX4_turn_57 rfl (lv_at hl 0 rfl) ?_
        refine gX4_table X (fun w h => (List.mem_cons_of_mem _ (List.mem_append_right _ h))) hK hP (List.mem_cons_of_mem _ (List.mem_append_left _ (List.mem_append_left _ (List.mem_of_getElem? (i := 0) rfl)))) dX4_turn_58 ?_
        refine lv_bipush (v := (26 : Int32)) X.1 X.2.1 dX4_turn_61 (by decide) ?_
        refine lv_iload X.1 X.2.1 dX4_turn_63 (lv_at hl 4 rfl) ?_
        refine lv_imul X.1 X.2.1 dX4_turn_65 ?_
        refine lv_iload X.1 X.2.1 dX4_turn_66 (lv_at hl 6 rfl) ?_
        refine lv_iadd X.1 X.2.1 dX4_turn_68 ?_
        obtain ⟨g5, h⟩ := gd_e h
        refine lm_tb X hK hP g5 dX4_turn_69 ?_
        refine lv_lload_n X.1 X.2.1 dX4_turn_70 rfl (lv_at hl 3 rfl) ?_
        refine lv_lload X.1 X.2.1 dX4_turn_71 (lv_at hl 5 rfl) ?_
        refine lv_aload_n X.1 X.2.1 dX4_turn_73 rfl (lv_at hl 0 rfl) ?_
        refine gX4_table X (fun w h => (List.mem_cons_of_mem _ (List.mem_append_right _ h))) hK hP (List.mem_cons_of_mem _ (List.mem_append_left _ (List.mem_append_left _ (List.mem_of_getElem? (i := 0) rfl)))) dX4_turn_74 ?_
        refine lv_bipush (v := (26 : Int32)) X.1 X.2.1 dX4_turn_77 (by decide) ?_
        refine lv_iload_n X.1 X.2.1 dX4_turn_79 rfl (lv_at hl 1 rfl) ?_
        refine lv_imul X.1 X.2.1 dX4_turn_80 ?_
        refine lv_iload X.1 X.2.1 dX4_turn_81 (lv_at hl 6 rfl) ?_
        refine lv_iadd X.1 X.2.1 dX4_turn_83 ?_
        obtain ⟨g6, h⟩ := gd_e h
        refine lm_tb X hK hP g6 dX4_turn_84 ?_
        obtain ⟨r7, q8, h⟩ := bd_e h
        refine kc_v (As := [.long (m_tb μ (((26 : Int32) * v5) + v8).toNatClampNeg), .long v3, .long v6, .long (m_tb μ (((26 : Int32) * v1) + v8).toNatClampNeg)]) (rest := []) X (k_X4_cross (m_tb μ (((26 : Int32) * v5) + v8).toNatClampNeg) v3 v6 (m_tb μ (((26 : Int32) * v1) + v8).toNatClampNeg) μ _ q8) (cwV 4 X.2.2.2.2 gX4_turn_X4_cross rfl rfl rfl hd_X4_cross ⟨Nat.le_of_ble_eq_true rfl, Nat.le_of_ble_eq_true rfl⟩) hK hP hD hS hA (va_recv hK hP (ci := 3) (q0 := 0) rfl rfl) rfl hl.1 rfl (Nat.le_of_ble_eq_true rfl) dX4_turn_85 ⟨Nat.le_of_ble_eq_true rfl, Nat.le_of_ble_eq_true rfl⟩ (fun H locs hP hD hS => ?_)
        refine lv_aload_n X.1 X.2.1 dX4_turn_88 rfl (lv_at hl 0 rfl) ?_
        refine gX4_table X (fun w h => (List.mem_cons_of_mem _ (List.mem_append_right _ h))) hK hP (List.mem_cons_of_mem _ (List.mem_append_left _ (List.mem_append_left _ (List.mem_of_getElem? (i := 0) rfl)))) dX4_turn_89 ?_
        refine lv_bipush (v := (26 : Int32)) X.1 X.2.1 dX4_turn_92 (by decide) ?_
        refine lv_iload X.1 X.2.1 dX4_turn_94 (lv_at hl 4 rfl) ?_
        refine lv_imul X.1 X.2.1 dX4_turn_96 ?_
        refine lv_iload X.1 X.2.1 dX4_turn_97 (lv_at hl 6 rfl) ?_
        refine lv_iadd X.1 X.2.1 dX4_turn_99 ?_
        refine lv_aload_n X.1 X.2.1 dX4_turn_100 rfl (lv_at hl 0 rfl) ?_
        refine lv_aload_n X.1 X.2.1 dX4_turn_101 rfl (lv_at hl 0 rfl) ?_
        refine gX4_below X (fun w h => (List.mem_cons_of_mem _ (List.mem_append_right _ h))) hK hP (List.mem_cons_of_mem _ (List.mem_append_left _ (List.mem_append_left _ (List.mem_of_getElem? (i := 2) rfl)))) dX4_turn_102 ?_
        obtain ⟨r9, q10, h⟩ := bd_e h
        refine kc_v (As := [.long (m_bl r7)]) (rest := [.int (((26 : Int32) * v5) + v8), .ref (a 4)]) X (k_X4_shared N (m_bl r7) r7 _ q10) (cwV 1 X.2.2.2.2 gX4_turn_X4_shared rfl rfl rfl hd_X4_shared ⟨Nat.le_of_ble_eq_true rfl, Nat.le_of_ble_eq_true rfl⟩) hK hP hD hS hA (va_recv hK hP (ci := 3) (q0 := 0) rfl rfl) rfl hl.1 rfl (Nat.le_of_ble_eq_true rfl) dX4_turn_105 ⟨Nat.le_of_ble_eq_true rfl, Nat.le_of_ble_eq_true rfl⟩ (fun H locs hP hD hS => ?_)
        obtain ⟨g11, h⟩ := gd_e h
        obtain ⟨μ12, e13, h⟩ := lt_e h
        refine tm_tb X hK hP hD hS g11 e13 dX4_turn_108 (fun H locs hP hD hS => ?_)
        obtain ⟨x14, e15, h⟩ := lt_e h
        refine lv_iinc (v := x14) (lv' := [(8, .int x14), (0, .ref (a 0)), (1, .int v1), (2, .int v2), (3, .long v3), (5, .int v5), (6, .long v6)]) X.1 X.2.1 dX4_turn_109 hl (k := 6) rfl e15.symm (by decide) rfl (fun ls hl => ?_)
        refine lv_goto (tgt := 41) X.1 X.2.1 dX4_turn_112 (by decide) ?_
        exact ih v1 v2 v3 v5 v6 x14 μ12 _ h _ _ _ hP hD hS (lv_sub hl [1, 2, 3, 4, 5, 6, 0] rfl) kk
def f_X4_turn_L15 (N : Nat) : Nat → Int32 → Int32 → Int64 → Int32 → MS → Option MS
  | 0, _, _, _, _, _ => none
  | n + 1, v1, v2, v3, v5, μ => if (m_rw μ) ≤ v5 then lt_ (n_bl μ v3) (fun μ2 => if 0 ≤ (lg_cmp v3 (0 : Int64)) then some μ2 else lt_ (n_bl μ2 (-v3)) (fun μ5 => f_X4_turn_L141 N N (0 : Int32) μ5)) else gd (inB (((26 : Int32) * v5) + v2) 312) (lt_ (m_tb μ (((26 : Int32) * v5) + v2).toNatClampNeg) (fun x15 => (f_X4_turn_L41 N N v1 v2 v3 v5 x15 (0 : Int32) μ).bind (fun r17 => lt_ (v5 + (1 : Int32)) (fun x19 => f_X4_turn_L15 N n v1 v2 v3 x19 r17))))
set_option maxHeartbeats 4000000 in
set_option maxRecDepth 100000 in
theorem t_X4_turn_L15 {p : Program} {l : Launch} {e : Env} {s : State} {m : MethodId} {args : Array Value} {below : List Frame} {meth : Method} {c : Code} {D : va_G} {A : Nat → Prop} {k : Nat → ClassId} {a : Nat → Nat} (X : CallFix p m c cX4_turn 9 s args wsX4_turn RX4) (hr : meth.sig.returnType = none) (hlk : meth.locks = false) (hK : va_K D vwCl (mT k) s) (hA : ∀ q : Nat, s.heap.size ≤ q → A q) (N : Nat) : ∀ (n : Nat) (v1 : Int32) (v2 : Int32) (v3 : Int64) (v5 : Int32) (μ : MS) (R : MS), f_X4_turn_L15 N n v1 v2 v3 v5 μ = some R → ∀ (H : Heap) (locs : List Loc) (ls : Array Slot), va_P D vwCl (mW k a μ) H → va_D A (mW k a μ) → va_S A s.heap H locs → lv_has ls 9 [(0, .ref (a 0)), (1, .int v1), (2, .int v2), (3, .long v3), (5, .int v5)] → W p l e ({ frames := 2, cells := 0, slots := 0, locals := 73 } : Room) s m args below meth c H locs 0 0 (MQ below (cQ D (mT k) A (mW k a R) none) args s 0 0 A) (F0 m 15 ls []) := by
  intro n
  induction n with
  | zero =>
    intro v1 v2 v3 v5 μ R h
    exact absurd h (by simp [f_X4_turn_L15])
  | succ n ih =>
    intro v1 v2 v3 v5 μ R h H locs ls hP hD hS hl
    rw [f_X4_turn_L15] at h
    refine lv_iload X.1 X.2.1 dX4_turn_15 (lv_at hl 4 rfl) ?_
    refine lv_aload_n X.1 X.2.1 dX4_turn_17 rfl (lv_at hl 0 rfl) ?_
    refine gX4_rows X (fun w h => (List.mem_cons_of_mem _ (List.mem_append_right _ h))) hK hP (List.mem_cons_of_mem _ (List.mem_append_left _ (List.mem_append_left _ (List.mem_of_getElem? (i := 1) rfl)))) dX4_turn_18 ?_
    refine lv_icmp_ge (tgt := 121) X.1 X.2.1 dX4_turn_21 (by decide) (fun c1 => ?_) (fun c1 => ?_)
    · rw [if_pos c1] at h
      refine lv_aload_n X.1 X.2.1 dX4_turn_121 rfl (lv_at hl 0 rfl) ?_
      refine lv_lload_n X.1 X.2.1 dX4_turn_122 rfl (lv_at hl 3 rfl) ?_
      obtain ⟨μ2, e3, h⟩ := lt_e h
      refine pX4_below X (fun w h => (List.mem_cons_of_mem _ (List.mem_append_right _ h))) hK hP hD hS (List.mem_cons_of_mem _ (List.mem_append_left _ (List.mem_append_left _ (List.mem_of_getElem? (i := 2) rfl)))) e3 dX4_turn_123 (fun H locs hP hD hS => ?_)
      refine lv_lload_n X.1 X.2.1 dX4_turn_126 rfl (lv_at hl 3 rfl) ?_
      refine lv_lconst (v := (0 : Int64)) X.1 X.2.1 dX4_turn_127 (by decide) ?_
      refine W.lcmp X.1 X.2.1 dX4_turn_128 ?_
      refine lv_if_ge (tgt := 201) X.1 X.2.1 dX4_turn_129 (by decide) (fun c4 => ?_) (fun c4 => ?_)
      · rw [if_pos c4] at h
        have h := sm_e h
        subst h
        exact rt_v X hr hlk hK hP hD hS dX4_turn_201
      · rw [if_neg c4] at h
        refine lv_aload_n X.1 X.2.1 dX4_turn_132 rfl (lv_at hl 0 rfl) ?_
        refine lv_lload_n X.1 X.2.1 dX4_turn_133 rfl (lv_at hl 3 rfl) ?_
        refine lv_lneg X.1 X.2.1 dX4_turn_134 ?_
        obtain ⟨μ5, e6, h⟩ := lt_e h
        refine pX4_below X (fun w h => (List.mem_cons_of_mem _ (List.mem_append_right _ h))) hK hP hD hS (List.mem_cons_of_mem _ (List.mem_append_left _ (List.mem_append_left _ (List.mem_of_getElem? (i := 2) rfl)))) e6 dX4_turn_135 (fun H locs hP hD hS => ?_)
        refine lv_iconst (v := (0 : Int32)) X.1 X.2.1 dX4_turn_138 (by decide) ?_
        refine lv_istore (lv' := [(5, .int (0 : Int32)), (0, .ref (a 0)), (1, .int v1), (2, .int v2), (3, .long v3)]) X.1 X.2.1 dX4_turn_139 hl (by decide) rfl (fun ls hl => ?_)
        exact t_X4_turn_L141 X hr hlk hK hA N N (0 : Int32) μ5 _ h _ _ _ hP hD hS (lv_sub hl [1, 0] rfl)
    · rw [if_neg c1] at h
      refine lv_aload_n X.1 X.2.1 dX4_turn_24 rfl (lv_at hl 0 rfl) ?_
      refine gX4_table X (fun w h => (List.mem_cons_of_mem _ (List.mem_append_right _ h))) hK hP (List.mem_cons_of_mem _ (List.mem_append_left _ (List.mem_append_left _ (List.mem_of_getElem? (i := 0) rfl)))) dX4_turn_25 ?_
      refine lv_bipush (v := (26 : Int32)) X.1 X.2.1 dX4_turn_28 (by decide) ?_
      refine lv_iload X.1 X.2.1 dX4_turn_30 (lv_at hl 4 rfl) ?_
      refine lv_imul X.1 X.2.1 dX4_turn_32 ?_
      refine lv_iload_n X.1 X.2.1 dX4_turn_33 rfl (lv_at hl 2 rfl) ?_
      refine lv_iadd X.1 X.2.1 dX4_turn_34 ?_
      obtain ⟨g14, h⟩ := gd_e h
      refine lm_tb X hK hP g14 dX4_turn_35 ?_
      obtain ⟨x15, e16, h⟩ := lt_e h
      refine nm_l e16 ?_
      refine lv_lstore (lv' := [(6, .long x15), (0, .ref (a 0)), (1, .int v1), (2, .int v2), (3, .long v3), (5, .int v5)]) X.1 X.2.1 dX4_turn_36 hl (by decide) rfl (fun ls hl => ?_)
      refine lv_iconst (v := (0 : Int32)) X.1 X.2.1 dX4_turn_38 (by decide) ?_
      refine lv_istore (lv' := [(8, .int (0 : Int32)), (6, .long x15), (0, .ref (a 0)), (1, .int v1), (2, .int v2), (3, .long v3), (5, .int v5)]) X.1 X.2.1 dX4_turn_39 hl (by decide) rfl (fun ls hl => ?_)
      obtain ⟨r17, q18, h⟩ := bd_e h
      refine t_X4_turn_L41 X hK hA N N v1 v2 v3 v5 x15 (0 : Int32) μ _ q18 _ _ _ hP hD hS (lv_sub hl [2, 3, 4, 5, 6, 1, 0] rfl) (fun H locs ls hP hD hS hl => ?_)
      obtain ⟨x19, e20, h⟩ := lt_e h
      refine lv_iinc (v := x19) (lv' := [(5, .int x19), (0, .ref (a 0)), (1, .int v1), (2, .int v2), (3, .long v3)]) X.1 X.2.1 dX4_turn_115 hl (k := 4) rfl e20.symm (by decide) rfl (fun ls hl => ?_)
      refine lv_goto (tgt := 15) X.1 X.2.1 dX4_turn_118 (by decide) ?_
      exact ih v1 v2 v3 x19 r17 _ h _ _ _ hP hD hS (lv_sub hl [1, 2, 3, 4, 0] rfl)
def f_X4_turn (N : Nat) (p0 : Int32) (p1 : Int32) (μ : MS) : Option MS := gd (inB (((26 : Int32) * p0) + p1) 312) (lt_ (m_tb μ (((26 : Int32) * p0) + p1).toNatClampNeg) (fun x2 => f_X4_turn_L15 N N p0 p1 x2 (0 : Int32) μ))
theorem hd_X4_turn : yX4_turn.cls = RX4 ∧ yX4_turn.cls ≠ "java/lang/invoke/MethodHandle" ∧ yX4_turn.cls ≠ "java/lang/invoke/VarHandle" ∧ (parseMethodDescriptor yX4_turn.desc).map (fun d => d.parameters.length) = some 2 := by decide +kernel
set_option maxHeartbeats 4000000 in
set_option maxRecDepth 100000 in
theorem k_X4_turn {l : Launch} {D : va_G} {k : Nat → ClassId} {a : Nat → Nat} (N : Nat) (p0 : Int32) (p1 : Int32) (μ : MS) (R : MS) (h : f_X4_turn N p0 p1 μ = some R) : Ct l yX4_turn wsX4_turn ({ frames := 2, cells := 0, slots := 0, locals := 73 } : Room) D (mT k) (mW k a μ) (mW k a R) [.ref (a 0), .int p0, .int p1] none := by
  refine ct_of (cc := cX4_turn) (maxL := 9) (ret := none) (by decide) rfl (Nat.le_of_ble_eq_true rfl) ?_
  intro p e s m args below meth c A ls X hr hlk hK hA hP hD hS hl
  have X : CallFix p m c cX4_turn 9 s args wsX4_turn RX4 := X
  have hl : lv_has ls 9 [(0, .ref (a 0)), (1, .int p0), (2, .int p1)] := hl
  rw [f_X4_turn] at h
  refine lv_aload_n X.1 X.2.1 dX4_turn_0 rfl (lv_at hl 0 rfl) ?_
  refine gX4_table X (fun w h => (List.mem_cons_of_mem _ (List.mem_append_right _ h))) hK hP (List.mem_cons_of_mem _ (List.mem_append_left _ (List.mem_append_left _ (List.mem_of_getElem? (i := 0) rfl)))) dX4_turn_1 ?_
  refine lv_bipush (v := (26 : Int32)) X.1 X.2.1 dX4_turn_4 (by decide) ?_
  refine lv_iload_n X.1 X.2.1 dX4_turn_6 rfl (lv_at hl 1 rfl) ?_
  refine lv_imul X.1 X.2.1 dX4_turn_7 ?_
  refine lv_iload_n X.1 X.2.1 dX4_turn_8 rfl (lv_at hl 2 rfl) ?_
  refine lv_iadd X.1 X.2.1 dX4_turn_9 ?_
  obtain ⟨g1, h⟩ := gd_e h
  refine lm_tb X hK hP g1 dX4_turn_10 ?_
  obtain ⟨x2, e3, h⟩ := lt_e h
  refine nm_l e3 ?_
  refine lv_lstore_n (lv' := [(3, .long x2), (0, .ref (a 0)), (1, .int p0), (2, .int p1)]) X.1 X.2.1 dX4_turn_11 rfl hl (by decide) rfl (fun ls hl => ?_)
  refine lv_iconst (v := (0 : Int32)) X.1 X.2.1 dX4_turn_12 (by decide) ?_
  refine lv_istore (lv' := [(5, .int (0 : Int32)), (3, .long x2), (0, .ref (a 0)), (1, .int p0), (2, .int p1)]) X.1 X.2.1 dX4_turn_13 hl (by decide) rfl (fun ls hl => ?_)
  exact t_X4_turn_L15 X hr hlk hK hA N N p0 p1 x2 (0 : Int32) μ _ h _ _ _ hP hD hS (lv_sub hl [2, 3, 4, 1, 0] rfl)
def f_X4_columnOf (p0 : Int32) (μ : MS) : Option Int32 := if p0 = (200 : Int32) then some ((2 : Int32) * (m_rw μ)) else if p0 < (100 : Int32) then some p0 else some (((m_rw μ) + p0) - (100 : Int32))
theorem hd_X4_columnOf : yX4_columnOf.cls = RX4 ∧ yX4_columnOf.cls ≠ "java/lang/invoke/MethodHandle" ∧ yX4_columnOf.cls ≠ "java/lang/invoke/VarHandle" ∧ (parseMethodDescriptor yX4_columnOf.desc).map (fun d => d.parameters.length) = some 1 := by decide +kernel
set_option maxHeartbeats 4000000 in
set_option maxRecDepth 100000 in
theorem k_X4_columnOf {l : Launch} {D : va_G} {k : Nat → ClassId} {a : Nat → Nat} (p0 : Int32) (μ : MS) (R : Int32) (h : f_X4_columnOf p0 μ = some R) : Ct l yX4_columnOf wsX4_columnOf ({ frames := 0, cells := 0, slots := 0, locals := 0 } : Room) D (mT k) (mW k a μ) (mW k a μ) [.ref (a 0), .int p0] (some (.int R)) := by
  refine ct_of (cc := cX4_columnOf) (maxL := 2) (ret := (some .int)) (by decide) rfl (Nat.le_of_ble_eq_true rfl) ?_
  intro p e s m args below meth c A ls X hr hlk hK hA hP hD hS hl
  have X : CallFix p m c cX4_columnOf 2 s args wsX4_columnOf RX4 := X
  have hl : lv_has ls 2 [(0, .ref (a 0)), (1, .int p0)] := hl
  rw [f_X4_columnOf] at h
  refine lv_iload_n X.1 X.2.1 dX4_columnOf_0 rfl (lv_at hl 1 rfl) ?_
  refine lv_sipush (v := (200 : Int32)) X.1 X.2.1 dX4_columnOf_1 (by decide) ?_
  refine lv_icmp_ne (tgt := 16) X.1 X.2.1 dX4_columnOf_4 (by decide) (fun c1 => ?_) (fun c1 => ?_)
  · rw [if_neg c1] at h
    refine lv_iload_n X.1 X.2.1 dX4_columnOf_16 rfl (lv_at hl 1 rfl) ?_
    refine lv_bipush (v := (100 : Int32)) X.1 X.2.1 dX4_columnOf_17 (by decide) ?_
    refine lv_icmp_lt (tgt := 34) X.1 X.2.1 dX4_columnOf_19 (by decide) (fun c2 => ?_) (fun c2 => ?_)
    · rw [if_pos c2] at h
      refine lv_iload_n X.1 X.2.1 dX4_columnOf_34 rfl (lv_at hl 1 rfl) ?_
      have h := sm_e h
      subst h
      exact rt_i X hr hlk hK hP hD hS dX4_columnOf_35
    · rw [if_neg c2] at h
      refine lv_aload_n X.1 X.2.1 dX4_columnOf_22 rfl (lv_at hl 0 rfl) ?_
      refine gX4_rows X (fun w h => (List.mem_cons_of_mem _ (List.mem_append_right _ h))) hK hP (List.mem_cons_of_mem _ (List.mem_append_left _ (List.mem_of_getElem? (i := 0) rfl))) dX4_columnOf_23 ?_
      refine lv_iload_n X.1 X.2.1 dX4_columnOf_26 rfl (lv_at hl 1 rfl) ?_
      refine lv_iadd X.1 X.2.1 dX4_columnOf_27 ?_
      refine lv_bipush (v := (100 : Int32)) X.1 X.2.1 dX4_columnOf_28 (by decide) ?_
      refine lv_isub X.1 X.2.1 dX4_columnOf_30 ?_
      refine lv_goto (tgt := 35) X.1 X.2.1 dX4_columnOf_31 (by decide) ?_
      have h := sm_e h
      subst h
      exact rt_i X hr hlk hK hP hD hS dX4_columnOf_35
  · rw [if_pos c1] at h
    refine lv_iconst (v := (2 : Int32)) X.1 X.2.1 dX4_columnOf_7 (by decide) ?_
    refine lv_aload_n X.1 X.2.1 dX4_columnOf_8 rfl (lv_at hl 0 rfl) ?_
    refine gX4_rows X (fun w h => (List.mem_cons_of_mem _ (List.mem_append_right _ h))) hK hP (List.mem_cons_of_mem _ (List.mem_append_left _ (List.mem_of_getElem? (i := 0) rfl))) dX4_columnOf_9 ?_
    refine lv_imul X.1 X.2.1 dX4_columnOf_12 ?_
    refine lv_goto (tgt := 35) X.1 X.2.1 dX4_columnOf_13 (by decide) ?_
    have h := sm_e h
    subst h
    exact rt_i X hr hlk hK hP hD hS dX4_columnOf_35

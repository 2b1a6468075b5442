def f_X4_does_L72 (N : Nat) : Nat → Int32 → Int32 → Int32 → Int32 → MS → Option MS
  | 0, _, _, _, _, _ => none
  | n + 1, v1, v2, v3, v4, μ => if (m_rw μ) ≤ v4 then if v3 = (-1 : Int32) then gd (isZ (1 : Int32)) (lt_ (n_ry μ (1 : Int32)) (fun μ31 => some μ31)) else (f_X4_turn N v3 v2 μ).bind (fun r3 => gd (inB (m_st r3) 200) (lt_ (n_en r3 (upd (m_en r3) (m_st r3).toNatClampNeg v1)) (fun μ6 => gd (inB v3 12) (gd (inB (m_st μ6) 200) (lt_ (n_lf μ6 (upd (m_lf μ6) (m_st μ6).toNatClampNeg (m_tl μ6 v3.toNatClampNeg))) (fun μ10 => gd (inB (m_st μ10) 200) (lt_ (n_la μ10 (upd (m_la μ10) (m_st μ10).toNatClampNeg v3)) (fun μ13 => gd (inB v3 12) (lt_ (n_tl μ13 (upd (m_tl μ13) v3.toNatClampNeg v1)) (fun μ16 => gd (inB (m_st μ16) 200) (if (m_lf μ16 (m_st μ16).toNatClampNeg) = (200 : Int32) then gd (isZ (1 : Int32)) (lt_ (n_dn μ16 (1 : Int32)) (fun μ26 => lt_ (n_st μ26 ((m_st μ26) + (1 : Int32))) (fun μ28 => some μ28))) else gd (isZ (0 : Int32)) (lt_ (n_dn μ16 (0 : Int32)) (fun μ21 => lt_ (n_st μ21 ((m_st μ21) + (1 : Int32))) (fun μ23 => some μ23)))))))))))))) else if (m_st μ) = 0 then if v3 = (-1 : Int32) then lt_ (v4 + (1 : Int32)) (fun x35 => f_X4_does_L72 N n v1 v2 v4 x35 μ) else if (m_st μ) = 0 then (f_X4_isLess N v4 v3 (-1 : Int32) μ).bind (fun r45 => if r45.1 = 0 then lt_ (v4 + (1 : Int32)) (fun x48 => f_X4_does_L72 N n v1 v2 v3 x48 r45.2) else lt_ (v4 + (1 : Int32)) (fun x50 => f_X4_does_L72 N n v1 v2 v4 x50 r45.2)) else (f_X4_isLess N v4 v3 v2 μ).bind (fun r38 => if r38.1 = 0 then lt_ (v4 + (1 : Int32)) (fun x41 => f_X4_does_L72 N n v1 v2 v3 x41 r38.2) else lt_ (v4 + (1 : Int32)) (fun x43 => f_X4_does_L72 N n v1 v2 v4 x43 r38.2)) else gd (inB (((26 : Int32) * v4) + v2) 312) (if (lg_cmp (m_tb μ (((26 : Int32) * v4) + v2).toNatClampNeg) (0 : Int64)) ≤ 0 then lt_ (v4 + (1 : Int32)) (fun x54 => f_X4_does_L72 N n v1 v2 v3 x54 μ) else if v3 = (-1 : Int32) then lt_ (v4 + (1 : Int32)) (fun x57 => f_X4_does_L72 N n v1 v2 v4 x57 μ) else if (m_st μ) = 0 then (f_X4_isLess N v4 v3 (-1 : Int32) μ).bind (fun r67 => if r67.1 = 0 then lt_ (v4 + (1 : Int32)) (fun x70 => f_X4_does_L72 N n v1 v2 v3 x70 r67.2) else lt_ (v4 + (1 : Int32)) (fun x72 => f_X4_does_L72 N n v1 v2 v4 x72 r67.2)) else (f_X4_isLess N v4 v3 v2 μ).bind (fun r60 => if r60.1 = 0 then lt_ (v4 + (1 : Int32)) (fun x63 => f_X4_does_L72 N n v1 v2 v3 x63 r60.2) else lt_ (v4 + (1 : Int32)) (fun x65 => f_X4_does_L72 N n v1 v2 v4 x65 r60.2)))
set_option maxHeartbeats 4000000 in
set_option maxRecDepth 100000 in
theorem t_X4_does_L72 {p : Program} {l : Launch} {e : Env} {s : State} {m : MethodId} {args : Array Value} {below : List Frame} {meth : Method} {c : Code} {D : va_G} {A : Nat → Prop} {k : Nat → ClassId} {a : Nat → Nat} (X : CallFix p m c cX4_does 5 s args wsX4_does RX4) (hr : meth.sig.returnType = none) (hlk : meth.locks = false) (hK : va_K D vwCl (mT k) s) (hA : ∀ q : Nat, s.heap.size ≤ q → A q) (N : Nat) : ∀ (n : Nat) (v1 : Int32) (v2 : Int32) (v3 : Int32) (v4 : Int32) (μ : MS) (R : MS), f_X4_does_L72 N n v1 v2 v3 v4 μ = some R → ∀ (H : Heap) (locs : List Loc) (ls : Array Slot), va_P D vwCl (mW k a μ) H → va_D A (mW k a μ) → va_S A s.heap H locs → lv_has ls 5 [(0, .ref (a 0)), (1, .int v1), (2, .int v2), (3, .int v3), (4, .int v4)] → W p l e ({ frames := 4, cells := 0, slots := 0, locals := 131 } : Room) s m args below meth c H locs 0 0 (MQ below (cQ D (mT k) A (mW k a R) none) args s 0 0 A) (F0 m 72 ls []) := by
  intro n
  induction n with
  | zero =>
    intro v1 v2 v3 v4 μ R h
    exact absurd h (by simp [f_X4_does_L72])
  | succ n ih =>
    intro v1 v2 v3 v4 μ R h H locs ls hP hD hS hl
    rw [f_X4_does_L72] at h
    refine lv_iload X.1 X.2.1 dX4_does_72 (lv_at hl 4 rfl) ?_
    refine lv_aload_n X.1 X.2.1 dX4_does_74 rfl (lv_at hl 0 rfl) ?_
    refine gX4_rows X (fun w h => (List.mem_cons_of_mem _ (List.mem_append_right _ h))) hK hP (List.mem_cons_of_mem _ (List.mem_append_left _ (List.mem_append_left _ (List.mem_of_getElem? (i := 2) rfl)))) dX4_does_75 ?_
    refine lv_icmp_ge (tgt := 141) X.1 X.2.1 dX4_does_78 (by decide) (fun c1 => ?_) (fun c1 => ?_)
    · rw [if_pos c1] at h
      refine lv_iload_n X.1 X.2.1 dX4_does_141 rfl (lv_at hl 3 rfl) ?_
      refine lv_iconst (v := (-1 : Int32)) X.1 X.2.1 dX4_does_142 (by decide) ?_
      refine lv_icmp_ne (tgt := 152) X.1 X.2.1 dX4_does_143 (by decide) (fun c2 => ?_) (fun c2 => ?_)
      · rw [if_neg c2] at h
        refine lv_aload_n X.1 X.2.1 dX4_does_152 rfl (lv_at hl 0 rfl) ?_
        refine lv_iload_n X.1 X.2.1 dX4_does_153 rfl (lv_at hl 3 rfl) ?_
        refine lv_iload_n X.1 X.2.1 dX4_does_154 rfl (lv_at hl 2 rfl) ?_
        obtain ⟨r3, q4, h⟩ := bd_e h
        refine kc_v (As := [.int v3, .int v2]) (rest := []) X (k_X4_turn N v3 v2 μ _ q4) (cwV 2 X.2.2.2.2 gX4_does_X4_turn rfl rfl rfl hd_X4_turn ⟨Nat.le_of_ble_eq_true rfl, Nat.le_of_ble_eq_true rfl⟩) hK hP hD hS hA (va_recv hK hP (ci := 3) (q0 := 0) rfl rfl) rfl hl.1 rfl (Nat.le_of_ble_eq_true rfl) dX4_does_155 ⟨Nat.le_of_ble_eq_true rfl, Nat.le_of_ble_eq_true rfl⟩ (fun H locs hP hD hS => ?_)
        refine lv_aload_n X.1 X.2.1 dX4_does_158 rfl (lv_at hl 0 rfl) ?_
        refine gX4_entered X (fun w h => (List.mem_cons_of_mem _ (List.mem_append_right _ h))) hK hP (List.mem_cons_of_mem _ (List.mem_append_left _ (List.mem_append_left _ (List.mem_of_getElem? (i := 5) rfl)))) dX4_does_159 ?_
        refine lv_aload_n X.1 X.2.1 dX4_does_162 rfl (lv_at hl 0 rfl) ?_
        refine gX4_steps X (fun w h => (List.mem_cons_of_mem _ (List.mem_append_right _ h))) hK hP (List.mem_cons_of_mem _ (List.mem_append_left _ (List.mem_append_left _ (List.mem_of_getElem? (i := 0) rfl)))) dX4_does_163 ?_
        refine lv_iload_n X.1 X.2.1 dX4_does_166 rfl (lv_at hl 1 rfl) ?_
        obtain ⟨g5, h⟩ := gd_e h
        obtain ⟨μ6, e7, h⟩ := lt_e h
        refine tm_en X hK hP hD hS g5 e7 dX4_does_167 (fun H locs hP hD hS => ?_)
        refine lv_aload_n X.1 X.2.1 dX4_does_168 rfl (lv_at hl 0 rfl) ?_
        refine gX4_left X (fun w h => (List.mem_cons_of_mem _ (List.mem_append_right _ h))) hK hP (List.mem_cons_of_mem _ (List.mem_append_left _ (List.mem_append_left _ (List.mem_of_getElem? (i := 1) rfl)))) dX4_does_169 ?_
        refine lv_aload_n X.1 X.2.1 dX4_does_172 rfl (lv_at hl 0 rfl) ?_
        refine gX4_steps X (fun w h => (List.mem_cons_of_mem _ (List.mem_append_right _ h))) hK hP (List.mem_cons_of_mem _ (List.mem_append_left _ (List.mem_append_left _ (List.mem_of_getElem? (i := 0) rfl)))) dX4_does_173 ?_
        refine lv_aload_n X.1 X.2.1 dX4_does_176 rfl (lv_at hl 0 rfl) ?_
        refine gX4_tells X (fun w h => (List.mem_cons_of_mem _ (List.mem_append_right _ h))) hK hP (List.mem_cons_of_mem _ (List.mem_append_left _ (List.mem_append_left _ (List.mem_of_getElem? (i := 6) rfl)))) dX4_does_177 ?_
        refine lv_iload_n X.1 X.2.1 dX4_does_180 rfl (lv_at hl 3 rfl) ?_
        obtain ⟨g8, h⟩ := gd_e h
        refine lm_tl X hK hP g8 dX4_does_181 ?_
        obtain ⟨g9, h⟩ := gd_e h
        obtain ⟨μ10, e11, h⟩ := lt_e h
        refine tm_lf X hK hP hD hS g9 e11 dX4_does_182 (fun H locs hP hD hS => ?_)
        refine lv_aload_n X.1 X.2.1 dX4_does_183 rfl (lv_at hl 0 rfl) ?_
        refine gX4_leftAt X (fun w h => (List.mem_cons_of_mem _ (List.mem_append_right _ h))) hK hP (List.mem_cons_of_mem _ (List.mem_append_left _ (List.mem_append_left _ (List.mem_of_getElem? (i := 7) rfl)))) dX4_does_184 ?_
        refine lv_aload_n X.1 X.2.1 dX4_does_187 rfl (lv_at hl 0 rfl) ?_
        refine gX4_steps X (fun w h => (List.mem_cons_of_mem _ (List.mem_append_right _ h))) hK hP (List.mem_cons_of_mem _ (List.mem_append_left _ (List.mem_append_left _ (List.mem_of_getElem? (i := 0) rfl)))) dX4_does_188 ?_
        refine lv_iload_n X.1 X.2.1 dX4_does_191 rfl (lv_at hl 3 rfl) ?_
        obtain ⟨g12, h⟩ := gd_e h
        obtain ⟨μ13, e14, h⟩ := lt_e h
        refine tm_la X hK hP hD hS g12 e14 dX4_does_192 (fun H locs hP hD hS => ?_)
        refine lv_aload_n X.1 X.2.1 dX4_does_193 rfl (lv_at hl 0 rfl) ?_
        refine gX4_tells X (fun w h => (List.mem_cons_of_mem _ (List.mem_append_right _ h))) hK hP (List.mem_cons_of_mem _ (List.mem_append_left _ (List.mem_append_left _ (List.mem_of_getElem? (i := 6) rfl)))) dX4_does_194 ?_
        refine lv_iload_n X.1 X.2.1 dX4_does_197 rfl (lv_at hl 3 rfl) ?_
        refine lv_iload_n X.1 X.2.1 dX4_does_198 rfl (lv_at hl 1 rfl) ?_
        obtain ⟨g15, h⟩ := gd_e h
        obtain ⟨μ16, e17, h⟩ := lt_e h
        refine tm_tl X hK hP hD hS g15 e17 dX4_does_199 (fun H locs hP hD hS => ?_)
        refine lv_aload_n X.1 X.2.1 dX4_does_200 rfl (lv_at hl 0 rfl) ?_
        refine lv_aload_n X.1 X.2.1 dX4_does_201 rfl (lv_at hl 0 rfl) ?_
        refine gX4_left X (fun w h => (List.mem_cons_of_mem _ (List.mem_append_right _ h))) hK hP (List.mem_cons_of_mem _ (List.mem_append_left _ (List.mem_append_left _ (List.mem_of_getElem? (i := 1) rfl)))) dX4_does_202 ?_
        refine lv_aload_n X.1 X.2.1 dX4_does_205 rfl (lv_at hl 0 rfl) ?_
        refine gX4_steps X (fun w h => (List.mem_cons_of_mem _ (List.mem_append_right _ h))) hK hP (List.mem_cons_of_mem _ (List.mem_append_left _ (List.mem_append_left _ (List.mem_of_getElem? (i := 0) rfl)))) dX4_does_206 ?_
        obtain ⟨g18, h⟩ := gd_e h
        refine lm_lf X hK hP g18 dX4_does_209 ?_
        refine lv_sipush (v := (200 : Int32)) X.1 X.2.1 dX4_does_210 (by decide) ?_
        refine lv_icmp_ne (tgt := 220) X.1 X.2.1 dX4_does_213 (by decide) (fun c19 => ?_) (fun c19 => ?_)
        · rw [if_neg c19] at h
          refine lv_iconst (v := (0 : Int32)) X.1 X.2.1 dX4_does_220 (by decide) ?_
          obtain ⟨g20, h⟩ := gd_e h
          obtain ⟨μ21, e22, h⟩ := lt_e h
          refine pX4_isDone X (fun w h => (List.mem_cons_of_mem _ (List.mem_append_right _ h))) hK hP hD hS g20 (List.mem_cons_of_mem _ (List.mem_append_left _ (List.mem_append_left _ (List.mem_of_getElem? (i := 8) rfl)))) e22 dX4_does_221 (fun H locs hP hD hS => ?_)
          refine lv_aload_n X.1 X.2.1 dX4_does_224 rfl (lv_at hl 0 rfl) ?_
          refine lv_dup X.1 X.2.1 dX4_does_225 rfl ?_
          refine gX4_steps X (fun w h => (List.mem_cons_of_mem _ (List.mem_append_right _ h))) hK hP (List.mem_cons_of_mem _ (List.mem_append_left _ (List.mem_append_left _ (List.mem_of_getElem? (i := 0) rfl)))) dX4_does_226 ?_
          refine lv_iconst (v := (1 : Int32)) X.1 X.2.1 dX4_does_229 (by decide) ?_
          refine lv_iadd X.1 X.2.1 dX4_does_230 ?_
          obtain ⟨μ23, e24, h⟩ := lt_e h
          refine pX4_steps X (fun w h => (List.mem_cons_of_mem _ (List.mem_append_right _ h))) hK hP hD hS (List.mem_cons_of_mem _ (List.mem_append_left _ (List.mem_append_left _ (List.mem_of_getElem? (i := 0) rfl)))) e24 dX4_does_231 (fun H locs hP hD hS => ?_)
          have h := sm_e h
          subst h
          exact rt_v X hr hlk hK hP hD hS dX4_does_234
        · rw [if_pos c19] at h
          refine lv_iconst (v := (1 : Int32)) X.1 X.2.1 dX4_does_216 (by decide) ?_
          refine lv_goto (tgt := 221) X.1 X.2.1 dX4_does_217 (by decide) ?_
          obtain ⟨g25, h⟩ := gd_e h
          obtain ⟨μ26, e27, h⟩ := lt_e h
          refine pX4_isDone X (fun w h => (List.mem_cons_of_mem _ (List.mem_append_right _ h))) hK hP hD hS g25 (List.mem_cons_of_mem _ (List.mem_append_left _ (List.mem_append_left _ (List.mem_of_getElem? (i := 8) rfl)))) e27 dX4_does_221 (fun H locs hP hD hS => ?_)
          refine lv_aload_n X.1 X.2.1 dX4_does_224 rfl (lv_at hl 0 rfl) ?_
          refine lv_dup X.1 X.2.1 dX4_does_225 rfl ?_
          refine gX4_steps X (fun w h => (List.mem_cons_of_mem _ (List.mem_append_right _ h))) hK hP (List.mem_cons_of_mem _ (List.mem_append_left _ (List.mem_append_left _ (List.mem_of_getElem? (i := 0) rfl)))) dX4_does_226 ?_
          refine lv_iconst (v := (1 : Int32)) X.1 X.2.1 dX4_does_229 (by decide) ?_
          refine lv_iadd X.1 X.2.1 dX4_does_230 ?_
          obtain ⟨μ28, e29, h⟩ := lt_e h
          refine pX4_steps X (fun w h => (List.mem_cons_of_mem _ (List.mem_append_right _ h))) hK hP hD hS (List.mem_cons_of_mem _ (List.mem_append_left _ (List.mem_append_left _ (List.mem_of_getElem? (i := 0) rfl)))) e29 dX4_does_231 (fun H locs hP hD hS => ?_)
          have h := sm_e h
          subst h
          exact rt_v X hr hlk hK hP hD hS dX4_does_234
      · rw [if_pos c2] at h
        refine lv_aload_n X.1 X.2.1 dX4_does_146 rfl (lv_at hl 0 rfl) ?_
        refine lv_iconst (v := (1 : Int32)) X.1 X.2.1 dX4_does_147 (by decide) ?_
        obtain ⟨g30, h⟩ := gd_e h
        obtain ⟨μ31, e32, h⟩ := lt_e h
        refine pX4_isRay X (fun w h => (List.mem_cons_of_mem _ (List.mem_append_right _ h))) hK hP hD hS g30 (List.mem_cons_of_mem _ (List.mem_append_left _ (List.mem_append_left _ (List.mem_of_getElem? (i := 4) rfl)))) e32 dX4_does_148 (fun H locs hP hD hS => ?_)
        have h := sm_e h
        subst h
        exact rt_v X hr hlk hK hP hD hS dX4_does_151
    · rw [if_neg c1] at h
      refine lv_aload_n X.1 X.2.1 dX4_does_81 rfl (lv_at hl 0 rfl) ?_
      refine gX4_steps X (fun w h => (List.mem_cons_of_mem _ (List.mem_append_right _ h))) hK hP (List.mem_cons_of_mem _ (List.mem_append_left _ (List.mem_append_left _ (List.mem_of_getElem? (i := 0) rfl)))) dX4_does_82 ?_
      refine lv_if_eq (tgt := 105) X.1 X.2.1 dX4_does_85 (by decide) (fun c33 => ?_) (fun c33 => ?_)
      · rw [if_pos c33] at h
        refine lv_iload_n X.1 X.2.1 dX4_does_105 rfl (lv_at hl 3 rfl) ?_
        refine lv_iconst (v := (-1 : Int32)) X.1 X.2.1 dX4_does_106 (by decide) ?_
        refine lv_icmp_eq (tgt := 132) X.1 X.2.1 dX4_does_107 (by decide) (fun c34 => ?_) (fun c34 => ?_)
        · rw [if_pos c34] at h
          refine lv_iload X.1 X.2.1 dX4_does_132 (lv_at hl 4 rfl) ?_
          refine lv_istore_n (lv' := [(3, .int v4), (0, .ref (a 0)), (1, .int v1), (2, .int v2), (4, .int v4)]) X.1 X.2.1 dX4_does_134 rfl hl (by decide) rfl (fun ls hl => ?_)
          obtain ⟨x35, e36, h⟩ := lt_e h
          refine lv_iinc (v := x35) (lv' := [(4, .int x35), (3, .int v4), (0, .ref (a 0)), (1, .int v1), (2, .int v2)]) X.1 X.2.1 dX4_does_135 hl (k := 4) rfl e36.symm (by decide) rfl (fun ls hl => ?_)
          refine lv_goto (tgt := 72) X.1 X.2.1 dX4_does_138 (by decide) ?_
          exact ih v1 v2 v4 x35 μ _ h _ _ _ hP hD hS (lv_sub hl [2, 3, 4, 1, 0] rfl)
        · rw [if_neg c34] at h
          refine lv_aload_n X.1 X.2.1 dX4_does_110 rfl (lv_at hl 0 rfl) ?_
          refine lv_iload X.1 X.2.1 dX4_does_111 (lv_at hl 4 rfl) ?_
          refine lv_iload_n X.1 X.2.1 dX4_does_113 rfl (lv_at hl 3 rfl) ?_
          refine lv_aload_n X.1 X.2.1 dX4_does_114 rfl (lv_at hl 0 rfl) ?_
          refine gX4_steps X (fun w h => (List.mem_cons_of_mem _ (List.mem_append_right _ h))) hK hP (List.mem_cons_of_mem _ (List.mem_append_left _ (List.mem_append_left _ (List.mem_of_getElem? (i := 0) rfl)))) dX4_does_115 ?_
          refine lv_if_ne (tgt := 125) X.1 X.2.1 dX4_does_118 (by decide) (fun c37 => ?_) (fun c37 => ?_)
          · rw [if_neg c37] at h
            refine lv_iload_n X.1 X.2.1 dX4_does_125 rfl (lv_at hl 2 rfl) ?_
            obtain ⟨r38, q39, h⟩ := bd_e h
            refine kc_v (As := [.int v4, .int v3, .int v2]) (rest := []) X (k_X4_isLess N v4 v3 v2 μ _ q39) (cwV 3 X.2.2.2.2 gX4_does_X4_isLess rfl rfl rfl hd_X4_isLess ⟨Nat.le_of_ble_eq_true rfl, Nat.le_of_ble_eq_true rfl⟩) hK hP hD hS hA (va_recv hK hP (ci := 3) (q0 := 0) rfl rfl) rfl hl.1 rfl (Nat.le_of_ble_eq_true rfl) dX4_does_126 ⟨Nat.le_of_ble_eq_true rfl, Nat.le_of_ble_eq_true rfl⟩ (fun H locs hP hD hS => ?_)
            refine lv_if_eq (tgt := 135) X.1 X.2.1 dX4_does_129 (by decide) (fun c40 => ?_) (fun c40 => ?_)
            · rw [if_pos c40] at h
              obtain ⟨x41, e42, h⟩ := lt_e h
              refine lv_iinc (v := x41) (lv' := [(4, .int x41), (0, .ref (a 0)), (1, .int v1), (2, .int v2), (3, .int v3)]) X.1 X.2.1 dX4_does_135 hl (k := 4) rfl e42.symm (by decide) rfl (fun ls hl => ?_)
              refine lv_goto (tgt := 72) X.1 X.2.1 dX4_does_138 (by decide) ?_
              exact ih v1 v2 v3 x41 r38.2 _ h _ _ _ hP hD hS (lv_sub hl [1, 2, 3, 4, 0] rfl)
            · rw [if_neg c40] at h
              refine lv_iload X.1 X.2.1 dX4_does_132 (lv_at hl 4 rfl) ?_
              refine lv_istore_n (lv' := [(3, .int v4), (0, .ref (a 0)), (1, .int v1), (2, .int v2), (4, .int v4)]) X.1 X.2.1 dX4_does_134 rfl hl (by decide) rfl (fun ls hl => ?_)
              obtain ⟨x43, e44, h⟩ := lt_e h
              refine lv_iinc (v := x43) (lv' := [(4, .int x43), (3, .int v4), (0, .ref (a 0)), (1, .int v1), (2, .int v2)]) X.1 X.2.1 dX4_does_135 hl (k := 4) rfl e44.symm (by decide) rfl (fun ls hl => ?_)
              refine lv_goto (tgt := 72) X.1 X.2.1 dX4_does_138 (by decide) ?_
              exact ih v1 v2 v4 x43 r38.2 _ h _ _ _ hP hD hS (lv_sub hl [2, 3, 4, 1, 0] rfl)
          · rw [if_pos c37] at h
            refine lv_iconst (v := (-1 : Int32)) X.1 X.2.1 dX4_does_121 (by decide) ?_
            refine lv_goto (tgt := 126) X.1 X.2.1 dX4_does_122 (by decide) ?_
            obtain ⟨r45, q46, h⟩ := bd_e h
            refine kc_v (As := [.int v4, .int v3, .int (-1 : Int32)]) (rest := []) X (k_X4_isLess N v4 v3 (-1 : Int32) μ _ q46) (cwV 3 X.2.2.2.2 gX4_does_X4_isLess rfl rfl rfl hd_X4_isLess ⟨Nat.le_of_ble_eq_true rfl, Nat.le_of_ble_eq_true rfl⟩) hK hP hD hS hA (va_recv hK hP (ci := 3) (q0 := 0) rfl rfl) rfl hl.1 rfl (Nat.le_of_ble_eq_true rfl) dX4_does_126 ⟨Nat.le_of_ble_eq_true rfl, Nat.le_of_ble_eq_true rfl⟩ (fun H locs hP hD hS => ?_)
            refine lv_if_eq (tgt := 135) X.1 X.2.1 dX4_does_129 (by decide) (fun c47 => ?_) (fun c47 => ?_)
            · rw [if_pos c47] at h
              obtain ⟨x48, e49, h⟩ := lt_e h
              refine lv_iinc (v := x48) (lv' := [(4, .int x48), (0, .ref (a 0)), (1, .int v1), (2, .int v2), (3, .int v3)]) X.1 X.2.1 dX4_does_135 hl (k := 4) rfl e49.symm (by decide) rfl (fun ls hl => ?_)
              refine lv_goto (tgt := 72) X.1 X.2.1 dX4_does_138 (by decide) ?_
              exact ih v1 v2 v3 x48 r45.2 _ h _ _ _ hP hD hS (lv_sub hl [1, 2, 3, 4, 0] rfl)
            · rw [if_neg c47] at h
              refine lv_iload X.1 X.2.1 dX4_does_132 (lv_at hl 4 rfl) ?_
              refine lv_istore_n (lv' := [(3, .int v4), (0, .ref (a 0)), (1, .int v1), (2, .int v2), (4, .int v4)]) X.1 X.2.1 dX4_does_134 rfl hl (by decide) rfl (fun ls hl => ?_)
              obtain ⟨x50, e51, h⟩ := lt_e h
              refine lv_iinc (v := x50) (lv' := [(4, .int x50), (3, .int v4), (0, .ref (a 0)), (1, .int v1), (2, .int v2)]) X.1 X.2.1 dX4_does_135 hl (k := 4) rfl e51.symm (by decide) rfl (fun ls hl => ?_)
              refine lv_goto (tgt := 72) X.1 X.2.1 dX4_does_138 (by decide) ?_
              exact ih v1 v2 v4 x50 r45.2 _ h _ _ _ hP hD hS (lv_sub hl [2, 3, 4, 1, 0] rfl)
      · rw [if_neg c33] at h
        refine lv_aload_n X.1 X.2.1 dX4_does_88 rfl (lv_at hl 0 rfl) ?_
        refine gX4_table X (fun w h => (List.mem_cons_of_mem _ (List.mem_append_right _ h))) hK hP (List.mem_cons_of_mem _ (List.mem_append_left _ (List.mem_append_left _ (List.mem_of_getElem? (i := 3) rfl)))) dX4_does_89 ?_
        refine lv_bipush (v := (26 : Int32)) X.1 X.2.1 dX4_does_92 (by decide) ?_
        refine lv_iload X.1 X.2.1 dX4_does_94 (lv_at hl 4 rfl) ?_
        refine lv_imul X.1 X.2.1 dX4_does_96 ?_
        refine lv_iload_n X.1 X.2.1 dX4_does_97 rfl (lv_at hl 2 rfl) ?_
        refine lv_iadd X.1 X.2.1 dX4_does_98 ?_
        obtain ⟨g52, h⟩ := gd_e h
        refine lm_tb X hK hP g52 dX4_does_99 ?_
        refine lv_lconst (v := (0 : Int64)) X.1 X.2.1 dX4_does_100 (by decide) ?_
        refine W.lcmp X.1 X.2.1 dX4_does_101 ?_
        refine lv_if_le (tgt := 135) X.1 X.2.1 dX4_does_102 (by decide) (fun c53 => ?_) (fun c53 => ?_)
        · rw [if_pos c53] at h
          obtain ⟨x54, e55, h⟩ := lt_e h
          refine lv_iinc (v := x54) (lv' := [(4, .int x54), (0, .ref (a 0)), (1, .int v1), (2, .int v2), (3, .int v3)]) X.1 X.2.1 dX4_does_135 hl (k := 4) rfl e55.symm (by decide) rfl (fun ls hl => ?_)
          refine lv_goto (tgt := 72) X.1 X.2.1 dX4_does_138 (by decide) ?_
          exact ih v1 v2 v3 x54 μ _ h _ _ _ hP hD hS (lv_sub hl [1, 2, 3, 4, 0] rfl)
        · rw [if_neg c53] at h
          refine lv_iload_n X.1 X.2.1 dX4_does_105 rfl (lv_at hl 3 rfl) ?_
          refine lv_iconst (v := (-1 : Int32)) X.1 X.2.1 dX4_does_106 (by decide) ?_
          refine lv_icmp_eq (tgt := 132) X.1 X.2.1 dX4_does_107 (by decide) (fun c56 => ?_) (fun c56 => ?_)
          · rw [if_pos c56] at h
            refine lv_iload X.1 X.2.1 dX4_does_132 (lv_at hl 4 rfl) ?_
            refine lv_istore_n (lv' := [(3, .int v4), (0, .ref (a 0)), (1, .int v1), (2, .int v2), (4, .int v4)]) X.1 X.2.1 dX4_does_134 rfl hl (by decide) rfl (fun ls hl => ?_)
            obtain ⟨x57, e58, h⟩ := lt_e h
            refine lv_iinc (v := x57) (lv' := [(4, .int x57), (3, .int v4), (0, .ref (a 0)), (1, .int v1), (2, .int v2)]) X.1 X.2.1 dX4_does_135 hl (k := 4) rfl e58.symm (by decide) rfl (fun ls hl => ?_)
            refine lv_goto (tgt := 72) X.1 X.2.1 dX4_does_138 (by decide) ?_
            exact ih v1 v2 v4 x57 μ _ h _ _ _ hP hD hS (lv_sub hl [2, 3, 4, 1, 0] rfl)
          · rw [if_neg c56] at h
            refine lv_aload_n X.1 X.2.1 dX4_does_110 rfl (lv_at hl 0 rfl) ?_
            refine lv_iload X.1 X.2.1 dX4_does_111 (lv_at hl 4 rfl) ?_
            refine lv_iload_n X.1 X.2.1 dX4_does_113 rfl (lv_at hl 3 rfl) ?_
            refine lv_aload_n X.1 X.2.1 dX4_does_114 rfl (lv_at hl 0 rfl) ?_
            refine gX4_steps X (fun w h => (List.mem_cons_of_mem _ (List.mem_append_right _ h))) hK hP (List.mem_cons_of_mem _ (List.mem_append_left _ (List.mem_append_left _ (List.mem_of_getElem? (i := 0) rfl)))) dX4_does_115 ?_
            refine lv_if_ne (tgt := 125) X.1 X.2.1 dX4_does_118 (by decide) (fun c59 => ?_) (fun c59 => ?_)
            · rw [if_neg c59] at h
              refine lv_iload_n X.1 X.2.1 dX4_does_125 rfl (lv_at hl 2 rfl) ?_
              obtain ⟨r60, q61, h⟩ := bd_e h
              refine kc_v (As := [.int v4, .int v3, .int v2]) (rest := []) X (k_X4_isLess N v4 v3 v2 μ _ q61) (cwV 3 X.2.2.2.2 gX4_does_X4_isLess rfl rfl rfl hd_X4_isLess ⟨Nat.le_of_ble_eq_true rfl, Nat.le_of_ble_eq_true rfl⟩) hK hP hD hS hA (va_recv hK hP (ci := 3) (q0 := 0) rfl rfl) rfl hl.1 rfl (Nat.le_of_ble_eq_true rfl) dX4_does_126 ⟨Nat.le_of_ble_eq_true rfl, Nat.le_of_ble_eq_true rfl⟩ (fun H locs hP hD hS => ?_)
              refine lv_if_eq (tgt := 135) X.1 X.2.1 dX4_does_129 (by decide) (fun c62 => ?_) (fun c62 => ?_)
              · rw [if_pos c62] at h
                obtain ⟨x63, e64, h⟩ := lt_e h
                refine lv_iinc (v := x63) (lv' := [(4, .int x63), (0, .ref (a 0)), (1, .int v1), (2, .int v2), (3, .int v3)]) X.1 X.2.1 dX4_does_135 hl (k := 4) rfl e64.symm (by decide) rfl (fun ls hl => ?_)
                refine lv_goto (tgt := 72) X.1 X.2.1 dX4_does_138 (by decide) ?_
                exact ih v1 v2 v3 x63 r60.2 _ h _ _ _ hP hD hS (lv_sub hl [1, 2, 3, 4, 0] rfl)
              · rw [if_neg c62] at h
                refine lv_iload X.1 X.2.1 dX4_does_132 (lv_at hl 4 rfl) ?_
                refine lv_istore_n (lv' := [(3, .int v4), (0, .ref (a 0)), (1, .int v1), (2, .int v2), (4, .int v4)]) X.1 X.2.1 dX4_does_134 rfl hl (by decide) rfl (fun ls hl => ?_)
                obtain ⟨x65, e66, h⟩ := lt_e h
                refine lv_iinc (v := x65) (lv' := [(4, .int x65), (3, .int v4), (0, .ref (a 0)), (1, .int v1), (2, .int v2)]) X.1 X.2.1 dX4_does_135 hl (k := 4) rfl e66.symm (by decide) rfl (fun ls hl => ?_)
                refine lv_goto (tgt := 72) X.1 X.2.1 dX4_does_138 (by decide) ?_
                exact ih v1 v2 v4 x65 r60.2 _ h _ _ _ hP hD hS (lv_sub hl [2, 3, 4, 1, 0] rfl)
            · rw [if_pos c59] at h
              refine lv_iconst (v := (-1 : Int32)) X.1 X.2.1 dX4_does_121 (by decide) ?_
              refine lv_goto (tgt := 126) X.1 X.2.1 dX4_does_122 (by decide) ?_
              obtain ⟨r67, q68, h⟩ := bd_e h
              refine kc_v (As := [.int v4, .int v3, .int (-1 : Int32)]) (rest := []) X (k_X4_isLess N v4 v3 (-1 : Int32) μ _ q68) (cwV 3 X.2.2.2.2 gX4_does_X4_isLess rfl rfl rfl hd_X4_isLess ⟨Nat.le_of_ble_eq_true rfl, Nat.le_of_ble_eq_true rfl⟩) hK hP hD hS hA (va_recv hK hP (ci := 3) (q0 := 0) rfl rfl) rfl hl.1 rfl (Nat.le_of_ble_eq_true rfl) dX4_does_126 ⟨Nat.le_of_ble_eq_true rfl, Nat.le_of_ble_eq_true rfl⟩ (fun H locs hP hD hS => ?_)
              refine lv_if_eq (tgt := 135) X.1 X.2.1 dX4_does_129 (by decide) (fun c69 => ?_) (fun c69 => ?_)
              · rw [if_pos c69] at h
                obtain ⟨x70, e71, h⟩ := lt_e h
                refine lv_iinc (v := x70) (lv' := [(4, .int x70), (0, .ref (a 0)), (1, .int v1), (2, .int v2), (3, .int v3)]) X.1 X.2.1 dX4_does_135 hl (k := 4) rfl e71.symm (by decide) rfl (fun ls hl => ?_)
                refine lv_goto (tgt := 72) X.1 X.2.1 dX4_does_138 (by decide) ?_
                exact ih v1 v2 v3 x70 r67.2 _ h _ _ _ hP hD hS (lv_sub hl [1, 2, 3, 4, 0] rfl)
              · rw [if_neg c69] at h
                refine lv_iload X.1 X.2.1 dX4_does_132 (lv_at hl 4 rfl) ?_
                refine lv_istore_n (lv' := [(3, .int v4), (0, .ref (a 0)), (1, .int v1), (2, .int v2), (4, .int v4)]) X.1 X.2.1 dX4_does_134 rfl hl (by decide) rfl (fun ls hl => ?_)
                obtain ⟨x72, e73, h⟩ := lt_e h
                refine lv_iinc (v := x72) (lv' := [(4, .int x72), (3, .int v4), (0, .ref (a 0)), (1, .int v1), (2, .int v2)]) X.1 X.2.1 dX4_does_135 hl (k := 4) rfl e73.symm (by decide) rfl (fun ls hl => ?_)
                refine lv_goto (tgt := 72) X.1 X.2.1 dX4_does_138 (by decide) ?_
                exact ih v1 v2 v4 x72 r67.2 _ h _ _ _ hP hD hS (lv_sub hl [2, 3, 4, 1, 0] rfl)
def f_X4_does (N : Nat) (μ : MS) : Option MS := if (m_st μ) = 0 then (f_X4_columnOf (200 : Int32) μ).bind (fun r79 => f_X4_does_L72 N N (200 : Int32) r79 (-1 : Int32) (0 : Int32) μ) else gd (inB ((m_st μ) - (1 : Int32)) 200) (if (100 : Int32) ≤ (m_lf μ ((m_st μ) - (1 : Int32)).toNatClampNeg) then gd (inB ((m_st μ) - (1 : Int32)) 200) (lt_ ((m_lf μ ((m_st μ) - (1 : Int32)).toNatClampNeg) - (100 : Int32)) (fun x5 => (f_X4_columnOf x5 μ).bind (fun r7 => f_X4_does_L72 N N x5 r7 (-1 : Int32) (0 : Int32) μ))) else gd (inB ((m_st μ) - (1 : Int32)) 200) (lt_ ((m_lf μ ((m_st μ) - (1 : Int32)).toNatClampNeg) + (100 : Int32)) (fun x75 => (f_X4_columnOf x75 μ).bind (fun r77 => f_X4_does_L72 N N x75 r77 (-1 : Int32) (0 : Int32) μ))))
theorem hd_X4_does : yX4_does.cls = RX4 ∧ yX4_does.cls ≠ "java/lang/invoke/MethodHandle" ∧ yX4_does.cls ≠ "java/lang/invoke/VarHandle" ∧ (parseMethodDescriptor yX4_does.desc).map (fun d => d.parameters.length) = some 0 := by decide +kernel
set_option maxHeartbeats 4000000 in
set_option maxRecDepth 100000 in
theorem k_X4_does {l : Launch} {D : va_G} {k : Nat → ClassId} {a : Nat → Nat} (N : Nat)  (μ : MS) (R : MS) (h : f_X4_does N μ = some R) : Ct l yX4_does wsX4_does ({ frames := 4, cells := 0, slots := 0, locals := 131 } : Room) D (mT k) (mW k a μ) (mW k a R) [.ref (a 0)] none := by
  refine ct_of (cc := cX4_does) (maxL := 5) (ret := none) (by decide) rfl (Nat.le_of_ble_eq_true rfl) ?_
  intro p e s m args below meth c A ls X hr hlk hK hA hP hD hS hl
  have X : CallFix p m c cX4_does 5 s args wsX4_does RX4 := X
  have hl : lv_has ls 5 [(0, .ref (a 0))] := hl
  rw [f_X4_does] at h
  refine lv_aload_n X.1 X.2.1 dX4_does_0 rfl (lv_at hl 0 rfl) ?_
  refine gX4_steps X (fun w h => (List.mem_cons_of_mem _ (List.mem_append_right _ h))) hK hP (List.mem_cons_of_mem _ (List.mem_append_left _ (List.mem_append_left _ (List.mem_of_getElem? (i := 0) rfl)))) dX4_does_1 ?_
  refine lv_if_ne (tgt := 13) X.1 X.2.1 dX4_does_4 (by decide) (fun c1 => ?_) (fun c1 => ?_)
  · rw [if_neg c1] at h
    refine lv_aload_n X.1 X.2.1 dX4_does_13 rfl (lv_at hl 0 rfl) ?_
    refine gX4_left X (fun w h => (List.mem_cons_of_mem _ (List.mem_append_right _ h))) hK hP (List.mem_cons_of_mem _ (List.mem_append_left _ (List.mem_append_left _ (List.mem_of_getElem? (i := 1) rfl)))) dX4_does_14 ?_
    refine lv_aload_n X.1 X.2.1 dX4_does_17 rfl (lv_at hl 0 rfl) ?_
    refine gX4_steps X (fun w h => (List.mem_cons_of_mem _ (List.mem_append_right _ h))) hK hP (List.mem_cons_of_mem _ (List.mem_append_left _ (List.mem_append_left _ (List.mem_of_getElem? (i := 0) rfl)))) dX4_does_18 ?_
    refine lv_iconst (v := (1 : Int32)) X.1 X.2.1 dX4_does_21 (by decide) ?_
    refine lv_isub X.1 X.2.1 dX4_does_22 ?_
    obtain ⟨g2, h⟩ := gd_e h
    refine lm_lf X hK hP g2 dX4_does_23 ?_
    refine lv_bipush (v := (100 : Int32)) X.1 X.2.1 dX4_does_24 (by decide) ?_
    refine lv_icmp_ge (tgt := 46) X.1 X.2.1 dX4_does_26 (by decide) (fun c3 => ?_) (fun c3 => ?_)
    · rw [if_pos c3] at h
      refine lv_aload_n X.1 X.2.1 dX4_does_46 rfl (lv_at hl 0 rfl) ?_
      refine gX4_left X (fun w h => (List.mem_cons_of_mem _ (List.mem_append_right _ h))) hK hP (List.mem_cons_of_mem _ (List.mem_append_left _ (List.mem_append_left _ (List.mem_of_getElem? (i := 1) rfl)))) dX4_does_47 ?_
      refine lv_aload_n X.1 X.2.1 dX4_does_50 rfl (lv_at hl 0 rfl) ?_
      refine gX4_steps X (fun w h => (List.mem_cons_of_mem _ (List.mem_append_right _ h))) hK hP (List.mem_cons_of_mem _ (List.mem_append_left _ (List.mem_append_left _ (List.mem_of_getElem? (i := 0) rfl)))) dX4_does_51 ?_
      refine lv_iconst (v := (1 : Int32)) X.1 X.2.1 dX4_does_54 (by decide) ?_
      refine lv_isub X.1 X.2.1 dX4_does_55 ?_
      obtain ⟨g4, h⟩ := gd_e h
      refine lm_lf X hK hP g4 dX4_does_56 ?_
      refine lv_bipush (v := (100 : Int32)) X.1 X.2.1 dX4_does_57 (by decide) ?_
      refine lv_isub X.1 X.2.1 dX4_does_59 ?_
      obtain ⟨x5, e6, h⟩ := lt_e h
      refine nm_i e6 ?_
      refine lv_istore_n (lv' := [(1, .int x5), (0, .ref (a 0))]) X.1 X.2.1 dX4_does_60 rfl hl (by decide) rfl (fun ls hl => ?_)
      refine lv_aload_n X.1 X.2.1 dX4_does_61 rfl (lv_at hl 1 rfl) ?_
      refine lv_iload_n X.1 X.2.1 dX4_does_62 rfl (lv_at hl 0 rfl) ?_
      obtain ⟨r7, q8, h⟩ := bd_e h
      refine kc_v (As := [.int x5]) (rest := []) X (k_X4_columnOf x5 μ _ q8) (cwV 1 X.2.2.2.2 gX4_does_X4_columnOf rfl rfl rfl hd_X4_columnOf ⟨Nat.le_of_ble_eq_true rfl, Nat.le_of_ble_eq_true rfl⟩) hK hP hD hS hA (va_recv hK hP (ci := 3) (q0 := 0) rfl rfl) rfl hl.1 rfl (Nat.le_of_ble_eq_true rfl) dX4_does_63 ⟨Nat.le_of_ble_eq_true rfl, Nat.le_of_ble_eq_true rfl⟩ (fun H locs hP hD hS => ?_)
      refine lv_istore_n (lv' := [(2, .int r7), (1, .int x5), (0, .ref (a 0))]) X.1 X.2.1 dX4_does_66 rfl hl (by decide) rfl (fun ls hl => ?_)
      refine lv_iconst (v := (-1 : Int32)) X.1 X.2.1 dX4_does_67 (by decide) ?_
      refine lv_istore_n (lv' := [(3, .int (-1 : Int32)), (2, .int r7), (1, .int x5), (0, .ref (a 0))]) X.1 X.2.1 dX4_does_68 rfl hl (by decide) rfl (fun ls hl => ?_)
      refine lv_iconst (v := (0 : Int32)) X.1 X.2.1 dX4_does_69 (by decide) ?_
      refine lv_istore (lv' := [(4, .int (0 : Int32)), (3, .int (-1 : Int32)), (2, .int r7), (1, .int x5), (0, .ref (a 0))]) X.1 X.2.1 dX4_does_70 hl (by decide) rfl (fun ls hl => ?_)
      exact t_X4_does_L72 X hr hlk hK hA N N x5 r7 (-1 : Int32) (0 : Int32) μ _ h _ _ _ hP hD hS (lv_sub hl [4, 3, 2, 1, 0] rfl)
    · rw [if_neg c3] at h
      refine lv_aload_n X.1 X.2.1 dX4_does_29 rfl (lv_at hl 0 rfl) ?_
      refine gX4_left X (fun w h => (List.mem_cons_of_mem _ (List.mem_append_right _ h))) hK hP (List.mem_cons_of_mem _ (List.mem_append_left _ (List.mem_append_left _ (List.mem_of_getElem? (i := 1) rfl)))) dX4_does_30 ?_
      refine lv_aload_n X.1 X.2.1 dX4_does_33 rfl (lv_at hl 0 rfl) ?_
      refine gX4_steps X (fun w h => (List.mem_cons_of_mem _ (List.mem_append_right _ h))) hK hP (List.mem_cons_of_mem _ (List.mem_append_left _ (List.mem_append_left _ (List.mem_of_getElem? (i := 0) rfl)))) dX4_does_34 ?_
      refine lv_iconst (v := (1 : Int32)) X.1 X.2.1 dX4_does_37 (by decide) ?_
      refine lv_isub X.1 X.2.1 dX4_does_38 ?_
      obtain ⟨g74, h⟩ := gd_e h
      refine lm_lf X hK hP g74 dX4_does_39 ?_
      refine lv_bipush (v := (100 : Int32)) X.1 X.2.1 dX4_does_40 (by decide) ?_
      refine lv_iadd X.1 X.2.1 dX4_does_42 ?_
      refine lv_goto (tgt := 60) X.1 X.2.1 dX4_does_43 (by decide) ?_
      obtain ⟨x75, e76, h⟩ := lt_e h
      refine nm_i e76 ?_
      refine lv_istore_n (lv' := [(1, .int x75), (0, .ref (a 0))]) X.1 X.2.1 dX4_does_60 rfl hl (by decide) rfl (fun ls hl => ?_)
      refine lv_aload_n X.1 X.2.1 dX4_does_61 rfl (lv_at hl 1 rfl) ?_
      refine lv_iload_n X.1 X.2.1 dX4_does_62 rfl (lv_at hl 0 rfl) ?_
      obtain ⟨r77, q78, h⟩ := bd_e h
      refine kc_v (As := [.int x75]) (rest := []) X (k_X4_columnOf x75 μ _ q78) (cwV 1 X.2.2.2.2 gX4_does_X4_columnOf rfl rfl rfl hd_X4_columnOf ⟨Nat.le_of_ble_eq_true rfl, Nat.le_of_ble_eq_true rfl⟩) hK hP hD hS hA (va_recv hK hP (ci := 3) (q0 := 0) rfl rfl) rfl hl.1 rfl (Nat.le_of_ble_eq_true rfl) dX4_does_63 ⟨Nat.le_of_ble_eq_true rfl, Nat.le_of_ble_eq_true rfl⟩ (fun H locs hP hD hS => ?_)
      refine lv_istore_n (lv' := [(2, .int r77), (1, .int x75), (0, .ref (a 0))]) X.1 X.2.1 dX4_does_66 rfl hl (by decide) rfl (fun ls hl => ?_)
      refine lv_iconst (v := (-1 : Int32)) X.1 X.2.1 dX4_does_67 (by decide) ?_
      refine lv_istore_n (lv' := [(3, .int (-1 : Int32)), (2, .int r77), (1, .int x75), (0, .ref (a 0))]) X.1 X.2.1 dX4_does_68 rfl hl (by decide) rfl (fun ls hl => ?_)
      refine lv_iconst (v := (0 : Int32)) X.1 X.2.1 dX4_does_69 (by decide) ?_
      refine lv_istore (lv' := [(4, .int (0 : Int32)), (3, .int (-1 : Int32)), (2, .int r77), (1, .int x75), (0, .ref (a 0))]) X.1 X.2.1 dX4_does_70 hl (by decide) rfl (fun ls hl => ?_)
      exact t_X4_does_L72 X hr hlk hK hA N N x75 r77 (-1 : Int32) (0 : Int32) μ _ h _ _ _ hP hD hS (lv_sub hl [4, 3, 2, 1, 0] rfl)
  · rw [if_pos c1] at h
    refine lv_sipush (v := (200 : Int32)) X.1 X.2.1 dX4_does_7 (by decide) ?_
    refine lv_goto (tgt := 60) X.1 X.2.1 dX4_does_10 (by decide) ?_
    refine lv_istore_n (lv' := [(1, .int (200 : Int32)), (0, .ref (a 0))]) X.1 X.2.1 dX4_does_60 rfl hl (by decide) rfl (fun ls hl => ?_)
    refine lv_aload_n X.1 X.2.1 dX4_does_61 rfl (lv_at hl 1 rfl) ?_
    refine lv_iload_n X.1 X.2.1 dX4_does_62 rfl (lv_at hl 0 rfl) ?_
    obtain ⟨r79, q80, h⟩ := bd_e h
    refine kc_v (As := [.int (200 : Int32)]) (rest := []) X (k_X4_columnOf (200 : Int32) μ _ q80) (cwV 1 X.2.2.2.2 gX4_does_X4_columnOf rfl rfl rfl hd_X4_columnOf ⟨Nat.le_of_ble_eq_true rfl, Nat.le_of_ble_eq_true rfl⟩) hK hP hD hS hA (va_recv hK hP (ci := 3) (q0 := 0) rfl rfl) rfl hl.1 rfl (Nat.le_of_ble_eq_true rfl) dX4_does_63 ⟨Nat.le_of_ble_eq_true rfl, Nat.le_of_ble_eq_true rfl⟩ (fun H locs hP hD hS => ?_)
    refine lv_istore_n (lv' := [(2, .int r79), (1, .int (200 : Int32)), (0, .ref (a 0))]) X.1 X.2.1 dX4_does_66 rfl hl (by decide) rfl (fun ls hl => ?_)
    refine lv_iconst (v := (-1 : Int32)) X.1 X.2.1 dX4_does_67 (by decide) ?_
    refine lv_istore_n (lv' := [(3, .int (-1 : Int32)), (2, .int r79), (1, .int (200 : Int32)), (0, .ref (a 0))]) X.1 X.2.1 dX4_does_68 rfl hl (by decide) rfl (fun ls hl => ?_)
    refine lv_iconst (v := (0 : Int32)) X.1 X.2.1 dX4_does_69 (by decide) ?_
    refine lv_istore (lv' := [(4, .int (0 : Int32)), (3, .int (-1 : Int32)), (2, .int r79), (1, .int (200 : Int32)), (0, .ref (a 0))]) X.1 X.2.1 dX4_does_70 hl (by decide) rfl (fun ls hl => ?_)
    exact t_X4_does_L72 X hr hlk hK hA N N (200 : Int32) r79 (-1 : Int32) (0 : Int32) μ _ h _ _ _ hP hD hS (lv_sub hl [4, 3, 2, 1, 0] rfl)
def f_X4_stands (μ : MS) : Option Int32 := if (m_dn μ) = 0 then if (m_ry μ) = 0 then some (0 : Int32) else some (2 : Int32) else some (1 : Int32)
theorem hd_X4_stands : yX4_stands.cls = RX4 ∧ yX4_stands.cls ≠ "java/lang/invoke/MethodHandle" ∧ yX4_stands.cls ≠ "java/lang/invoke/VarHandle" ∧ (parseMethodDescriptor yX4_stands.desc).map (fun d => d.parameters.length) = some 0 := by decide +kernel
set_option maxHeartbeats 4000000 in
set_option maxRecDepth 100000 in
theorem k_X4_stands {l : Launch} {D : va_G} {k : Nat → ClassId} {a : Nat → Nat}  (μ : MS) (R : Int32) (h : f_X4_stands μ = some R) : Ct l yX4_stands wsX4_stands ({ frames := 0, cells := 0, slots := 0, locals := 0 } : Room) D (mT k) (mW k a μ) (mW k a μ) [.ref (a 0)] (some (.int R)) := by
  refine ct_of (cc := cX4_stands) (maxL := 1) (ret := (some .int)) (by decide) rfl (Nat.le_of_ble_eq_true rfl) ?_
  intro p e s m args below meth c A ls X hr hlk hK hA hP hD hS hl
  have X : CallFix p m c cX4_stands 1 s args wsX4_stands RX4 := X
  have hl : lv_has ls 1 [(0, .ref (a 0))] := hl
  rw [f_X4_stands] at h
  refine lv_aload_n X.1 X.2.1 dX4_stands_0 rfl (lv_at hl 0 rfl) ?_
  refine gX4_isDone X (fun w h => (List.mem_cons_of_mem _ (List.mem_append_right _ h))) hK hP (List.mem_cons_of_mem _ (List.mem_append_left _ (List.mem_of_getElem? (i := 0) rfl))) dX4_stands_1 ?_
  refine lv_if_eq (tgt := 11) X.1 X.2.1 dX4_stands_4 (by decide) (fun c1 => ?_) (fun c1 => ?_)
  · rw [if_pos c1] at h
    refine lv_aload_n X.1 X.2.1 dX4_stands_11 rfl (lv_at hl 0 rfl) ?_
    refine gX4_isRay X (fun w h => (List.mem_cons_of_mem _ (List.mem_append_right _ h))) hK hP (List.mem_cons_of_mem _ (List.mem_append_left _ (List.mem_of_getElem? (i := 1) rfl))) dX4_stands_12 ?_
    refine lv_if_eq (tgt := 22) X.1 X.2.1 dX4_stands_15 (by decide) (fun c2 => ?_) (fun c2 => ?_)
    · rw [if_pos c2] at h
      refine lv_iconst (v := (0 : Int32)) X.1 X.2.1 dX4_stands_22 (by decide) ?_
      have h := sm_e h
      subst h
      exact rt_i X hr hlk hK hP hD hS dX4_stands_23
    · rw [if_neg c2] at h
      refine lv_iconst (v := (2 : Int32)) X.1 X.2.1 dX4_stands_18 (by decide) ?_
      refine lv_goto (tgt := 23) X.1 X.2.1 dX4_stands_19 (by decide) ?_
      have h := sm_e h
      subst h
      exact rt_i X hr hlk hK hP hD hS dX4_stands_23
  · rw [if_neg c1] at h
    refine lv_iconst (v := (1 : Int32)) X.1 X.2.1 dX4_stands_7 (by decide) ?_
    refine lv_goto (tgt := 23) X.1 X.2.1 dX4_stands_8 (by decide) ?_
    have h := sm_e h
    subst h
    exact rt_i X hr hlk hK hP hD hS dX4_stands_23
def f_X4_go_L25 (N : Nat) : Nat → Int32 → Int32 → MS → Option (Int32 × MS)
  | 0, _, _, _ => none
  | n + 1, v1, v2, μ => if v1 ≤ v2 then (f_X4_stands μ).bind (fun r2 => some (r2, μ)) else (f_X4_stands μ).bind (fun r4 => if r4 = 0 then if (200 : Int32) ≤ (m_st μ) then (f_X4_stands μ).bind (fun r10 => some (r10, μ)) else (f_X4_does N μ).bind (fun r12 => lt_ (v2 + (1 : Int32)) (fun x14 => f_X4_go_L25 N n v1 x14 r12)) else (f_X4_stands μ).bind (fun r7 => some (r7, μ)))
set_option maxHeartbeats 4000000 in
set_option maxRecDepth 100000 in
theorem t_X4_go_L25 {p : Program} {l : Launch} {e : Env} {s : State} {m : MethodId} {args : Array Value} {below : List Frame} {meth : Method} {c : Code} {D : va_G} {A : Nat → Prop} {k : Nat → ClassId} {a : Nat → Nat} (X : CallFix p m c cX4_go 3 s args wsX4_go RX4) (hr : meth.sig.returnType = some .int) (hlk : meth.locks = false) (hK : va_K D vwCl (mT k) s) (hA : ∀ q : Nat, s.heap.size ≤ q → A q) (N : Nat) : ∀ (n : Nat) (v1 : Int32) (v2 : Int32) (μ : MS) (R : (Int32 × MS)), f_X4_go_L25 N n v1 v2 μ = some R → ∀ (H : Heap) (locs : List Loc) (ls : Array Slot), va_P D vwCl (mW k a μ) H → va_D A (mW k a μ) → va_S A s.heap H locs → lv_has ls 3 [(0, .ref (a 0)), (1, .int v1), (2, .int v2)] → W p l e ({ frames := 5, cells := 0, slots := 0, locals := 155 } : Room) s m args below meth c H locs 0 0 (MQ below (cQ D (mT k) A (mW k a R.2) (some (.int R.1))) args s 0 0 A) (F0 m 25 ls []) := by
  intro n
  induction n with
  | zero =>
    intro v1 v2 μ R h
    exact absurd h (by simp [f_X4_go_L25])
  | succ n ih =>
    intro v1 v2 μ R h H locs ls hP hD hS hl
    rw [f_X4_go_L25] at h
    refine lv_iload_n X.1 X.2.1 dX4_go_25 rfl (lv_at hl 2 rfl) ?_
    refine lv_iload_n X.1 X.2.1 dX4_go_26 rfl (lv_at hl 1 rfl) ?_
    refine lv_icmp_ge (tgt := 57) X.1 X.2.1 dX4_go_27 (by decide) (fun c1 => ?_) (fun c1 => ?_)
    · rw [if_pos c1] at h
      refine lv_aload_n X.1 X.2.1 dX4_go_57 rfl (lv_at hl 0 rfl) ?_
      obtain ⟨r2, q3, h⟩ := bd_e h
      refine kc_v (As := []) (rest := []) X (k_X4_stands μ _ q3) (cwV 0 X.2.2.2.2 gX4_go_X4_stands rfl rfl rfl hd_X4_stands ⟨Nat.le_of_ble_eq_true rfl, Nat.le_of_ble_eq_true rfl⟩) hK hP hD hS hA (va_recv hK hP (ci := 3) (q0 := 0) rfl rfl) rfl hl.1 rfl (Nat.le_of_ble_eq_true rfl) dX4_go_58 ⟨Nat.le_of_ble_eq_true rfl, Nat.le_of_ble_eq_true rfl⟩ (fun H locs hP hD hS => ?_)
      have h := sm_e h
      subst h
      exact rt_i X hr hlk hK hP hD hS dX4_go_61
    · rw [if_neg c1] at h
      refine lv_aload_n X.1 X.2.1 dX4_go_30 rfl (lv_at hl 0 rfl) ?_
      obtain ⟨r4, q5, h⟩ := bd_e h
      refine kc_v (As := []) (rest := []) X (k_X4_stands μ _ q5) (cwV 0 X.2.2.2.2 gX4_go_X4_stands rfl rfl rfl hd_X4_stands ⟨Nat.le_of_ble_eq_true rfl, Nat.le_of_ble_eq_true rfl⟩) hK hP hD hS hA (va_recv hK hP (ci := 3) (q0 := 0) rfl rfl) rfl hl.1 rfl (Nat.le_of_ble_eq_true rfl) dX4_go_31 ⟨Nat.le_of_ble_eq_true rfl, Nat.le_of_ble_eq_true rfl⟩ (fun H locs hP hD hS => ?_)
      refine lv_if_ne (tgt := 57) X.1 X.2.1 dX4_go_34 (by decide) (fun c6 => ?_) (fun c6 => ?_)
      · rw [if_neg c6] at h
        refine lv_aload_n X.1 X.2.1 dX4_go_57 rfl (lv_at hl 0 rfl) ?_
        obtain ⟨r7, q8, h⟩ := bd_e h
        refine kc_v (As := []) (rest := []) X (k_X4_stands μ _ q8) (cwV 0 X.2.2.2.2 gX4_go_X4_stands rfl rfl rfl hd_X4_stands ⟨Nat.le_of_ble_eq_true rfl, Nat.le_of_ble_eq_true rfl⟩) hK hP hD hS hA (va_recv hK hP (ci := 3) (q0 := 0) rfl rfl) rfl hl.1 rfl (Nat.le_of_ble_eq_true rfl) dX4_go_58 ⟨Nat.le_of_ble_eq_true rfl, Nat.le_of_ble_eq_true rfl⟩ (fun H locs hP hD hS => ?_)
        have h := sm_e h
        subst h
        exact rt_i X hr hlk hK hP hD hS dX4_go_61
      · rw [if_pos c6] at h
        refine lv_aload_n X.1 X.2.1 dX4_go_37 rfl (lv_at hl 0 rfl) ?_
        refine gX4_steps X (fun w h => (List.mem_cons_of_mem _ (List.mem_append_right _ h))) hK hP (List.mem_cons_of_mem _ (List.mem_append_left _ (List.mem_append_left _ (List.mem_of_getElem? (i := 1) rfl)))) dX4_go_38 ?_
        refine lv_sipush (v := (200 : Int32)) X.1 X.2.1 dX4_go_41 (by decide) ?_
        refine lv_icmp_ge (tgt := 57) X.1 X.2.1 dX4_go_44 (by decide) (fun c9 => ?_) (fun c9 => ?_)
        · rw [if_pos c9] at h
          refine lv_aload_n X.1 X.2.1 dX4_go_57 rfl (lv_at hl 0 rfl) ?_
          obtain ⟨r10, q11, h⟩ := bd_e h
          refine kc_v (As := []) (rest := []) X (k_X4_stands μ _ q11) (cwV 0 X.2.2.2.2 gX4_go_X4_stands rfl rfl rfl hd_X4_stands ⟨Nat.le_of_ble_eq_true rfl, Nat.le_of_ble_eq_true rfl⟩) hK hP hD hS hA (va_recv hK hP (ci := 3) (q0 := 0) rfl rfl) rfl hl.1 rfl (Nat.le_of_ble_eq_true rfl) dX4_go_58 ⟨Nat.le_of_ble_eq_true rfl, Nat.le_of_ble_eq_true rfl⟩ (fun H locs hP hD hS => ?_)
          have h := sm_e h
          subst h
          exact rt_i X hr hlk hK hP hD hS dX4_go_61
        · rw [if_neg c9] at h
          refine lv_aload_n X.1 X.2.1 dX4_go_47 rfl (lv_at hl 0 rfl) ?_
          obtain ⟨r12, q13, h⟩ := bd_e h
          refine kc_v (As := []) (rest := []) X (k_X4_does N μ _ q13) (cwV 0 X.2.2.2.2 gX4_go_X4_does rfl rfl rfl hd_X4_does ⟨Nat.le_of_ble_eq_true rfl, Nat.le_of_ble_eq_true rfl⟩) hK hP hD hS hA (va_recv hK hP (ci := 3) (q0 := 0) rfl rfl) rfl hl.1 rfl (Nat.le_of_ble_eq_true rfl) dX4_go_48 ⟨Nat.le_of_ble_eq_true rfl, Nat.le_of_ble_eq_true rfl⟩ (fun H locs hP hD hS => ?_)
          obtain ⟨x14, e15, h⟩ := lt_e h
          refine lv_iinc (v := x14) (lv' := [(2, .int x14), (0, .ref (a 0)), (1, .int v1)]) X.1 X.2.1 dX4_go_51 hl (k := 2) rfl e15.symm (by decide) rfl (fun ls hl => ?_)
          refine lv_goto (tgt := 25) X.1 X.2.1 dX4_go_54 (by decide) ?_
          exact ih v1 x14 r12 _ h _ _ _ hP hD hS (lv_sub hl [1, 2, 0] rfl)
def f_X4_go (N : Nat) (p0 : Int32) (μ : MS) : Option (Int32 × MS) := (f_X4_in p0 (1 : Int32) (60 : Int32) ).bind (fun r1 => if r1 = 0 then some ((-2 : Int32), μ) else if (m_bg μ) = 0 then some ((-3 : Int32), μ) else f_X4_go_L25 N N p0 (0 : Int32) μ)
theorem hd_X4_go : yX4_go.cls = RX4 ∧ yX4_go.cls ≠ "java/lang/invoke/MethodHandle" ∧ yX4_go.cls ≠ "java/lang/invoke/VarHandle" ∧ (parseMethodDescriptor yX4_go.desc).map (fun d => d.parameters.length) = some 1 := by decide +kernel
set_option maxHeartbeats 4000000 in
set_option maxRecDepth 100000 in
theorem k_X4_go {l : Launch} {D : va_G} {k : Nat → ClassId} {a : Nat → Nat} (N : Nat) (p0 : Int32) (μ : MS) (R : (Int32 × MS)) (h : f_X4_go N p0 μ = some R) : Ct l yX4_go wsX4_go ({ frames := 5, cells := 0, slots := 0, locals := 155 } : Room) D (mT k) (mW k a μ) (mW k a R.2) [.ref (a 0), .int p0] (some (.int R.1)) := by
  refine ct_of (cc := cX4_go) (maxL := 3) (ret := (some .int)) (by decide) rfl (Nat.le_of_ble_eq_true rfl) ?_
  intro p e s m args below meth c A ls X hr hlk hK hA hP hD hS hl
  have X : CallFix p m c cX4_go 3 s args wsX4_go RX4 := X
  have hl : lv_has ls 3 [(0, .ref (a 0)), (1, .int p0)] := hl
  rw [f_X4_go] at h
  refine lv_iload_n X.1 X.2.1 dX4_go_0 rfl (lv_at hl 1 rfl) ?_
  refine lv_iconst (v := (1 : Int32)) X.1 X.2.1 dX4_go_1 (by decide) ?_
  refine lv_bipush (v := (60 : Int32)) X.1 X.2.1 dX4_go_2 (by decide) ?_
  obtain ⟨r1, q2, h⟩ := bd_e h
  refine kc_s (As := [.int p0, .int (1 : Int32), .int (60 : Int32)]) (rest := []) X (k_X4_in p0 (1 : Int32) (60 : Int32) _ q2) (va_cwS 3 X.2.2.2.2 gX4_go_X4_in rfl rfl rfl hd_X4_in ⟨Nat.le_of_ble_eq_true rfl, Nat.le_of_ble_eq_true rfl⟩) hK hP hS hA rfl hl.1 rfl (Nat.le_of_ble_eq_true rfl) dX4_go_4 ⟨Nat.le_of_ble_eq_true rfl, Nat.le_of_ble_eq_true rfl⟩ (fun H locs hP hS => ?_)
  refine lv_if_ne (tgt := 13) X.1 X.2.1 dX4_go_7 (by decide) (fun c3 => ?_) (fun c3 => ?_)
  · rw [if_neg c3] at h
    refine lv_aload_n X.1 X.2.1 dX4_go_13 rfl (lv_at hl 0 rfl) ?_
    refine gX4_isBegun X (fun w h => (List.mem_cons_of_mem _ (List.mem_append_right _ h))) hK hP (List.mem_cons_of_mem _ (List.mem_append_left _ (List.mem_append_left _ (List.mem_of_getElem? (i := 0) rfl)))) dX4_go_14 ?_
    refine lv_if_ne (tgt := 23) X.1 X.2.1 dX4_go_17 (by decide) (fun c4 => ?_) (fun c4 => ?_)
    · rw [if_neg c4] at h
      refine lv_iconst (v := (0 : Int32)) X.1 X.2.1 dX4_go_23 (by decide) ?_
      refine lv_istore_n (lv' := [(2, .int (0 : Int32)), (0, .ref (a 0)), (1, .int p0)]) X.1 X.2.1 dX4_go_24 rfl hl (by decide) rfl (fun ls hl => ?_)
      exact t_X4_go_L25 X hr hlk hK hA N N p0 (0 : Int32) μ _ h _ _ _ hP hD hS (lv_sub hl [1, 2, 0] rfl)
    · rw [if_pos c4] at h
      refine lv_bipush (v := (-3 : Int32)) X.1 X.2.1 dX4_go_20 (by decide) ?_
      have h := sm_e h
      subst h
      exact rt_i X hr hlk hK hP hD hS dX4_go_22
  · rw [if_pos c3] at h
    refine lv_bipush (v := (-2 : Int32)) X.1 X.2.1 dX4_go_10 (by decide) ?_
    have h := sm_e h
    subst h
    exact rt_i X hr hlk hK hP hD hS dX4_go_12
def f_X4_step (p0 : Int32) (p1 : Int32) (μ : MS) : Option Int32 := (f_X4_in p1 (0 : Int32) (2 : Int32) ).bind (fun r1 => if r1 = 0 then some (-2 : Int32) else (f_X4_in p0 (0 : Int32) ((m_st μ) - (1 : Int32)) ).bind (fun r4 => if r4 = 0 then some (-1 : Int32) else if p1 = 0 then gd (inB p0 200) (some (m_en μ p0.toNatClampNeg)) else if p1 = (1 : Int32) then gd (inB p0 200) (some (m_lf μ p0.toNatClampNeg)) else gd (inB p0 200) (some (m_la μ p0.toNatClampNeg))))
theorem hd_X4_step : yX4_step.cls = RX4 ∧ yX4_step.cls ≠ "java/lang/invoke/MethodHandle" ∧ yX4_step.cls ≠ "java/lang/invoke/VarHandle" ∧ (parseMethodDescriptor yX4_step.desc).map (fun d => d.parameters.length) = some 2 := by decide +kernel
set_option maxHeartbeats 4000000 in
set_option maxRecDepth 100000 in
theorem k_X4_step {l : Launch} {D : va_G} {k : Nat → ClassId} {a : Nat → Nat} (p0 : Int32) (p1 : Int32) (μ : MS) (R : Int32) (h : f_X4_step p0 p1 μ = some R) : Ct l yX4_step wsX4_step ({ frames := 1, cells := 0, slots := 0, locals := 22 } : Room) D (mT k) (mW k a μ) (mW k a μ) [.ref (a 0), .int p0, .int p1] (some (.int R)) := by
  refine ct_of (cc := cX4_step) (maxL := 3) (ret := (some .int)) (by decide) rfl (Nat.le_of_ble_eq_true rfl) ?_
  intro p e s m args below meth c A ls X hr hlk hK hA hP hD hS hl
  have X : CallFix p m c cX4_step 3 s args wsX4_step RX4 := X
  have hl : lv_has ls 3 [(0, .ref (a 0)), (1, .int p0), (2, .int p1)] := hl
  rw [f_X4_step] at h
  refine lv_iload_n X.1 X.2.1 dX4_step_0 rfl (lv_at hl 2 rfl) ?_
  refine lv_iconst (v := (0 : Int32)) X.1 X.2.1 dX4_step_1 (by decide) ?_
  refine lv_iconst (v := (2 : Int32)) X.1 X.2.1 dX4_step_2 (by decide) ?_
  obtain ⟨r1, q2, h⟩ := bd_e h
  refine kc_s (As := [.int p1, .int (0 : Int32), .int (2 : Int32)]) (rest := []) X (k_X4_in p1 (0 : Int32) (2 : Int32) _ q2) (va_cwS 3 X.2.2.2.2 gX4_step_X4_in rfl rfl rfl hd_X4_in ⟨Nat.le_of_ble_eq_true rfl, Nat.le_of_ble_eq_true rfl⟩) hK hP hS hA rfl hl.1 rfl (Nat.le_of_ble_eq_true rfl) dX4_step_3 ⟨Nat.le_of_ble_eq_true rfl, Nat.le_of_ble_eq_true rfl⟩ (fun H locs hP hS => ?_)
  refine lv_if_ne (tgt := 12) X.1 X.2.1 dX4_step_6 (by decide) (fun c3 => ?_) (fun c3 => ?_)
  · rw [if_neg c3] at h
    refine lv_iload_n X.1 X.2.1 dX4_step_12 rfl (lv_at hl 1 rfl) ?_
    refine lv_iconst (v := (0 : Int32)) X.1 X.2.1 dX4_step_13 (by decide) ?_
    refine lv_aload_n X.1 X.2.1 dX4_step_14 rfl (lv_at hl 0 rfl) ?_
    refine gX4_steps X (fun w h => (List.mem_cons_of_mem _ (List.mem_append_right _ h))) hK hP (List.mem_cons_of_mem _ (List.mem_append_left _ (List.mem_of_getElem? (i := 0) rfl))) dX4_step_15 ?_
    refine lv_iconst (v := (1 : Int32)) X.1 X.2.1 dX4_step_18 (by decide) ?_
    refine lv_isub X.1 X.2.1 dX4_step_19 ?_
    obtain ⟨r4, q5, h⟩ := bd_e h
    refine kc_s (As := [.int p0, .int (0 : Int32), .int ((m_st μ) - (1 : Int32))]) (rest := []) X (k_X4_in p0 (0 : Int32) ((m_st μ) - (1 : Int32)) _ q5) (va_cwS 3 X.2.2.2.2 gX4_step_X4_in rfl rfl rfl hd_X4_in ⟨Nat.le_of_ble_eq_true rfl, Nat.le_of_ble_eq_true rfl⟩) hK hP hS hA rfl hl.1 rfl (Nat.le_of_ble_eq_true rfl) dX4_step_20 ⟨Nat.le_of_ble_eq_true rfl, Nat.le_of_ble_eq_true rfl⟩ (fun H locs hP hS => ?_)
    refine lv_if_ne (tgt := 30) X.1 X.2.1 dX4_step_23 (by decide) (fun c6 => ?_) (fun c6 => ?_)
    · rw [if_neg c6] at h
      refine lv_iload_n X.1 X.2.1 dX4_step_30 rfl (lv_at hl 2 rfl) ?_
      refine lv_if_ne (tgt := 43) X.1 X.2.1 dX4_step_31 (by decide) (fun c7 => ?_) (fun c7 => ?_)
      · rw [if_neg c7] at h
        refine lv_iload_n X.1 X.2.1 dX4_step_43 rfl (lv_at hl 2 rfl) ?_
        refine lv_iconst (v := (1 : Int32)) X.1 X.2.1 dX4_step_44 (by decide) ?_
        refine lv_icmp_ne (tgt := 57) X.1 X.2.1 dX4_step_45 (by decide) (fun c8 => ?_) (fun c8 => ?_)
        · rw [if_neg c8] at h
          refine lv_aload_n X.1 X.2.1 dX4_step_57 rfl (lv_at hl 0 rfl) ?_
          refine gX4_leftAt X (fun w h => (List.mem_cons_of_mem _ (List.mem_append_right _ h))) hK hP (List.mem_cons_of_mem _ (List.mem_append_left _ (List.mem_of_getElem? (i := 3) rfl))) dX4_step_58 ?_
          refine lv_iload_n X.1 X.2.1 dX4_step_61 rfl (lv_at hl 1 rfl) ?_
          obtain ⟨g9, h⟩ := gd_e h
          refine lm_la X hK hP g9 dX4_step_62 ?_
          have h := sm_e h
          subst h
          exact rt_i X hr hlk hK hP hD hS dX4_step_63
        · rw [if_pos c8] at h
          refine lv_aload_n X.1 X.2.1 dX4_step_48 rfl (lv_at hl 0 rfl) ?_
          refine gX4_left X (fun w h => (List.mem_cons_of_mem _ (List.mem_append_right _ h))) hK hP (List.mem_cons_of_mem _ (List.mem_append_left _ (List.mem_of_getElem? (i := 2) rfl))) dX4_step_49 ?_
          refine lv_iload_n X.1 X.2.1 dX4_step_52 rfl (lv_at hl 1 rfl) ?_
          obtain ⟨g10, h⟩ := gd_e h
          refine lm_lf X hK hP g10 dX4_step_53 ?_
          refine lv_goto (tgt := 63) X.1 X.2.1 dX4_step_54 (by decide) ?_
          have h := sm_e h
          subst h
          exact rt_i X hr hlk hK hP hD hS dX4_step_63
      · rw [if_pos c7] at h
        refine lv_aload_n X.1 X.2.1 dX4_step_34 rfl (lv_at hl 0 rfl) ?_
        refine gX4_entered X (fun w h => (List.mem_cons_of_mem _ (List.mem_append_right _ h))) hK hP (List.mem_cons_of_mem _ (List.mem_append_left _ (List.mem_of_getElem? (i := 1) rfl))) dX4_step_35 ?_
        refine lv_iload_n X.1 X.2.1 dX4_step_38 rfl (lv_at hl 1 rfl) ?_
        obtain ⟨g11, h⟩ := gd_e h
        refine lm_en X hK hP g11 dX4_step_39 ?_
        refine lv_goto (tgt := 63) X.1 X.2.1 dX4_step_40 (by decide) ?_
        have h := sm_e h
        subst h
        exact rt_i X hr hlk hK hP hD hS dX4_step_63
    · rw [if_pos c6] at h
      refine lv_iconst (v := (-1 : Int32)) X.1 X.2.1 dX4_step_26 (by decide) ?_
      refine lv_goto (tgt := 63) X.1 X.2.1 dX4_step_27 (by decide) ?_
      have h := sm_e h
      subst h
      exact rt_i X hr hlk hK hP hD hS dX4_step_63
  · rw [if_pos c3] at h
    refine lv_bipush (v := (-2 : Int32)) X.1 X.2.1 dX4_step_9 (by decide) ?_
    have h := sm_e h
    subst h
    exact rt_i X hr hlk hK hP hD hS dX4_step_11
def f_X4_told (p0 : Int32) (μ : MS) : Option Int32 := if (m_bg μ) = 0 then some (-1 : Int32) else (f_X4_in p0 (0 : Int32) ((m_rw μ) - (1 : Int32)) ).bind (fun r2 => if r2 = 0 then some (-1 : Int32) else gd (inB p0 12) (some (m_tl μ p0.toNatClampNeg)))
theorem hd_X4_told : yX4_told.cls = RX4 ∧ yX4_told.cls ≠ "java/lang/invoke/MethodHandle" ∧ yX4_told.cls ≠ "java/lang/invoke/VarHandle" ∧ (parseMethodDescriptor yX4_told.desc).map (fun d => d.parameters.length) = some 1 := by decide +kernel
set_option maxHeartbeats 4000000 in
set_option maxRecDepth 100000 in
theorem k_X4_told {l : Launch} {D : va_G} {k : Nat → ClassId} {a : Nat → Nat} (p0 : Int32) (μ : MS) (R : Int32) (h : f_X4_told p0 μ = some R) : Ct l yX4_told wsX4_told ({ frames := 1, cells := 0, slots := 0, locals := 22 } : Room) D (mT k) (mW k a μ) (mW k a μ) [.ref (a 0), .int p0] (some (.int R)) := by
  refine ct_of (cc := cX4_told) (maxL := 2) (ret := (some .int)) (by decide) rfl (Nat.le_of_ble_eq_true rfl) ?_
  intro p e s m args below meth c A ls X hr hlk hK hA hP hD hS hl
  have X : CallFix p m c cX4_told 2 s args wsX4_told RX4 := X
  have hl : lv_has ls 2 [(0, .ref (a 0)), (1, .int p0)] := hl
  rw [f_X4_told] at h
  refine lv_aload_n X.1 X.2.1 dX4_told_0 rfl (lv_at hl 0 rfl) ?_
  refine gX4_isBegun X (fun w h => (List.mem_cons_of_mem _ (List.mem_append_right _ h))) hK hP (List.mem_cons_of_mem _ (List.mem_append_left _ (List.mem_of_getElem? (i := 0) rfl))) dX4_told_1 ?_
  refine lv_if_eq (tgt := 30) X.1 X.2.1 dX4_told_4 (by decide) (fun c1 => ?_) (fun c1 => ?_)
  · rw [if_pos c1] at h
    refine lv_iconst (v := (-1 : Int32)) X.1 X.2.1 dX4_told_30 (by decide) ?_
    have h := sm_e h
    subst h
    exact rt_i X hr hlk hK hP hD hS dX4_told_31
  · rw [if_neg c1] at h
    refine lv_iload_n X.1 X.2.1 dX4_told_7 rfl (lv_at hl 1 rfl) ?_
    refine lv_iconst (v := (0 : Int32)) X.1 X.2.1 dX4_told_8 (by decide) ?_
    refine lv_aload_n X.1 X.2.1 dX4_told_9 rfl (lv_at hl 0 rfl) ?_
    refine gX4_rows X (fun w h => (List.mem_cons_of_mem _ (List.mem_append_right _ h))) hK hP (List.mem_cons_of_mem _ (List.mem_append_left _ (List.mem_of_getElem? (i := 1) rfl))) dX4_told_10 ?_
    refine lv_iconst (v := (1 : Int32)) X.1 X.2.1 dX4_told_13 (by decide) ?_
    refine lv_isub X.1 X.2.1 dX4_told_14 ?_
    obtain ⟨r2, q3, h⟩ := bd_e h
    refine kc_s (As := [.int p0, .int (0 : Int32), .int ((m_rw μ) - (1 : Int32))]) (rest := []) X (k_X4_in p0 (0 : Int32) ((m_rw μ) - (1 : Int32)) _ q3) (va_cwS 3 X.2.2.2.2 gX4_told_X4_in rfl rfl rfl hd_X4_in ⟨Nat.le_of_ble_eq_true rfl, Nat.le_of_ble_eq_true rfl⟩) hK hP hS hA rfl hl.1 rfl (Nat.le_of_ble_eq_true rfl) dX4_told_15 ⟨Nat.le_of_ble_eq_true rfl, Nat.le_of_ble_eq_true rfl⟩ (fun H locs hP hS => ?_)
    refine lv_if_eq (tgt := 30) X.1 X.2.1 dX4_told_18 (by decide) (fun c4 => ?_) (fun c4 => ?_)
    · rw [if_pos c4] at h
      refine lv_iconst (v := (-1 : Int32)) X.1 X.2.1 dX4_told_30 (by decide) ?_
      have h := sm_e h
      subst h
      exact rt_i X hr hlk hK hP hD hS dX4_told_31
    · rw [if_neg c4] at h
      refine lv_aload_n X.1 X.2.1 dX4_told_21 rfl (lv_at hl 0 rfl) ?_
      refine gX4_tells X (fun w h => (List.mem_cons_of_mem _ (List.mem_append_right _ h))) hK hP (List.mem_cons_of_mem _ (List.mem_append_left _ (List.mem_of_getElem? (i := 2) rfl))) dX4_told_22 ?_
      refine lv_iload_n X.1 X.2.1 dX4_told_25 rfl (lv_at hl 1 rfl) ?_
      obtain ⟨g5, h⟩ := gd_e h
      refine lm_tl X hK hP g5 dX4_told_26 ?_
      refine lv_goto (tgt := 31) X.1 X.2.1 dX4_told_27 (by decide) ?_
      have h := sm_e h
      subst h
      exact rt_i X hr hlk hK hP hD hS dX4_told_31
def f_X4_at (N : Nat) (p0 : Int32) (p1 : Int32) (p2 : Int32) (μ : MS) : Option Int64 := if (m_bg μ) = 0 then some (0 : Int64) else (f_X4_in p0 (0 : Int32) ((m_rw μ) - (1 : Int32)) ).bind (fun r2 => if r2 = 0 then some (0 : Int64) else (f_X4_columnQ μ).bind (fun r5 => (f_X4_in p1 (0 : Int32) r5 ).bind (fun r7 => if r7 = 0 then some (0 : Int64) else gd (inB (((26 : Int32) * p0) + p1) 312) ((f_X4_lowest N (m_tb μ (((26 : Int32) * p0) + p1).toNatClampNeg) (m_bl μ) p2 ).bind (fun r11 => some r11)))))
theorem hd_X4_at : yX4_at.cls = RX4 ∧ yX4_at.cls ≠ "java/lang/invoke/MethodHandle" ∧ yX4_at.cls ≠ "java/lang/invoke/VarHandle" ∧ (parseMethodDescriptor yX4_at.desc).map (fun d => d.parameters.length) = some 3 := by decide +kernel
set_option maxHeartbeats 4000000 in
set_option maxRecDepth 100000 in
theorem k_X4_at {l : Launch} {D : va_G} {k : Nat → ClassId} {a : Nat → Nat} (N : Nat) (p0 : Int32) (p1 : Int32) (p2 : Int32) (μ : MS) (R : Int64) (h : f_X4_at N p0 p1 p2 μ = some R) : Ct l yX4_at wsX4_at ({ frames := 3, cells := 0, slots := 0, locals := 76 } : Room) D (mT k) (mW k a μ) (mW k a μ) [.ref (a 0), .int p0, .int p1, .int p2] (some (.long R)) := by
  refine ct_of (cc := cX4_at) (maxL := 4) (ret := (some .long)) (by decide) rfl (Nat.le_of_ble_eq_true rfl) ?_
  intro p e s m args below meth c A ls X hr hlk hK hA hP hD hS hl
  have X : CallFix p m c cX4_at 4 s args wsX4_at RX4 := X
  have hl : lv_has ls 4 [(0, .ref (a 0)), (1, .int p0), (2, .int p1), (3, .int p2)] := hl
  rw [f_X4_at] at h
  refine lv_aload_n X.1 X.2.1 dX4_at_0 rfl (lv_at hl 0 rfl) ?_
  refine gX4_isBegun X (fun w h => (List.mem_cons_of_mem _ (List.mem_append_right _ h))) hK hP (List.mem_cons_of_mem _ (List.mem_append_left _ (List.mem_of_getElem? (i := 0) rfl))) dX4_at_1 ?_
  refine lv_if_eq (tgt := 55) X.1 X.2.1 dX4_at_4 (by decide) (fun c1 => ?_) (fun c1 => ?_)
  · rw [if_pos c1] at h
    refine lv_lconst (v := (0 : Int64)) X.1 X.2.1 dX4_at_55 (by decide) ?_
    have h := sm_e h
    subst h
    exact rt_l X hr hlk hK hP hD hS dX4_at_56
  · rw [if_neg c1] at h
    refine lv_iload_n X.1 X.2.1 dX4_at_7 rfl (lv_at hl 1 rfl) ?_
    refine lv_iconst (v := (0 : Int32)) X.1 X.2.1 dX4_at_8 (by decide) ?_
    refine lv_aload_n X.1 X.2.1 dX4_at_9 rfl (lv_at hl 0 rfl) ?_
    refine gX4_rows X (fun w h => (List.mem_cons_of_mem _ (List.mem_append_right _ h))) hK hP (List.mem_cons_of_mem _ (List.mem_append_left _ (List.mem_of_getElem? (i := 1) rfl))) dX4_at_10 ?_
    refine lv_iconst (v := (1 : Int32)) X.1 X.2.1 dX4_at_13 (by decide) ?_
    refine lv_isub X.1 X.2.1 dX4_at_14 ?_
    obtain ⟨r2, q3, h⟩ := bd_e h
    refine kc_s (As := [.int p0, .int (0 : Int32), .int ((m_rw μ) - (1 : Int32))]) (rest := []) X (k_X4_in p0 (0 : Int32) ((m_rw μ) - (1 : Int32)) _ q3) (va_cwS 3 X.2.2.2.2 gX4_at_X4_in rfl rfl rfl hd_X4_in ⟨Nat.le_of_ble_eq_true rfl, Nat.le_of_ble_eq_true rfl⟩) hK hP hS hA rfl hl.1 rfl (Nat.le_of_ble_eq_true rfl) dX4_at_15 ⟨Nat.le_of_ble_eq_true rfl, Nat.le_of_ble_eq_true rfl⟩ (fun H locs hP hS => ?_)
    refine lv_if_eq (tgt := 55) X.1 X.2.1 dX4_at_18 (by decide) (fun c4 => ?_) (fun c4 => ?_)
    · rw [if_pos c4] at h
      refine lv_lconst (v := (0 : Int64)) X.1 X.2.1 dX4_at_55 (by decide) ?_
      have h := sm_e h
      subst h
      exact rt_l X hr hlk hK hP hD hS dX4_at_56
    · rw [if_neg c4] at h
      refine lv_iload_n X.1 X.2.1 dX4_at_21 rfl (lv_at hl 2 rfl) ?_
      refine lv_iconst (v := (0 : Int32)) X.1 X.2.1 dX4_at_22 (by decide) ?_
      refine lv_aload_n X.1 X.2.1 dX4_at_23 rfl (lv_at hl 0 rfl) ?_
      obtain ⟨r5, q6, h⟩ := bd_e h
      refine kc_v (As := []) (rest := [.int (0 : Int32), .int p1]) X (k_X4_columnQ μ _ q6) (cwV 0 X.2.2.2.2 gX4_at_X4_columnQ rfl rfl rfl hd_X4_columnQ ⟨Nat.le_of_ble_eq_true rfl, Nat.le_of_ble_eq_true rfl⟩) hK hP hD hS hA (va_recv hK hP (ci := 3) (q0 := 0) rfl rfl) rfl hl.1 rfl (Nat.le_of_ble_eq_true rfl) dX4_at_24 ⟨Nat.le_of_ble_eq_true rfl, Nat.le_of_ble_eq_true rfl⟩ (fun H locs hP hD hS => ?_)
      obtain ⟨r7, q8, h⟩ := bd_e h
      refine kc_s (As := [.int p1, .int (0 : Int32), .int r5]) (rest := []) X (k_X4_in p1 (0 : Int32) r5 _ q8) (va_cwS 3 X.2.2.2.2 gX4_at_X4_in rfl rfl rfl hd_X4_in ⟨Nat.le_of_ble_eq_true rfl, Nat.le_of_ble_eq_true rfl⟩) hK hP hS hA rfl hl.1 rfl (Nat.le_of_ble_eq_true rfl) dX4_at_27 ⟨Nat.le_of_ble_eq_true rfl, Nat.le_of_ble_eq_true rfl⟩ (fun H locs hP hS => ?_)
      refine lv_if_eq (tgt := 55) X.1 X.2.1 dX4_at_30 (by decide) (fun c9 => ?_) (fun c9 => ?_)
      · rw [if_pos c9] at h
        refine lv_lconst (v := (0 : Int64)) X.1 X.2.1 dX4_at_55 (by decide) ?_
        have h := sm_e h
        subst h
        exact rt_l X hr hlk hK hP hD hS dX4_at_56
      · rw [if_neg c9] at h
        refine lv_aload_n X.1 X.2.1 dX4_at_33 rfl (lv_at hl 0 rfl) ?_
        refine gX4_table X (fun w h => (List.mem_cons_of_mem _ (List.mem_append_right _ h))) hK hP (List.mem_cons_of_mem _ (List.mem_append_left _ (List.mem_of_getElem? (i := 2) rfl))) dX4_at_34 ?_
        refine lv_bipush (v := (26 : Int32)) X.1 X.2.1 dX4_at_37 (by decide) ?_
        refine lv_iload_n X.1 X.2.1 dX4_at_39 rfl (lv_at hl 1 rfl) ?_
        refine lv_imul X.1 X.2.1 dX4_at_40 ?_
        refine lv_iload_n X.1 X.2.1 dX4_at_41 rfl (lv_at hl 2 rfl) ?_
        refine lv_iadd X.1 X.2.1 dX4_at_42 ?_
        obtain ⟨g10, h⟩ := gd_e h
        refine lm_tb X hK hP g10 dX4_at_43 ?_
        refine lv_aload_n X.1 X.2.1 dX4_at_44 rfl (lv_at hl 0 rfl) ?_
        refine gX4_below X (fun w h => (List.mem_cons_of_mem _ (List.mem_append_right _ h))) hK hP (List.mem_cons_of_mem _ (List.mem_append_left _ (List.mem_of_getElem? (i := 3) rfl))) dX4_at_45 ?_
        refine lv_iload_n X.1 X.2.1 dX4_at_48 rfl (lv_at hl 3 rfl) ?_
        obtain ⟨r11, q12, h⟩ := bd_e h
        refine kc_s (As := [.long (m_tb μ (((26 : Int32) * p0) + p1).toNatClampNeg), .long (m_bl μ), .int p2]) (rest := []) X (k_X4_lowest N (m_tb μ (((26 : Int32) * p0) + p1).toNatClampNeg) (m_bl μ) p2 _ q12) (va_cwS 3 X.2.2.2.2 gX4_at_X4_lowest rfl rfl rfl hd_X4_lowest ⟨Nat.le_of_ble_eq_true rfl, Nat.le_of_ble_eq_true rfl⟩) hK hP hS hA rfl hl.1 rfl (Nat.le_of_ble_eq_true rfl) dX4_at_49 ⟨Nat.le_of_ble_eq_true rfl, Nat.le_of_ble_eq_true rfl⟩ (fun H locs hP hS => ?_)
        refine lv_goto (tgt := 56) X.1 X.2.1 dX4_at_52 (by decide) ?_
        have h := sm_e h
        subst h
        exact rt_l X hr hlk hK hP hD hS dX4_at_56
def f_X4_worthOf_L2 (N : Nat) : Nat → Int32 → Int32 → MS → Option Int64
  | 0, _, _, _ => none
  | n + 1, v1, v2, μ => if (m_rw μ) ≤ v2 then some (0 : Int64) else gd (inB v2 12) (if (m_tl μ v2.toNatClampNeg) = ((100 : Int32) + v1) then (f_X4_columnQ μ).bind (fun r6 => gd (inB (((26 : Int32) * v2) + r6) 312) (some (m_tb μ (((26 : Int32) * v2) + r6).toNatClampNeg))) else lt_ (v2 + (1 : Int32)) (fun x4 => f_X4_worthOf_L2 N n v1 x4 μ))
set_option maxHeartbeats 4000000 in
set_option maxRecDepth 100000 in
theorem t_X4_worthOf_L2 {p : Program} {l : Launch} {e : Env} {s : State} {m : MethodId} {args : Array Value} {below : List Frame} {meth : Method} {c : Code} {D : va_G} {A : Nat → Prop} {k : Nat → ClassId} {a : Nat → Nat} (X : CallFix p m c cX4_worthOf 3 s args wsX4_worthOf RX4) (hr : meth.sig.returnType = some .long) (hlk : meth.locks = false) (hK : va_K D vwCl (mT k) s) (hA : ∀ q : Nat, s.heap.size ≤ q → A q) (N : Nat) : ∀ (n : Nat) (v1 : Int32) (v2 : Int32) (μ : MS) (R : Int64), f_X4_worthOf_L2 N n v1 v2 μ = some R → ∀ (H : Heap) (locs : List Loc) (ls : Array Slot), va_P D vwCl (mW k a μ) H → va_D A (mW k a μ) → va_S A s.heap H locs → lv_has ls 3 [(0, .ref (a 0)), (1, .int v1), (2, .int v2)] → W p l e ({ frames := 1, cells := 0, slots := 0, locals := 20 } : Room) s m args below meth c H locs 0 0 (MQ below (cQ D (mT k) A (mW k a μ) (some (.long R))) args s 0 0 A) (F0 m 2 ls []) := by
  intro n
  induction n with
  | zero =>
    intro v1 v2 μ R h
    exact absurd h (by simp [f_X4_worthOf_L2])
  | succ n ih =>
    intro v1 v2 μ R h H locs ls hP hD hS hl
    rw [f_X4_worthOf_L2] at h
    refine lv_iload_n X.1 X.2.1 dX4_worthOf_2 rfl (lv_at hl 2 rfl) ?_
    refine lv_aload_n X.1 X.2.1 dX4_worthOf_3 rfl (lv_at hl 0 rfl) ?_
    refine gX4_rows X (fun w h => (List.mem_cons_of_mem _ (List.mem_append_right _ h))) hK hP (List.mem_cons_of_mem _ (List.mem_append_left _ (List.mem_of_getElem? (i := 0) rfl))) dX4_worthOf_4 ?_
    refine lv_icmp_ge (tgt := 44) X.1 X.2.1 dX4_worthOf_7 (by decide) (fun c1 => ?_) (fun c1 => ?_)
    · rw [if_pos c1] at h
      refine lv_lconst (v := (0 : Int64)) X.1 X.2.1 dX4_worthOf_44 (by decide) ?_
      have h := sm_e h
      subst h
      exact rt_l X hr hlk hK hP hD hS dX4_worthOf_45
    · rw [if_neg c1] at h
      refine lv_aload_n X.1 X.2.1 dX4_worthOf_10 rfl (lv_at hl 0 rfl) ?_
      refine gX4_tells X (fun w h => (List.mem_cons_of_mem _ (List.mem_append_right _ h))) hK hP (List.mem_cons_of_mem _ (List.mem_append_left _ (List.mem_of_getElem? (i := 1) rfl))) dX4_worthOf_11 ?_
      refine lv_iload_n X.1 X.2.1 dX4_worthOf_14 rfl (lv_at hl 2 rfl) ?_
      obtain ⟨g2, h⟩ := gd_e h
      refine lm_tl X hK hP g2 dX4_worthOf_15 ?_
      refine lv_bipush (v := (100 : Int32)) X.1 X.2.1 dX4_worthOf_16 (by decide) ?_
      refine lv_iload_n X.1 X.2.1 dX4_worthOf_18 rfl (lv_at hl 1 rfl) ?_
      refine lv_iadd X.1 X.2.1 dX4_worthOf_19 ?_
      refine lv_icmp_ne (tgt := 38) X.1 X.2.1 dX4_worthOf_20 (by decide) (fun c3 => ?_) (fun c3 => ?_)
      · rw [if_neg c3] at h
        obtain ⟨x4, e5, h⟩ := lt_e h
        refine lv_iinc (v := x4) (lv' := [(2, .int x4), (0, .ref (a 0)), (1, .int v1)]) X.1 X.2.1 dX4_worthOf_38 hl (k := 2) rfl e5.symm (by decide) rfl (fun ls hl => ?_)
        refine lv_goto (tgt := 2) X.1 X.2.1 dX4_worthOf_41 (by decide) ?_
        exact ih v1 x4 μ _ h _ _ _ hP hD hS (lv_sub hl [1, 2, 0] rfl)
      · rw [if_pos c3] at h
        refine lv_aload_n X.1 X.2.1 dX4_worthOf_23 rfl (lv_at hl 0 rfl) ?_
        refine gX4_table X (fun w h => (List.mem_cons_of_mem _ (List.mem_append_right _ h))) hK hP (List.mem_cons_of_mem _ (List.mem_append_left _ (List.mem_of_getElem? (i := 2) rfl))) dX4_worthOf_24 ?_
        refine lv_bipush (v := (26 : Int32)) X.1 X.2.1 dX4_worthOf_27 (by decide) ?_
        refine lv_iload_n X.1 X.2.1 dX4_worthOf_29 rfl (lv_at hl 2 rfl) ?_
        refine lv_imul X.1 X.2.1 dX4_worthOf_30 ?_
        refine lv_aload_n X.1 X.2.1 dX4_worthOf_31 rfl (lv_at hl 0 rfl) ?_
        obtain ⟨r6, q7, h⟩ := bd_e h
        refine kc_v (As := []) (rest := [.int ((26 : Int32) * v2), .ref (a 4)]) X (k_X4_columnQ μ _ q7) (cwV 0 X.2.2.2.2 gX4_worthOf_X4_columnQ rfl rfl rfl hd_X4_columnQ ⟨Nat.le_of_ble_eq_true rfl, Nat.le_of_ble_eq_true rfl⟩) hK hP hD hS hA (va_recv hK hP (ci := 3) (q0 := 0) rfl rfl) rfl hl.1 rfl (Nat.le_of_ble_eq_true rfl) dX4_worthOf_32 ⟨Nat.le_of_ble_eq_true rfl, Nat.le_of_ble_eq_true rfl⟩ (fun H locs hP hD hS => ?_)
        refine lv_iadd X.1 X.2.1 dX4_worthOf_35 ?_
        obtain ⟨g8, h⟩ := gd_e h
        refine lm_tb X hK hP g8 dX4_worthOf_36 ?_
        have h := sm_e h
        subst h
        exact rt_l X hr hlk hK hP hD hS dX4_worthOf_37
def f_X4_worthOf (N : Nat) (p0 : Int32) (μ : MS) : Option Int64 := f_X4_worthOf_L2 N N p0 (0 : Int32) μ
theorem hd_X4_worthOf : yX4_worthOf.cls = RX4 ∧ yX4_worthOf.cls ≠ "java/lang/invoke/MethodHandle" ∧ yX4_worthOf.cls ≠ "java/lang/invoke/VarHandle" ∧ (parseMethodDescriptor yX4_worthOf.desc).map (fun d => d.parameters.length) = some 1 := by decide +kernel
set_option maxHeartbeats 4000000 in
set_option maxRecDepth 100000 in
theorem k_X4_worthOf {l : Launch} {D : va_G} {k : Nat → ClassId} {a : Nat → Nat} (N : Nat) (p0 : Int32) (μ : MS) (R : Int64) (h : f_X4_worthOf N p0 μ = some R) : Ct l yX4_worthOf wsX4_worthOf ({ frames := 1, cells := 0, slots := 0, locals := 20 } : Room) D (mT k) (mW k a μ) (mW k a μ) [.ref (a 0), .int p0] (some (.long R)) := by
  refine ct_of (cc := cX4_worthOf) (maxL := 3) (ret := (some .long)) (by decide) rfl (Nat.le_of_ble_eq_true rfl) ?_
  intro p e s m args below meth c A ls X hr hlk hK hA hP hD hS hl
  have X : CallFix p m c cX4_worthOf 3 s args wsX4_worthOf RX4 := X
  have hl : lv_has ls 3 [(0, .ref (a 0)), (1, .int p0)] := hl
  rw [f_X4_worthOf] at h
  refine lv_iconst (v := (0 : Int32)) X.1 X.2.1 dX4_worthOf_0 (by decide) ?_
  refine lv_istore_n (lv' := [(2, .int (0 : Int32)), (0, .ref (a 0)), (1, .int p0)]) X.1 X.2.1 dX4_worthOf_1 rfl hl (by decide) rfl (fun ls hl => ?_)
  exact t_X4_worthOf_L2 X hr hlk hK hA N N p0 (0 : Int32) μ _ h _ _ _ hP hD hS (lv_sub hl [1, 2, 0] rfl)
def f_X4_multiplier (N : Nat) (p0 : Int32) (p1 : Int32) (μ : MS) : Option Int64 := if (m_dn μ) = 0 then some (0 : Int64) else (f_X4_isPoint p0 μ).bind (fun r2 => if r2 = 0 then some (0 : Int64) else (f_X4_worthOf N p0 μ).bind (fun r5 => (f_X4_lowest N r5 ((m_bl μ) * ((m_bB μ).toInt64)) p1 ).bind (fun r7 => some r7)))
theorem hd_X4_multiplier : yX4_multiplier.cls = RX4 ∧ yX4_multiplier.cls ≠ "java/lang/invoke/MethodHandle" ∧ yX4_multiplier.cls ≠ "java/lang/invoke/VarHandle" ∧ (parseMethodDescriptor yX4_multiplier.desc).map (fun d => d.parameters.length) = some 2 := by decide +kernel
set_option maxHeartbeats 4000000 in
set_option maxRecDepth 100000 in
theorem k_X4_multiplier {l : Launch} {D : va_G} {k : Nat → ClassId} {a : Nat → Nat} (N : Nat) (p0 : Int32) (p1 : Int32) (μ : MS) (R : Int64) (h : f_X4_multiplier N p0 p1 μ = some R) : Ct l yX4_multiplier wsX4_multiplier ({ frames := 3, cells := 0, slots := 0, locals := 76 } : Room) D (mT k) (mW k a μ) (mW k a μ) [.ref (a 0), .int p0, .int p1] (some (.long R)) := by
  refine ct_of (cc := cX4_multiplier) (maxL := 3) (ret := (some .long)) (by decide) rfl (Nat.le_of_ble_eq_true rfl) ?_
  intro p e s m args below meth c A ls X hr hlk hK hA hP hD hS hl
  have X : CallFix p m c cX4_multiplier 3 s args wsX4_multiplier RX4 := X
  have hl : lv_has ls 3 [(0, .ref (a 0)), (1, .int p0), (2, .int p1)] := hl
  rw [f_X4_multiplier] at h
  refine lv_aload_n X.1 X.2.1 dX4_multiplier_0 rfl (lv_at hl 0 rfl) ?_
  refine gX4_isDone X (fun w h => (List.mem_cons_of_mem _ (List.mem_append_right _ h))) hK hP (List.mem_cons_of_mem _ (List.mem_append_left _ (List.mem_append_left _ (List.mem_of_getElem? (i := 0) rfl)))) dX4_multiplier_1 ?_
  refine lv_if_eq (tgt := 37) X.1 X.2.1 dX4_multiplier_4 (by decide) (fun c1 => ?_) (fun c1 => ?_)
  · rw [if_pos c1] at h
    refine lv_lconst (v := (0 : Int64)) X.1 X.2.1 dX4_multiplier_37 (by decide) ?_
    have h := sm_e h
    subst h
    exact rt_l X hr hlk hK hP hD hS dX4_multiplier_38
  · rw [if_neg c1] at h
    refine lv_aload_n X.1 X.2.1 dX4_multiplier_7 rfl (lv_at hl 0 rfl) ?_
    refine lv_iload_n X.1 X.2.1 dX4_multiplier_8 rfl (lv_at hl 1 rfl) ?_
    obtain ⟨r2, q3, h⟩ := bd_e h
    refine kc_v (As := [.int p0]) (rest := []) X (k_X4_isPoint p0 μ _ q3) (cwV 1 X.2.2.2.2 gX4_multiplier_X4_isPoint rfl rfl rfl hd_X4_isPoint ⟨Nat.le_of_ble_eq_true rfl, Nat.le_of_ble_eq_true rfl⟩) hK hP hD hS hA (va_recv hK hP (ci := 3) (q0 := 0) rfl rfl) rfl hl.1 rfl (Nat.le_of_ble_eq_true rfl) dX4_multiplier_9 ⟨Nat.le_of_ble_eq_true rfl, Nat.le_of_ble_eq_true rfl⟩ (fun H locs hP hD hS => ?_)
    refine lv_if_eq (tgt := 37) X.1 X.2.1 dX4_multiplier_12 (by decide) (fun c4 => ?_) (fun c4 => ?_)
    · rw [if_pos c4] at h
      refine lv_lconst (v := (0 : Int64)) X.1 X.2.1 dX4_multiplier_37 (by decide) ?_
      have h := sm_e h
      subst h
      exact rt_l X hr hlk hK hP hD hS dX4_multiplier_38
    · rw [if_neg c4] at h
      refine lv_aload_n X.1 X.2.1 dX4_multiplier_15 rfl (lv_at hl 0 rfl) ?_
      refine lv_iload_n X.1 X.2.1 dX4_multiplier_16 rfl (lv_at hl 1 rfl) ?_
      obtain ⟨r5, q6, h⟩ := bd_e h
      refine kc_v (As := [.int p0]) (rest := []) X (k_X4_worthOf N p0 μ _ q6) (cwV 1 X.2.2.2.2 gX4_multiplier_X4_worthOf rfl rfl rfl hd_X4_worthOf ⟨Nat.le_of_ble_eq_true rfl, Nat.le_of_ble_eq_true rfl⟩) hK hP hD hS hA (va_recv hK hP (ci := 3) (q0 := 0) rfl rfl) rfl hl.1 rfl (Nat.le_of_ble_eq_true rfl) dX4_multiplier_17 ⟨Nat.le_of_ble_eq_true rfl, Nat.le_of_ble_eq_true rfl⟩ (fun H locs hP hD hS => ?_)
      refine lv_aload_n X.1 X.2.1 dX4_multiplier_20 rfl (lv_at hl 0 rfl) ?_
      refine gX4_below X (fun w h => (List.mem_cons_of_mem _ (List.mem_append_right _ h))) hK hP (List.mem_cons_of_mem _ (List.mem_append_left _ (List.mem_append_left _ (List.mem_of_getElem? (i := 1) rfl)))) dX4_multiplier_21 ?_
      refine lv_aload_n X.1 X.2.1 dX4_multiplier_24 rfl (lv_at hl 0 rfl) ?_
      refine gX4_boxBelow X (fun w h => (List.mem_cons_of_mem _ (List.mem_append_right _ h))) hK hP (List.mem_cons_of_mem _ (List.mem_append_left _ (List.mem_append_left _ (List.mem_of_getElem? (i := 2) rfl)))) dX4_multiplier_25 ?_
      refine lv_i2l (v := (m_bB μ).toInt64) X.1 X.2.1 dX4_multiplier_28 rfl ?_
      refine lv_lmul X.1 X.2.1 dX4_multiplier_29 ?_
      refine lv_iload_n X.1 X.2.1 dX4_multiplier_30 rfl (lv_at hl 2 rfl) ?_
      obtain ⟨r7, q8, h⟩ := bd_e h
      refine kc_s (As := [.long r5, .long ((m_bl μ) * ((m_bB μ).toInt64)), .int p1]) (rest := []) X (k_X4_lowest N r5 ((m_bl μ) * ((m_bB μ).toInt64)) p1 _ q8) (va_cwS 3 X.2.2.2.2 gX4_multiplier_X4_lowest rfl rfl rfl hd_X4_lowest ⟨Nat.le_of_ble_eq_true rfl, Nat.le_of_ble_eq_true rfl⟩) hK hP hS hA rfl hl.1 rfl (Nat.le_of_ble_eq_true rfl) dX4_multiplier_31 ⟨Nat.le_of_ble_eq_true rfl, Nat.le_of_ble_eq_true rfl⟩ (fun H locs hP hS => ?_)
      refine lv_goto (tgt := 38) X.1 X.2.1 dX4_multiplier_34 (by decide) ?_
      have h := sm_e h
      subst h
      exact rt_l X hr hlk hK hP hD hS dX4_multiplier_38
def f_X4_liesOf (N : Nat) (p0 : Int32) (μ : MS) : Option Int32 := (f_X4_worthOf N p0 μ).bind (fun r1 => if (lg_cmp r1 (0 : Int64)) = 0 then some (0 : Int32) else if (lg_cmp r1 (((m_bA μ).toInt64) * (m_bl μ))) = 0 then some (2 : Int32) else some (1 : Int32))
theorem hd_X4_liesOf : yX4_liesOf.cls = RX4 ∧ yX4_liesOf.cls ≠ "java/lang/invoke/MethodHandle" ∧ yX4_liesOf.cls ≠ "java/lang/invoke/VarHandle" ∧ (parseMethodDescriptor yX4_liesOf.desc).map (fun d => d.parameters.length) = some 1 := by decide +kernel
set_option maxHeartbeats 4000000 in
set_option maxRecDepth 100000 in
theorem k_X4_liesOf {l : Launch} {D : va_G} {k : Nat → ClassId} {a : Nat → Nat} (N : Nat) (p0 : Int32) (μ : MS) (R : Int32) (h : f_X4_liesOf N p0 μ = some R) : Ct l yX4_liesOf wsX4_liesOf ({ frames := 2, cells := 0, slots := 0, locals := 42 } : Room) D (mT k) (mW k a μ) (mW k a μ) [.ref (a 0), .int p0] (some (.int R)) := by
  refine ct_of (cc := cX4_liesOf) (maxL := 4) (ret := (some .int)) (by decide) rfl (Nat.le_of_ble_eq_true rfl) ?_
  intro p e s m args below meth c A ls X hr hlk hK hA hP hD hS hl
  have X : CallFix p m c cX4_liesOf 4 s args wsX4_liesOf RX4 := X
  have hl : lv_has ls 4 [(0, .ref (a 0)), (1, .int p0)] := hl
  rw [f_X4_liesOf] at h
  refine lv_aload_n X.1 X.2.1 dX4_liesOf_0 rfl (lv_at hl 0 rfl) ?_
  refine lv_iload_n X.1 X.2.1 dX4_liesOf_1 rfl (lv_at hl 1 rfl) ?_
  obtain ⟨r1, q2, h⟩ := bd_e h
  refine kc_v (As := [.int p0]) (rest := []) X (k_X4_worthOf N p0 μ _ q2) (cwV 1 X.2.2.2.2 gX4_liesOf_X4_worthOf rfl rfl rfl hd_X4_worthOf ⟨Nat.le_of_ble_eq_true rfl, Nat.le_of_ble_eq_true rfl⟩) hK hP hD hS hA (va_recv hK hP (ci := 3) (q0 := 0) rfl rfl) rfl hl.1 rfl (Nat.le_of_ble_eq_true rfl) dX4_liesOf_2 ⟨Nat.le_of_ble_eq_true rfl, Nat.le_of_ble_eq_true rfl⟩ (fun H locs hP hD hS => ?_)
  refine lv_lstore_n (lv' := [(2, .long r1), (0, .ref (a 0)), (1, .int p0)]) X.1 X.2.1 dX4_liesOf_5 rfl hl (by decide) rfl (fun ls hl => ?_)
  refine lv_lload_n X.1 X.2.1 dX4_liesOf_6 rfl (lv_at hl 0 rfl) ?_
  refine lv_lconst (v := (0 : Int64)) X.1 X.2.1 dX4_liesOf_7 (by decide) ?_
  refine W.lcmp X.1 X.2.1 dX4_liesOf_8 ?_
  refine lv_if_ne (tgt := 16) X.1 X.2.1 dX4_liesOf_9 (by decide) (fun c3 => ?_) (fun c3 => ?_)
  · rw [if_neg c3] at h
    refine lv_lload_n X.1 X.2.1 dX4_liesOf_16 rfl (lv_at hl 0 rfl) ?_
    refine lv_aload_n X.1 X.2.1 dX4_liesOf_17 rfl (lv_at hl 1 rfl) ?_
    refine gX4_boxAbove X (fun w h => (List.mem_cons_of_mem _ (List.mem_append_right _ h))) hK hP (List.mem_cons_of_mem _ (List.mem_append_left _ (List.mem_of_getElem? (i := 0) rfl))) dX4_liesOf_18 ?_
    refine lv_i2l (v := (m_bA μ).toInt64) X.1 X.2.1 dX4_liesOf_21 rfl ?_
    refine lv_aload_n X.1 X.2.1 dX4_liesOf_22 rfl (lv_at hl 1 rfl) ?_
    refine gX4_below X (fun w h => (List.mem_cons_of_mem _ (List.mem_append_right _ h))) hK hP (List.mem_cons_of_mem _ (List.mem_append_left _ (List.mem_of_getElem? (i := 1) rfl))) dX4_liesOf_23 ?_
    refine lv_lmul X.1 X.2.1 dX4_liesOf_26 ?_
    refine W.lcmp X.1 X.2.1 dX4_liesOf_27 ?_
    refine lv_if_ne (tgt := 35) X.1 X.2.1 dX4_liesOf_28 (by decide) (fun c4 => ?_) (fun c4 => ?_)
    · rw [if_neg c4] at h
      refine lv_iconst (v := (1 : Int32)) X.1 X.2.1 dX4_liesOf_35 (by decide) ?_
      have h := sm_e h
      subst h
      exact rt_i X hr hlk hK hP hD hS dX4_liesOf_36
    · rw [if_pos c4] at h
      refine lv_iconst (v := (2 : Int32)) X.1 X.2.1 dX4_liesOf_31 (by decide) ?_
      refine lv_goto (tgt := 36) X.1 X.2.1 dX4_liesOf_32 (by decide) ?_
      have h := sm_e h
      subst h
      exact rt_i X hr hlk hK hP hD hS dX4_liesOf_36
  · rw [if_pos c3] at h
    refine lv_iconst (v := (0 : Int32)) X.1 X.2.1 dX4_liesOf_12 (by decide) ?_
    refine lv_goto (tgt := 36) X.1 X.2.1 dX4_liesOf_13 (by decide) ?_
    have h := sm_e h
    subst h
    exact rt_i X hr hlk hK hP hD hS dX4_liesOf_36
def f_X4_lies (N : Nat) (p0 : Int32) (μ : MS) : Option Int32 := (f_X4_isPoint p0 μ).bind (fun r1 => if r1 = 0 then some (-2 : Int32) else if (m_dn μ) = 0 then some (-1 : Int32) else (f_X4_liesOf N p0 μ).bind (fun r5 => some r5))
theorem hd_X4_lies : yX4_lies.cls = RX4 ∧ yX4_lies.cls ≠ "java/lang/invoke/MethodHandle" ∧ yX4_lies.cls ≠ "java/lang/invoke/VarHandle" ∧ (parseMethodDescriptor yX4_lies.desc).map (fun d => d.parameters.length) = some 1 := by decide +kernel
set_option maxHeartbeats 4000000 in
set_option maxRecDepth 100000 in
theorem k_X4_lies {l : Launch} {D : va_G} {k : Nat → ClassId} {a : Nat → Nat} (N : Nat) (p0 : Int32) (μ : MS) (R : Int32) (h : f_X4_lies N p0 μ = some R) : Ct l yX4_lies wsX4_lies ({ frames := 3, cells := 0, slots := 0, locals := 65 } : Room) D (mT k) (mW k a μ) (mW k a μ) [.ref (a 0), .int p0] (some (.int R)) := by
  refine ct_of (cc := cX4_lies) (maxL := 2) (ret := (some .int)) (by decide) rfl (Nat.le_of_ble_eq_true rfl) ?_
  intro p e s m args below meth c A ls X hr hlk hK hA hP hD hS hl
  have X : CallFix p m c cX4_lies 2 s args wsX4_lies RX4 := X
  have hl : lv_has ls 2 [(0, .ref (a 0)), (1, .int p0)] := hl
  rw [f_X4_lies] at h
  refine lv_aload_n X.1 X.2.1 dX4_lies_0 rfl (lv_at hl 0 rfl) ?_
  refine lv_iload_n X.1 X.2.1 dX4_lies_1 rfl (lv_at hl 1 rfl) ?_
  obtain ⟨r1, q2, h⟩ := bd_e h
  refine kc_v (As := [.int p0]) (rest := []) X (k_X4_isPoint p0 μ _ q2) (cwV 1 X.2.2.2.2 gX4_lies_X4_isPoint rfl rfl rfl hd_X4_isPoint ⟨Nat.le_of_ble_eq_true rfl, Nat.le_of_ble_eq_true rfl⟩) hK hP hD hS hA (va_recv hK hP (ci := 3) (q0 := 0) rfl rfl) rfl hl.1 rfl (Nat.le_of_ble_eq_true rfl) dX4_lies_2 ⟨Nat.le_of_ble_eq_true rfl, Nat.le_of_ble_eq_true rfl⟩ (fun H locs hP hD hS => ?_)
  refine lv_if_ne (tgt := 13) X.1 X.2.1 dX4_lies_5 (by decide) (fun c3 => ?_) (fun c3 => ?_)
  · rw [if_neg c3] at h
    refine lv_aload_n X.1 X.2.1 dX4_lies_13 rfl (lv_at hl 0 rfl) ?_
    refine gX4_isDone X (fun w h => (List.mem_cons_of_mem _ (List.mem_append_right _ h))) hK hP (List.mem_cons_of_mem _ (List.mem_append_left _ (List.mem_append_left _ (List.mem_of_getElem? (i := 0) rfl)))) dX4_lies_14 ?_
    refine lv_if_eq (tgt := 28) X.1 X.2.1 dX4_lies_17 (by decide) (fun c4 => ?_) (fun c4 => ?_)
    · rw [if_pos c4] at h
      refine lv_iconst (v := (-1 : Int32)) X.1 X.2.1 dX4_lies_28 (by decide) ?_
      have h := sm_e h
      subst h
      exact rt_i X hr hlk hK hP hD hS dX4_lies_29
    · rw [if_neg c4] at h
      refine lv_aload_n X.1 X.2.1 dX4_lies_20 rfl (lv_at hl 0 rfl) ?_
      refine lv_iload_n X.1 X.2.1 dX4_lies_21 rfl (lv_at hl 1 rfl) ?_
      obtain ⟨r5, q6, h⟩ := bd_e h
      refine kc_v (As := [.int p0]) (rest := []) X (k_X4_liesOf N p0 μ _ q6) (cwV 1 X.2.2.2.2 gX4_lies_X4_liesOf rfl rfl rfl hd_X4_liesOf ⟨Nat.le_of_ble_eq_true rfl, Nat.le_of_ble_eq_true rfl⟩) hK hP hD hS hA (va_recv hK hP (ci := 3) (q0 := 0) rfl rfl) rfl hl.1 rfl (Nat.le_of_ble_eq_true rfl) dX4_lies_22 ⟨Nat.le_of_ble_eq_true rfl, Nat.le_of_ble_eq_true rfl⟩ (fun H locs hP hD hS => ?_)
      refine lv_goto (tgt := 29) X.1 X.2.1 dX4_lies_25 (by decide) ?_
      have h := sm_e h
      subst h
      exact rt_i X hr hlk hK hP hD hS dX4_lies_29
  · rw [if_pos c3] at h
    refine lv_bipush (v := (-2 : Int32)) X.1 X.2.1 dX4_lies_8 (by decide) ?_
    refine lv_goto (tgt := 29) X.1 X.2.1 dX4_lies_10 (by decide) ?_
    have h := sm_e h
    subst h
    exact rt_i X hr hlk hK hP hD hS dX4_lies_29
def f_X4_slopeOf_L14 (N : Nat) : Nat → Int32 → Int64 → Int32 → MS → Option Int64
  | 0, _, _, _, _ => none
  | n + 1, v1, v2, v4, μ => if (m_pt μ) ≤ v4 then some v2 else (f_X4_qOf v1 v4 μ).bind (fun r2 => (f_X4_worthOf N v4 μ).bind (fun r4 => lt_ (v2 - ((r2.toInt64) * r4)) (fun x6 => lt_ (v4 + (1 : Int32)) (fun x8 => f_X4_slopeOf_L14 N n v1 x6 x8 μ))))
set_option maxHeartbeats 4000000 in
set_option maxRecDepth 100000 in
theorem t_X4_slopeOf_L14 {p : Program} {l : Launch} {e : Env} {s : State} {m : MethodId} {args : Array Value} {below : List Frame} {meth : Method} {c : Code} {D : va_G} {A : Nat → Prop} {k : Nat → ClassId} {a : Nat → Nat} (X : CallFix p m c cX4_slopeOf 5 s args wsX4_slopeOf RX4) (hr : meth.sig.returnType = some .long) (hlk : meth.locks = false) (hK : va_K D vwCl (mT k) s) (hA : ∀ q : Nat, s.heap.size ≤ q → A q) (N : Nat) : ∀ (n : Nat) (v1 : Int32) (v2 : Int64) (v4 : Int32) (μ : MS) (R : Int64), f_X4_slopeOf_L14 N n v1 v2 v4 μ = some R → ∀ (H : Heap) (locs : List Loc) (ls : Array Slot), va_P D vwCl (mW k a μ) H → va_D A (mW k a μ) → va_S A s.heap H locs → lv_has ls 5 [(0, .ref (a 0)), (1, .int v1), (2, .long v2), (4, .int v4)] → W p l e ({ frames := 2, cells := 0, slots := 0, locals := 46 } : Room) s m args below meth c H locs 0 0 (MQ below (cQ D (mT k) A (mW k a μ) (some (.long R))) args s 0 0 A) (F0 m 14 ls []) := by
  intro n
  induction n with
  | zero =>
    intro v1 v2 v4 μ R h
    exact absurd h (by simp [f_X4_slopeOf_L14])
  | succ n ih =>
    intro v1 v2 v4 μ R h H locs ls hP hD hS hl
    rw [f_X4_slopeOf_L14] at h
    refine lv_iload X.1 X.2.1 dX4_slopeOf_14 (lv_at hl 3 rfl) ?_
    refine lv_aload_n X.1 X.2.1 dX4_slopeOf_16 rfl (lv_at hl 0 rfl) ?_
    refine gX4_points X (fun w h => (List.mem_cons_of_mem _ (List.mem_append_right _ h))) hK hP (List.mem_cons_of_mem _ (List.mem_append_left _ (List.mem_append_left _ (List.mem_of_getElem? (i := 2) rfl)))) dX4_slopeOf_17 ?_
    refine lv_icmp_ge (tgt := 47) X.1 X.2.1 dX4_slopeOf_20 (by decide) (fun c1 => ?_) (fun c1 => ?_)
    · rw [if_pos c1] at h
      refine lv_lload_n X.1 X.2.1 dX4_slopeOf_47 rfl (lv_at hl 2 rfl) ?_
      have h := sm_e h
      subst h
      exact rt_l X hr hlk hK hP hD hS dX4_slopeOf_48
    · rw [if_neg c1] at h
      refine lv_lload_n X.1 X.2.1 dX4_slopeOf_23 rfl (lv_at hl 2 rfl) ?_
      refine lv_aload_n X.1 X.2.1 dX4_slopeOf_24 rfl (lv_at hl 0 rfl) ?_
      refine lv_iload_n X.1 X.2.1 dX4_slopeOf_25 rfl (lv_at hl 1 rfl) ?_
      refine lv_iload X.1 X.2.1 dX4_slopeOf_26 (lv_at hl 3 rfl) ?_
      obtain ⟨r2, q3, h⟩ := bd_e h
      refine kc_v (As := [.int v1, .int v4]) (rest := [.long v2]) X (k_X4_qOf v1 v4 μ _ q3) (cwV 2 X.2.2.2.2 gX4_slopeOf_X4_qOf rfl rfl rfl hd_X4_qOf ⟨Nat.le_of_ble_eq_true rfl, Nat.le_of_ble_eq_true rfl⟩) hK hP hD hS hA (va_recv hK hP (ci := 3) (q0 := 0) rfl rfl) rfl hl.1 rfl (Nat.le_of_ble_eq_true rfl) dX4_slopeOf_28 ⟨Nat.le_of_ble_eq_true rfl, Nat.le_of_ble_eq_true rfl⟩ (fun H locs hP hD hS => ?_)
      refine lv_i2l (v := r2.toInt64) X.1 X.2.1 dX4_slopeOf_31 rfl ?_
      refine lv_aload_n X.1 X.2.1 dX4_slopeOf_32 rfl (lv_at hl 0 rfl) ?_
      refine lv_iload X.1 X.2.1 dX4_slopeOf_33 (lv_at hl 3 rfl) ?_
      obtain ⟨r4, q5, h⟩ := bd_e h
      refine kc_v (As := [.int v4]) (rest := [.long (r2.toInt64), .long v2]) X (k_X4_worthOf N v4 μ _ q5) (cwV 1 X.2.2.2.2 gX4_slopeOf_X4_worthOf rfl rfl rfl hd_X4_worthOf ⟨Nat.le_of_ble_eq_true rfl, Nat.le_of_ble_eq_true rfl⟩) hK hP hD hS hA (va_recv hK hP (ci := 3) (q0 := 0) rfl rfl) rfl hl.1 rfl (Nat.le_of_ble_eq_true rfl) dX4_slopeOf_35 ⟨Nat.le_of_ble_eq_true rfl, Nat.le_of_ble_eq_true rfl⟩ (fun H locs hP hD hS => ?_)
      refine lv_lmul X.1 X.2.1 dX4_slopeOf_38 ?_
      refine lv_lsub X.1 X.2.1 dX4_slopeOf_39 ?_
      obtain ⟨x6, e7, h⟩ := lt_e h
      refine nm_l e7 ?_
      refine lv_lstore_n (lv' := [(2, .long x6), (0, .ref (a 0)), (1, .int v1), (4, .int v4)]) X.1 X.2.1 dX4_slopeOf_40 rfl hl (by decide) rfl (fun ls hl => ?_)
      obtain ⟨x8, e9, h⟩ := lt_e h
      refine lv_iinc (v := x8) (lv' := [(4, .int x8), (2, .long x6), (0, .ref (a 0)), (1, .int v1)]) X.1 X.2.1 dX4_slopeOf_41 hl (k := 3) rfl e9.symm (by decide) rfl (fun ls hl => ?_)
      refine lv_goto (tgt := 14) X.1 X.2.1 dX4_slopeOf_44 (by decide) ?_
      exact ih v1 x6 x8 μ _ h _ _ _ hP hD hS (lv_sub hl [2, 3, 1, 0] rfl)
def f_X4_slopeOf (N : Nat) (p0 : Int32) (μ : MS) : Option Int64 := lt_ ((m_bl μ) * ((m_bB μ).toInt64)) (fun x1 => f_X4_slopeOf_L14 N N p0 x1 (0 : Int32) μ)
theorem hd_X4_slopeOf : yX4_slopeOf.cls = RX4 ∧ yX4_slopeOf.cls ≠ "java/lang/invoke/MethodHandle" ∧ yX4_slopeOf.cls ≠ "java/lang/invoke/VarHandle" ∧ (parseMethodDescriptor yX4_slopeOf.desc).map (fun d => d.parameters.length) = some 1 := by decide +kernel
set_option maxHeartbeats 4000000 in
set_option maxRecDepth 100000 in
theorem k_X4_slopeOf {l : Launch} {D : va_G} {k : Nat → ClassId} {a : Nat → Nat} (N : Nat) (p0 : Int32) (μ : MS) (R : Int64) (h : f_X4_slopeOf N p0 μ = some R) : Ct l yX4_slopeOf wsX4_slopeOf ({ frames := 2, cells := 0, slots := 0, locals := 46 } : Room) D (mT k) (mW k a μ) (mW k a μ) [.ref (a 0), .int p0] (some (.long R)) := by
  refine ct_of (cc := cX4_slopeOf) (maxL := 5) (ret := (some .long)) (by decide) rfl (Nat.le_of_ble_eq_true rfl) ?_
  intro p e s m args below meth c A ls X hr hlk hK hA hP hD hS hl
  have X : CallFix p m c cX4_slopeOf 5 s args wsX4_slopeOf RX4 := X
  have hl : lv_has ls 5 [(0, .ref (a 0)), (1, .int p0)] := hl
  rw [f_X4_slopeOf] at h
  refine lv_aload_n X.1 X.2.1 dX4_slopeOf_0 rfl (lv_at hl 0 rfl) ?_
  refine gX4_below X (fun w h => (List.mem_cons_of_mem _ (List.mem_append_right _ h))) hK hP (List.mem_cons_of_mem _ (List.mem_append_left _ (List.mem_append_left _ (List.mem_of_getElem? (i := 0) rfl)))) dX4_slopeOf_1 ?_
  refine lv_aload_n X.1 X.2.1 dX4_slopeOf_4 rfl (lv_at hl 0 rfl) ?_
  refine gX4_boxBelow X (fun w h => (List.mem_cons_of_mem _ (List.mem_append_right _ h))) hK hP (List.mem_cons_of_mem _ (List.mem_append_left _ (List.mem_append_left _ (List.mem_of_getElem? (i := 1) rfl)))) dX4_slopeOf_5 ?_
  refine lv_i2l (v := (m_bB μ).toInt64) X.1 X.2.1 dX4_slopeOf_8 rfl ?_
  refine lv_lmul X.1 X.2.1 dX4_slopeOf_9 ?_
  obtain ⟨x1, e2, h⟩ := lt_e h
  refine nm_l e2 ?_
  refine lv_lstore_n (lv' := [(2, .long x1), (0, .ref (a 0)), (1, .int p0)]) X.1 X.2.1 dX4_slopeOf_10 rfl hl (by decide) rfl (fun ls hl => ?_)
  refine lv_iconst (v := (0 : Int32)) X.1 X.2.1 dX4_slopeOf_11 (by decide) ?_
  refine lv_istore (lv' := [(4, .int (0 : Int32)), (2, .long x1), (0, .ref (a 0)), (1, .int p0)]) X.1 X.2.1 dX4_slopeOf_12 hl (by decide) rfl (fun ls hl => ?_)
  exact t_X4_slopeOf_L14 X hr hlk hK hA N N p0 x1 (0 : Int32) μ _ h _ _ _ hP hD hS (lv_sub hl [2, 3, 1, 0] rfl)
def f_X4_slope (N : Nat) (p0 : Int32) (p1 : Int32) (μ : MS) : Option Int64 := if (m_dn μ) = 0 then some (0 : Int64) else (f_X4_isPoint p0 μ).bind (fun r2 => if r2 = 0 then some (0 : Int64) else (f_X4_slopeOf N p0 μ).bind (fun r5 => (f_X4_lowest N r5 ((m_bl μ) * ((m_bB μ).toInt64)) p1 ).bind (fun r7 => some r7)))
theorem hd_X4_slope : yX4_slope.cls = RX4 ∧ yX4_slope.cls ≠ "java/lang/invoke/MethodHandle" ∧ yX4_slope.cls ≠ "java/lang/invoke/VarHandle" ∧ (parseMethodDescriptor yX4_slope.desc).map (fun d => d.parameters.length) = some 2 := by decide +kernel
set_option maxHeartbeats 4000000 in
set_option maxRecDepth 100000 in
theorem k_X4_slope {l : Launch} {D : va_G} {k : Nat → ClassId} {a : Nat → Nat} (N : Nat) (p0 : Int32) (p1 : Int32) (μ : MS) (R : Int64) (h : f_X4_slope N p0 p1 μ = some R) : Ct l yX4_slope wsX4_slope ({ frames := 3, cells := 0, slots := 0, locals := 76 } : Room) D (mT k) (mW k a μ) (mW k a μ) [.ref (a 0), .int p0, .int p1] (some (.long R)) := by
  refine ct_of (cc := cX4_slope) (maxL := 3) (ret := (some .long)) (by decide) rfl (Nat.le_of_ble_eq_true rfl) ?_
  intro p e s m args below meth c A ls X hr hlk hK hA hP hD hS hl
  have X : CallFix p m c cX4_slope 3 s args wsX4_slope RX4 := X
  have hl : lv_has ls 3 [(0, .ref (a 0)), (1, .int p0), (2, .int p1)] := hl
  rw [f_X4_slope] at h
  refine lv_aload_n X.1 X.2.1 dX4_slope_0 rfl (lv_at hl 0 rfl) ?_
  refine gX4_isDone X (fun w h => (List.mem_cons_of_mem _ (List.mem_append_right _ h))) hK hP (List.mem_cons_of_mem _ (List.mem_append_left _ (List.mem_append_left _ (List.mem_of_getElem? (i := 0) rfl)))) dX4_slope_1 ?_
  refine lv_if_eq (tgt := 37) X.1 X.2.1 dX4_slope_4 (by decide) (fun c1 => ?_) (fun c1 => ?_)
  · rw [if_pos c1] at h
    refine lv_lconst (v := (0 : Int64)) X.1 X.2.1 dX4_slope_37 (by decide) ?_
    have h := sm_e h
    subst h
    exact rt_l X hr hlk hK hP hD hS dX4_slope_38
  · rw [if_neg c1] at h
    refine lv_aload_n X.1 X.2.1 dX4_slope_7 rfl (lv_at hl 0 rfl) ?_
    refine lv_iload_n X.1 X.2.1 dX4_slope_8 rfl (lv_at hl 1 rfl) ?_
    obtain ⟨r2, q3, h⟩ := bd_e h
    refine kc_v (As := [.int p0]) (rest := []) X (k_X4_isPoint p0 μ _ q3) (cwV 1 X.2.2.2.2 gX4_slope_X4_isPoint rfl rfl rfl hd_X4_isPoint ⟨Nat.le_of_ble_eq_true rfl, Nat.le_of_ble_eq_true rfl⟩) hK hP hD hS hA (va_recv hK hP (ci := 3) (q0 := 0) rfl rfl) rfl hl.1 rfl (Nat.le_of_ble_eq_true rfl) dX4_slope_9 ⟨Nat.le_of_ble_eq_true rfl, Nat.le_of_ble_eq_true rfl⟩ (fun H locs hP hD hS => ?_)
    refine lv_if_eq (tgt := 37) X.1 X.2.1 dX4_slope_12 (by decide) (fun c4 => ?_) (fun c4 => ?_)
    · rw [if_pos c4] at h
      refine lv_lconst (v := (0 : Int64)) X.1 X.2.1 dX4_slope_37 (by decide) ?_
      have h := sm_e h
      subst h
      exact rt_l X hr hlk hK hP hD hS dX4_slope_38
    · rw [if_neg c4] at h
      refine lv_aload_n X.1 X.2.1 dX4_slope_15 rfl (lv_at hl 0 rfl) ?_
      refine lv_iload_n X.1 X.2.1 dX4_slope_16 rfl (lv_at hl 1 rfl) ?_
      obtain ⟨r5, q6, h⟩ := bd_e h
      refine kc_v (As := [.int p0]) (rest := []) X (k_X4_slopeOf N p0 μ _ q6) (cwV 1 X.2.2.2.2 gX4_slope_X4_slopeOf rfl rfl rfl hd_X4_slopeOf ⟨Nat.le_of_ble_eq_true rfl, Nat.le_of_ble_eq_true rfl⟩) hK hP hD hS hA (va_recv hK hP (ci := 3) (q0 := 0) rfl rfl) rfl hl.1 rfl (Nat.le_of_ble_eq_true rfl) dX4_slope_17 ⟨Nat.le_of_ble_eq_true rfl, Nat.le_of_ble_eq_true rfl⟩ (fun H locs hP hD hS => ?_)
      refine lv_aload_n X.1 X.2.1 dX4_slope_20 rfl (lv_at hl 0 rfl) ?_
      refine gX4_below X (fun w h => (List.mem_cons_of_mem _ (List.mem_append_right _ h))) hK hP (List.mem_cons_of_mem _ (List.mem_append_left _ (List.mem_append_left _ (List.mem_of_getElem? (i := 1) rfl)))) dX4_slope_21 ?_
      refine lv_aload_n X.1 X.2.1 dX4_slope_24 rfl (lv_at hl 0 rfl) ?_
      refine gX4_boxBelow X (fun w h => (List.mem_cons_of_mem _ (List.mem_append_right _ h))) hK hP (List.mem_cons_of_mem _ (List.mem_append_left _ (List.mem_append_left _ (List.mem_of_getElem? (i := 2) rfl)))) dX4_slope_25 ?_
      refine lv_i2l (v := (m_bB μ).toInt64) X.1 X.2.1 dX4_slope_28 rfl ?_
      refine lv_lmul X.1 X.2.1 dX4_slope_29 ?_
      refine lv_iload_n X.1 X.2.1 dX4_slope_30 rfl (lv_at hl 2 rfl) ?_
      obtain ⟨r7, q8, h⟩ := bd_e h
      refine kc_s (As := [.long r5, .long ((m_bl μ) * ((m_bB μ).toInt64)), .int p1]) (rest := []) X (k_X4_lowest N r5 ((m_bl μ) * ((m_bB μ).toInt64)) p1 _ q8) (va_cwS 3 X.2.2.2.2 gX4_slope_X4_lowest rfl rfl rfl hd_X4_lowest ⟨Nat.le_of_ble_eq_true rfl, Nat.le_of_ble_eq_true rfl⟩) hK hP hS hA rfl hl.1 rfl (Nat.le_of_ble_eq_true rfl) dX4_slope_31 ⟨Nat.le_of_ble_eq_true rfl, Nat.le_of_ble_eq_true rfl⟩ (fun H locs hP hS => ?_)
      refine lv_goto (tgt := 38) X.1 X.2.1 dX4_slope_34 (by decide) ?_
      have h := sm_e h
      subst h
      exact rt_l X hr hlk hK hP hD hS dX4_slope_38
def f_X4_check_L12 (N : Nat) : Nat → Int32 → MS → Option Int32
  | 0, _, _ => none
  | n + 1, v1, μ => if (m_pt μ) ≤ v1 then some (1 : Int32) else (f_X4_liesOf N v1 μ).bind (fun r2 => (f_X4_slopeOf N v1 μ).bind (fun r4 => if r2 = 0 then if (lg_cmp r4 (0 : Int64)) ≤ 0 then lt_ (v1 + (1 : Int32)) (fun x15 => f_X4_check_L12 N n x15 μ) else some (0 : Int32) else if r2 = (2 : Int32) then if 0 ≤ (lg_cmp r4 (0 : Int64)) then lt_ (v1 + (1 : Int32)) (fun x12 => f_X4_check_L12 N n x12 μ) else some (0 : Int32) else if (lg_cmp r4 (0 : Int64)) = 0 then lt_ (v1 + (1 : Int32)) (fun x9 => f_X4_check_L12 N n x9 μ) else some (0 : Int32)))
set_option maxHeartbeats 4000000 in
set_option maxRecDepth 100000 in
theorem t_X4_check_L12 {p : Program} {l : Launch} {e : Env} {s : State} {m : MethodId} {args : Array Value} {below : List Frame} {meth : Method} {c : Code} {D : va_G} {A : Nat → Prop} {k : Nat → ClassId} {a : Nat → Nat} (X : CallFix p m c cX4_check 5 s args wsX4_check RX4) (hr : meth.sig.returnType = some .int) (hlk : meth.locks = false) (hK : va_K D vwCl (mT k) s) (hA : ∀ q : Nat, s.heap.size ≤ q → A q) (N : Nat) : ∀ (n : Nat) (v1 : Int32) (μ : MS) (R : Int32), f_X4_check_L12 N n v1 μ = some R → ∀ (H : Heap) (locs : List Loc) (ls : Array Slot), va_P D vwCl (mW k a μ) H → va_D A (mW k a μ) → va_S A s.heap H locs → lv_has ls 5 [(0, .ref (a 0)), (1, .int v1)] → W p l e ({ frames := 3, cells := 0, slots := 0, locals := 70 } : Room) s m args below meth c H locs 0 0 (MQ below (cQ D (mT k) A (mW k a μ) (some (.int R))) args s 0 0 A) (F0 m 12 ls []) := by
  intro n
  induction n with
  | zero =>
    intro v1 μ R h
    exact absurd h (by simp [f_X4_check_L12])
  | succ n ih =>
    intro v1 μ R h H locs ls hP hD hS hl
    rw [f_X4_check_L12] at h
    refine lv_iload_n X.1 X.2.1 dX4_check_12 rfl (lv_at hl 1 rfl) ?_
    refine lv_aload_n X.1 X.2.1 dX4_check_13 rfl (lv_at hl 0 rfl) ?_
    refine gX4_points X (fun w h => (List.mem_cons_of_mem _ (List.mem_append_right _ h))) hK hP (List.mem_cons_of_mem _ (List.mem_append_left _ (List.mem_append_left _ (List.mem_of_getElem? (i := 1) rfl)))) dX4_check_14 ?_
    refine lv_icmp_ge (tgt := 73) X.1 X.2.1 dX4_check_17 (by decide) (fun c1 => ?_) (fun c1 => ?_)
    · rw [if_pos c1] at h
      refine lv_iconst (v := (1 : Int32)) X.1 X.2.1 dX4_check_73 (by decide) ?_
      have h := sm_e h
      subst h
      exact rt_i X hr hlk hK hP hD hS dX4_check_74
    · rw [if_neg c1] at h
      refine lv_aload_n X.1 X.2.1 dX4_check_20 rfl (lv_at hl 0 rfl) ?_
      refine lv_iload_n X.1 X.2.1 dX4_check_21 rfl (lv_at hl 1 rfl) ?_
      obtain ⟨r2, q3, h⟩ := bd_e h
      refine kc_v (As := [.int v1]) (rest := []) X (k_X4_liesOf N v1 μ _ q3) (cwV 1 X.2.2.2.2 gX4_check_X4_liesOf rfl rfl rfl hd_X4_liesOf ⟨Nat.le_of_ble_eq_true rfl, Nat.le_of_ble_eq_true rfl⟩) hK hP hD hS hA (va_recv hK hP (ci := 3) (q0 := 0) rfl rfl) rfl hl.1 rfl (Nat.le_of_ble_eq_true rfl) dX4_check_22 ⟨Nat.le_of_ble_eq_true rfl, Nat.le_of_ble_eq_true rfl⟩ (fun H locs hP hD hS => ?_)
      refine lv_istore_n (lv' := [(2, .int r2), (0, .ref (a 0)), (1, .int v1)]) X.1 X.2.1 dX4_check_25 rfl hl (by decide) rfl (fun ls hl => ?_)
      refine lv_aload_n X.1 X.2.1 dX4_check_26 rfl (lv_at hl 1 rfl) ?_
      refine lv_iload_n X.1 X.2.1 dX4_check_27 rfl (lv_at hl 2 rfl) ?_
      obtain ⟨r4, q5, h⟩ := bd_e h
      refine kc_v (As := [.int v1]) (rest := []) X (k_X4_slopeOf N v1 μ _ q5) (cwV 1 X.2.2.2.2 gX4_check_X4_slopeOf rfl rfl rfl hd_X4_slopeOf ⟨Nat.le_of_ble_eq_true rfl, Nat.le_of_ble_eq_true rfl⟩) hK hP hD hS hA (va_recv hK hP (ci := 3) (q0 := 0) rfl rfl) rfl hl.1 rfl (Nat.le_of_ble_eq_true rfl) dX4_check_28 ⟨Nat.le_of_ble_eq_true rfl, Nat.le_of_ble_eq_true rfl⟩ (fun H locs hP hD hS => ?_)
      refine lv_lstore_n (lv' := [(3, .long r4), (2, .int r2), (0, .ref (a 0)), (1, .int v1)]) X.1 X.2.1 dX4_check_31 rfl hl (by decide) rfl (fun ls hl => ?_)
      refine lv_iload_n X.1 X.2.1 dX4_check_32 rfl (lv_at hl 1 rfl) ?_
      refine lv_if_ne (tgt := 45) X.1 X.2.1 dX4_check_33 (by decide) (fun c6 => ?_) (fun c6 => ?_)
      · rw [if_neg c6] at h
        refine lv_iload_n X.1 X.2.1 dX4_check_45 rfl (lv_at hl 1 rfl) ?_
        refine lv_iconst (v := (2 : Int32)) X.1 X.2.1 dX4_check_46 (by decide) ?_
        refine lv_icmp_ne (tgt := 59) X.1 X.2.1 dX4_check_47 (by decide) (fun c7 => ?_) (fun c7 => ?_)
        · rw [if_neg c7] at h
          refine lv_lload_n X.1 X.2.1 dX4_check_59 rfl (lv_at hl 0 rfl) ?_
          refine lv_lconst (v := (0 : Int64)) X.1 X.2.1 dX4_check_60 (by decide) ?_
          refine W.lcmp X.1 X.2.1 dX4_check_61 ?_
          refine lv_if_eq (tgt := 67) X.1 X.2.1 dX4_check_62 (by decide) (fun c8 => ?_) (fun c8 => ?_)
          · rw [if_pos c8] at h
            obtain ⟨x9, e10, h⟩ := lt_e h
            refine lv_iinc (v := x9) (lv' := [(1, .int x9), (3, .long r4), (2, .int r2), (0, .ref (a 0))]) X.1 X.2.1 dX4_check_67 hl (k := 3) rfl e10.symm (by decide) rfl (fun ls hl => ?_)
            refine lv_goto (tgt := 12) X.1 X.2.1 dX4_check_70 (by decide) ?_
            exact ih x9 μ _ h _ _ _ hP hD hS (lv_sub hl [3, 0] rfl)
          · rw [if_neg c8] at h
            refine lv_iconst (v := (0 : Int32)) X.1 X.2.1 dX4_check_65 (by decide) ?_
            have h := sm_e h
            subst h
            exact rt_i X hr hlk hK hP hD hS dX4_check_66
        · rw [if_pos c7] at h
          refine lv_lload_n X.1 X.2.1 dX4_check_50 rfl (lv_at hl 0 rfl) ?_
          refine lv_lconst (v := (0 : Int64)) X.1 X.2.1 dX4_check_51 (by decide) ?_
          refine W.lcmp X.1 X.2.1 dX4_check_52 ?_
          refine lv_if_ge (tgt := 67) X.1 X.2.1 dX4_check_53 (by decide) (fun c11 => ?_) (fun c11 => ?_)
          · rw [if_pos c11] at h
            obtain ⟨x12, e13, h⟩ := lt_e h
            refine lv_iinc (v := x12) (lv' := [(1, .int x12), (3, .long r4), (2, .int r2), (0, .ref (a 0))]) X.1 X.2.1 dX4_check_67 hl (k := 3) rfl e13.symm (by decide) rfl (fun ls hl => ?_)
            refine lv_goto (tgt := 12) X.1 X.2.1 dX4_check_70 (by decide) ?_
            exact ih x12 μ _ h _ _ _ hP hD hS (lv_sub hl [3, 0] rfl)
          · rw [if_neg c11] at h
            refine lv_goto (tgt := 65) X.1 X.2.1 dX4_check_56 (by decide) ?_
            refine lv_iconst (v := (0 : Int32)) X.1 X.2.1 dX4_check_65 (by decide) ?_
            have h := sm_e h
            subst h
            exact rt_i X hr hlk hK hP hD hS dX4_check_66
      · rw [if_pos c6] at h
        refine lv_lload_n X.1 X.2.1 dX4_check_36 rfl (lv_at hl 0 rfl) ?_
        refine lv_lconst (v := (0 : Int64)) X.1 X.2.1 dX4_check_37 (by decide) ?_
        refine W.lcmp X.1 X.2.1 dX4_check_38 ?_
        refine lv_if_le (tgt := 67) X.1 X.2.1 dX4_check_39 (by decide) (fun c14 => ?_) (fun c14 => ?_)
        · rw [if_pos c14] at h
          obtain ⟨x15, e16, h⟩ := lt_e h
          refine lv_iinc (v := x15) (lv' := [(1, .int x15), (3, .long r4), (2, .int r2), (0, .ref (a 0))]) X.1 X.2.1 dX4_check_67 hl (k := 3) rfl e16.symm (by decide) rfl (fun ls hl => ?_)
          refine lv_goto (tgt := 12) X.1 X.2.1 dX4_check_70 (by decide) ?_
          exact ih x15 μ _ h _ _ _ hP hD hS (lv_sub hl [3, 0] rfl)
        · rw [if_neg c14] at h
          refine lv_goto (tgt := 65) X.1 X.2.1 dX4_check_42 (by decide) ?_
          refine lv_iconst (v := (0 : Int32)) X.1 X.2.1 dX4_check_65 (by decide) ?_
          have h := sm_e h
          subst h
          exact rt_i X hr hlk hK hP hD hS dX4_check_66
def f_X4_check (N : Nat) (μ : MS) : Option Int32 := if (m_dn μ) = 0 then some (-3 : Int32) else f_X4_check_L12 N N (0 : Int32) μ
theorem hd_X4_check : yX4_check.cls = RX4 ∧ yX4_check.cls ≠ "java/lang/invoke/MethodHandle" ∧ yX4_check.cls ≠ "java/lang/invoke/VarHandle" ∧ (parseMethodDescriptor yX4_check.desc).map (fun d => d.parameters.length) = some 0 := by decide +kernel
set_option maxHeartbeats 4000000 in
set_option maxRecDepth 100000 in
theorem k_X4_check {l : Launch} {D : va_G} {k : Nat → ClassId} {a : Nat → Nat} (N : Nat)  (μ : MS) (R : Int32) (h : f_X4_check N μ = some R) : Ct l yX4_check wsX4_check ({ frames := 3, cells := 0, slots := 0, locals := 70 } : Room) D (mT k) (mW k a μ) (mW k a μ) [.ref (a 0)] (some (.int R)) := by
  refine ct_of (cc := cX4_check) (maxL := 5) (ret := (some .int)) (by decide) rfl (Nat.le_of_ble_eq_true rfl) ?_
  intro p e s m args below meth c A ls X hr hlk hK hA hP hD hS hl
  have X : CallFix p m c cX4_check 5 s args wsX4_check RX4 := X
  have hl : lv_has ls 5 [(0, .ref (a 0))] := hl
  rw [f_X4_check] at h
  refine lv_aload_n X.1 X.2.1 dX4_check_0 rfl (lv_at hl 0 rfl) ?_
  refine gX4_isDone X (fun w h => (List.mem_cons_of_mem _ (List.mem_append_right _ h))) hK hP (List.mem_cons_of_mem _ (List.mem_append_left _ (List.mem_append_left _ (List.mem_of_getElem? (i := 0) rfl)))) dX4_check_1 ?_
  refine lv_if_ne (tgt := 10) X.1 X.2.1 dX4_check_4 (by decide) (fun c1 => ?_) (fun c1 => ?_)
  · rw [if_neg c1] at h
    refine lv_iconst (v := (0 : Int32)) X.1 X.2.1 dX4_check_10 (by decide) ?_
    refine lv_istore_n (lv' := [(1, .int (0 : Int32)), (0, .ref (a 0))]) X.1 X.2.1 dX4_check_11 rfl hl (by decide) rfl (fun ls hl => ?_)
    exact t_X4_check_L12 X hr hlk hK hA N N (0 : Int32) μ _ h _ _ _ hP hD hS (lv_sub hl [1, 0] rfl)
  · rw [if_pos c1] at h
    refine lv_bipush (v := (-3 : Int32)) X.1 X.2.1 dX4_check_7 (by decide) ?_
    have h := sm_e h
    subst h
    exact rt_i X hr hlk hK hP hD hS dX4_check_9
def f_X4_change (N : Nat) (p0 : Int32) (p1 : Int32) (p2 : Int32) (μ : MS) : Option (Int32 × MS) := (f_X4_isPoint p0 μ).bind (fun r1 => if r1 = 0 then some ((-2 : Int32), μ) else (f_X4_in p2 (1 : Int32) (6 : Int32) ).bind (fun r4 => if r4 = 0 then some ((-2 : Int32), μ) else if p1 < 0 then some ((-2 : Int32), μ) else if (lg_cmp ((p1.toInt64) * ((m_bB μ).toInt64)) (((m_bA μ).toInt64) * (p2.toInt64))) ≤ 0 then if (m_dn μ) = 0 then some ((-3 : Int32), μ) else (f_X4_worthOf N p0 μ).bind (fun r10 => lt_ ((((p1.toInt64) * (m_bl μ)) * ((m_bB μ).toInt64)) - (r10 * (p2.toInt64))) (fun x12 => (f_X4_slopeOf N p0 μ).bind (fun r14 => (f_X4_qOf p0 p0 μ).bind (fun r16 => (f_X4_signOfCross r14 ((2 : Int64) * (p2.toInt64)) x12 (r16.toInt64) μ).bind (fun r18 => if (lg_cmp x12 (0 : Int64)) ≤ 0 then if 0 ≤ (lg_cmp x12 (0 : Int64)) then some ((0 : Int32), r18.2) else some ((-r18.1), r18.2) else some (r18.1, r18.2)))))) else some ((-2 : Int32), μ)))
theorem hd_X4_change : yX4_change.cls = RX4 ∧ yX4_change.cls ≠ "java/lang/invoke/MethodHandle" ∧ yX4_change.cls ≠ "java/lang/invoke/VarHandle" ∧ (parseMethodDescriptor yX4_change.desc).map (fun d => d.parameters.length) = some 3 := by decide +kernel
set_option maxHeartbeats 4000000 in
set_option maxRecDepth 100000 in
theorem k_X4_change {l : Launch} {D : va_G} {k : Nat → ClassId} {a : Nat → Nat} (N : Nat) (p0 : Int32) (p1 : Int32) (p2 : Int32) (μ : MS) (R : (Int32 × MS)) (h : f_X4_change N p0 p1 p2 μ = some R) : Ct l yX4_change wsX4_change ({ frames := 3, cells := 0, slots := 0, locals := 101 } : Room) D (mT k) (mW k a μ) (mW k a R.2) [.ref (a 0), .int p0, .int p1, .int p2] (some (.int R.1)) := by
  refine ct_of (cc := cX4_change) (maxL := 7) (ret := (some .int)) (by decide) rfl (Nat.le_of_ble_eq_true rfl) ?_
  intro p e s m args below meth c A ls X hr hlk hK hA hP hD hS hl
  have X : CallFix p m c cX4_change 7 s args wsX4_change RX4 := X
  have hl : lv_has ls 7 [(0, .ref (a 0)), (1, .int p0), (2, .int p1), (3, .int p2)] := hl
  rw [f_X4_change] at h
  refine lv_aload_n X.1 X.2.1 dX4_change_0 rfl (lv_at hl 0 rfl) ?_
  refine lv_iload_n X.1 X.2.1 dX4_change_1 rfl (lv_at hl 1 rfl) ?_
  obtain ⟨r1, q2, h⟩ := bd_e h
  refine kc_v (As := [.int p0]) (rest := []) X (k_X4_isPoint p0 μ _ q2) (cwV 1 X.2.2.2.2 gX4_change_X4_isPoint rfl rfl rfl hd_X4_isPoint ⟨Nat.le_of_ble_eq_true rfl, Nat.le_of_ble_eq_true rfl⟩) hK hP hD hS hA (va_recv hK hP (ci := 3) (q0 := 0) rfl rfl) rfl hl.1 rfl (Nat.le_of_ble_eq_true rfl) dX4_change_2 ⟨Nat.le_of_ble_eq_true rfl, Nat.le_of_ble_eq_true rfl⟩ (fun H locs hP hD hS => ?_)
  refine lv_if_eq (tgt := 42) X.1 X.2.1 dX4_change_5 (by decide) (fun c3 => ?_) (fun c3 => ?_)
  · rw [if_pos c3] at h
    refine lv_bipush (v := (-2 : Int32)) X.1 X.2.1 dX4_change_42 (by decide) ?_
    have h := sm_e h
    subst h
    exact rt_i X hr hlk hK hP hD hS dX4_change_44
  · rw [if_neg c3] at h
    refine lv_iload_n X.1 X.2.1 dX4_change_8 rfl (lv_at hl 3 rfl) ?_
    refine lv_iconst (v := (1 : Int32)) X.1 X.2.1 dX4_change_9 (by decide) ?_
    refine lv_bipush (v := (6 : Int32)) X.1 X.2.1 dX4_change_10 (by decide) ?_
    obtain ⟨r4, q5, h⟩ := bd_e h
    refine kc_s (As := [.int p2, .int (1 : Int32), .int (6 : Int32)]) (rest := []) X (k_X4_in p2 (1 : Int32) (6 : Int32) _ q5) (va_cwS 3 X.2.2.2.2 gX4_change_X4_in rfl rfl rfl hd_X4_in ⟨Nat.le_of_ble_eq_true rfl, Nat.le_of_ble_eq_true rfl⟩) hK hP hS hA rfl hl.1 rfl (Nat.le_of_ble_eq_true rfl) dX4_change_12 ⟨Nat.le_of_ble_eq_true rfl, Nat.le_of_ble_eq_true rfl⟩ (fun H locs hP hS => ?_)
    refine lv_if_eq (tgt := 42) X.1 X.2.1 dX4_change_15 (by decide) (fun c6 => ?_) (fun c6 => ?_)
    · rw [if_pos c6] at h
      refine lv_bipush (v := (-2 : Int32)) X.1 X.2.1 dX4_change_42 (by decide) ?_
      have h := sm_e h
      subst h
      exact rt_i X hr hlk hK hP hD hS dX4_change_44
    · rw [if_neg c6] at h
      refine lv_iload_n X.1 X.2.1 dX4_change_18 rfl (lv_at hl 2 rfl) ?_
      refine lv_if_lt (tgt := 42) X.1 X.2.1 dX4_change_19 (by decide) (fun c7 => ?_) (fun c7 => ?_)
      · rw [if_pos c7] at h
        refine lv_bipush (v := (-2 : Int32)) X.1 X.2.1 dX4_change_42 (by decide) ?_
        have h := sm_e h
        subst h
        exact rt_i X hr hlk hK hP hD hS dX4_change_44
      · rw [if_neg c7] at h
        refine lv_iload_n X.1 X.2.1 dX4_change_22 rfl (lv_at hl 2 rfl) ?_
        refine lv_i2l (v := p1.toInt64) X.1 X.2.1 dX4_change_23 rfl ?_
        refine lv_aload_n X.1 X.2.1 dX4_change_24 rfl (lv_at hl 0 rfl) ?_
        refine gX4_boxBelow X (fun w h => (List.mem_cons_of_mem _ (List.mem_append_right _ h))) hK hP (List.mem_cons_of_mem _ (List.mem_append_left _ (List.mem_append_left _ (List.mem_of_getElem? (i := 0) rfl)))) dX4_change_25 ?_
        refine lv_i2l (v := (m_bB μ).toInt64) X.1 X.2.1 dX4_change_28 rfl ?_
        refine lv_lmul X.1 X.2.1 dX4_change_29 ?_
        refine lv_aload_n X.1 X.2.1 dX4_change_30 rfl (lv_at hl 0 rfl) ?_
        refine gX4_boxAbove X (fun w h => (List.mem_cons_of_mem _ (List.mem_append_right _ h))) hK hP (List.mem_cons_of_mem _ (List.mem_append_left _ (List.mem_append_left _ (List.mem_of_getElem? (i := 1) rfl)))) dX4_change_31 ?_
        refine lv_i2l (v := (m_bA μ).toInt64) X.1 X.2.1 dX4_change_34 rfl ?_
        refine lv_iload_n X.1 X.2.1 dX4_change_35 rfl (lv_at hl 3 rfl) ?_
        refine lv_i2l (v := p2.toInt64) X.1 X.2.1 dX4_change_36 rfl ?_
        refine lv_lmul X.1 X.2.1 dX4_change_37 ?_
        refine W.lcmp X.1 X.2.1 dX4_change_38 ?_
        refine lv_if_le (tgt := 45) X.1 X.2.1 dX4_change_39 (by decide) (fun c8 => ?_) (fun c8 => ?_)
        · rw [if_pos c8] at h
          refine lv_aload_n X.1 X.2.1 dX4_change_45 rfl (lv_at hl 0 rfl) ?_
          refine gX4_isDone X (fun w h => (List.mem_cons_of_mem _ (List.mem_append_right _ h))) hK hP (List.mem_cons_of_mem _ (List.mem_append_left _ (List.mem_append_left _ (List.mem_of_getElem? (i := 2) rfl)))) dX4_change_46 ?_
          refine lv_if_ne (tgt := 55) X.1 X.2.1 dX4_change_49 (by decide) (fun c9 => ?_) (fun c9 => ?_)
          · rw [if_neg c9] at h
            refine lv_iload_n X.1 X.2.1 dX4_change_55 rfl (lv_at hl 2 rfl) ?_
            refine lv_i2l (v := p1.toInt64) X.1 X.2.1 dX4_change_56 rfl ?_
            refine lv_aload_n X.1 X.2.1 dX4_change_57 rfl (lv_at hl 0 rfl) ?_
            refine gX4_below X (fun w h => (List.mem_cons_of_mem _ (List.mem_append_right _ h))) hK hP (List.mem_cons_of_mem _ (List.mem_append_left _ (List.mem_append_left _ (List.mem_of_getElem? (i := 3) rfl)))) dX4_change_58 ?_
            refine lv_lmul X.1 X.2.1 dX4_change_61 ?_
            refine lv_aload_n X.1 X.2.1 dX4_change_62 rfl (lv_at hl 0 rfl) ?_
            refine gX4_boxBelow X (fun w h => (List.mem_cons_of_mem _ (List.mem_append_right _ h))) hK hP (List.mem_cons_of_mem _ (List.mem_append_left _ (List.mem_append_left _ (List.mem_of_getElem? (i := 0) rfl)))) dX4_change_63 ?_
            refine lv_i2l (v := (m_bB μ).toInt64) X.1 X.2.1 dX4_change_66 rfl ?_
            refine lv_lmul X.1 X.2.1 dX4_change_67 ?_
            refine lv_aload_n X.1 X.2.1 dX4_change_68 rfl (lv_at hl 0 rfl) ?_
            refine lv_iload_n X.1 X.2.1 dX4_change_69 rfl (lv_at hl 1 rfl) ?_
            obtain ⟨r10, q11, h⟩ := bd_e h
            refine kc_v (As := [.int p0]) (rest := [.long (((p1.toInt64) * (m_bl μ)) * ((m_bB μ).toInt64))]) X (k_X4_worthOf N p0 μ _ q11) (cwV 1 X.2.2.2.2 gX4_change_X4_worthOf rfl rfl rfl hd_X4_worthOf ⟨Nat.le_of_ble_eq_true rfl, Nat.le_of_ble_eq_true rfl⟩) hK hP hD hS hA (va_recv hK hP (ci := 3) (q0 := 0) rfl rfl) rfl hl.1 rfl (Nat.le_of_ble_eq_true rfl) dX4_change_70 ⟨Nat.le_of_ble_eq_true rfl, Nat.le_of_ble_eq_true rfl⟩ (fun H locs hP hD hS => ?_)
            refine lv_iload_n X.1 X.2.1 dX4_change_73 rfl (lv_at hl 3 rfl) ?_
            refine lv_i2l (v := p2.toInt64) X.1 X.2.1 dX4_change_74 rfl ?_
            refine lv_lmul X.1 X.2.1 dX4_change_75 ?_
            refine lv_lsub X.1 X.2.1 dX4_change_76 ?_
            obtain ⟨x12, e13, h⟩ := lt_e h
            refine nm_l e13 ?_
            refine lv_lstore (lv' := [(4, .long x12), (0, .ref (a 0)), (1, .int p0), (2, .int p1), (3, .int p2)]) X.1 X.2.1 dX4_change_77 hl (by decide) rfl (fun ls hl => ?_)
            refine lv_aload_n X.1 X.2.1 dX4_change_79 rfl (lv_at hl 1 rfl) ?_
            refine lv_aload_n X.1 X.2.1 dX4_change_80 rfl (lv_at hl 1 rfl) ?_
            refine lv_iload_n X.1 X.2.1 dX4_change_81 rfl (lv_at hl 2 rfl) ?_
            obtain ⟨r14, q15, h⟩ := bd_e h
            refine kc_v (As := [.int p0]) (rest := [.ref (a 0)]) X (k_X4_slopeOf N p0 μ _ q15) (cwV 1 X.2.2.2.2 gX4_change_X4_slopeOf rfl rfl rfl hd_X4_slopeOf ⟨Nat.le_of_ble_eq_true rfl, Nat.le_of_ble_eq_true rfl⟩) hK hP hD hS hA (va_recv hK hP (ci := 3) (q0 := 0) rfl rfl) rfl hl.1 rfl (Nat.le_of_ble_eq_true rfl) dX4_change_82 ⟨Nat.le_of_ble_eq_true rfl, Nat.le_of_ble_eq_true rfl⟩ (fun H locs hP hD hS => ?_)
            refine lv_ldc2 (v := (2 : Int64)) X.1 X.2.1 X.2.2.2.1 (X.2.2.2.2 _ (List.mem_cons_of_mem _ (List.mem_append_left _ (List.mem_append_left _ (List.mem_of_getElem? (i := 4) rfl))))) dX4_change_85 ?_
            refine lv_iload_n X.1 X.2.1 dX4_change_88 rfl (lv_at hl 4 rfl) ?_
            refine lv_i2l (v := p2.toInt64) X.1 X.2.1 dX4_change_89 rfl ?_
            refine lv_lmul X.1 X.2.1 dX4_change_90 ?_
            refine lv_lload X.1 X.2.1 dX4_change_91 (lv_at hl 0 rfl) ?_
            refine lv_aload_n X.1 X.2.1 dX4_change_93 rfl (lv_at hl 1 rfl) ?_
            refine lv_iload_n X.1 X.2.1 dX4_change_94 rfl (lv_at hl 2 rfl) ?_
            refine lv_iload_n X.1 X.2.1 dX4_change_95 rfl (lv_at hl 2 rfl) ?_
            obtain ⟨r16, q17, h⟩ := bd_e h
            refine kc_v (As := [.int p0, .int p0]) (rest := [.long x12, .long ((2 : Int64) * (p2.toInt64)), .long r14, .ref (a 0)]) X (k_X4_qOf p0 p0 μ _ q17) (cwV 2 X.2.2.2.2 gX4_change_X4_qOf rfl rfl rfl hd_X4_qOf ⟨Nat.le_of_ble_eq_true rfl, Nat.le_of_ble_eq_true rfl⟩) hK hP hD hS hA (va_recv hK hP (ci := 3) (q0 := 0) rfl rfl) rfl hl.1 rfl (Nat.le_of_ble_eq_true rfl) dX4_change_96 ⟨Nat.le_of_ble_eq_true rfl, Nat.le_of_ble_eq_true rfl⟩ (fun H locs hP hD hS => ?_)
            refine lv_i2l (v := r16.toInt64) X.1 X.2.1 dX4_change_99 rfl ?_
            obtain ⟨r18, q19, h⟩ := bd_e h
            refine kc_v (As := [.long r14, .long ((2 : Int64) * (p2.toInt64)), .long x12, .long (r16.toInt64)]) (rest := []) X (k_X4_signOfCross r14 ((2 : Int64) * (p2.toInt64)) x12 (r16.toInt64) μ _ q19) (cwV 4 X.2.2.2.2 gX4_change_X4_signOfCross rfl rfl rfl hd_X4_signOfCross ⟨Nat.le_of_ble_eq_true rfl, Nat.le_of_ble_eq_true rfl⟩) hK hP hD hS hA (va_recv hK hP (ci := 3) (q0 := 0) rfl rfl) rfl hl.1 rfl (Nat.le_of_ble_eq_true rfl) dX4_change_100 ⟨Nat.le_of_ble_eq_true rfl, Nat.le_of_ble_eq_true rfl⟩ (fun H locs hP hD hS => ?_)
            refine lv_istore (lv' := [(6, .int r18.1), (4, .long x12), (0, .ref (a 0)), (1, .int p0), (2, .int p1), (3, .int p2)]) X.1 X.2.1 dX4_change_103 hl (by decide) rfl (fun ls hl => ?_)
            refine lv_lload X.1 X.2.1 dX4_change_105 (lv_at hl 1 rfl) ?_
            refine lv_lconst (v := (0 : Int64)) X.1 X.2.1 dX4_change_107 (by decide) ?_
            refine W.lcmp X.1 X.2.1 dX4_change_108 ?_
            refine lv_if_le (tgt := 117) X.1 X.2.1 dX4_change_109 (by decide) (fun c20 => ?_) (fun c20 => ?_)
            · rw [if_pos c20] at h
              refine lv_lload X.1 X.2.1 dX4_change_117 (lv_at hl 1 rfl) ?_
              refine lv_lconst (v := (0 : Int64)) X.1 X.2.1 dX4_change_119 (by decide) ?_
              refine W.lcmp X.1 X.2.1 dX4_change_120 ?_
              refine lv_if_ge (tgt := 130) X.1 X.2.1 dX4_change_121 (by decide) (fun c21 => ?_) (fun c21 => ?_)
              · rw [if_pos c21] at h
                refine lv_iconst (v := (0 : Int32)) X.1 X.2.1 dX4_change_130 (by decide) ?_
                have h := sm_e h
                subst h
                exact rt_i X hr hlk hK hP hD hS dX4_change_131
              · rw [if_neg c21] at h
                refine lv_iload X.1 X.2.1 dX4_change_124 (lv_at hl 0 rfl) ?_
                refine lv_ineg X.1 X.2.1 dX4_change_126 ?_
                refine lv_goto (tgt := 131) X.1 X.2.1 dX4_change_127 (by decide) ?_
                have h := sm_e h
                subst h
                exact rt_i X hr hlk hK hP hD hS dX4_change_131
            · rw [if_neg c20] at h
              refine lv_iload X.1 X.2.1 dX4_change_112 (lv_at hl 0 rfl) ?_
              refine lv_goto (tgt := 131) X.1 X.2.1 dX4_change_114 (by decide) ?_
              have h := sm_e h
              subst h
              exact rt_i X hr hlk hK hP hD hS dX4_change_131
          · rw [if_pos c9] at h
            refine lv_bipush (v := (-3 : Int32)) X.1 X.2.1 dX4_change_52 (by decide) ?_
            have h := sm_e h
            subst h
            exact rt_i X hr hlk hK hP hD hS dX4_change_54
        · rw [if_neg c8] at h
          refine lv_bipush (v := (-2 : Int32)) X.1 X.2.1 dX4_change_42 (by decide) ?_
          have h := sm_e h
          subst h
          exact rt_i X hr hlk hK hP hD hS dX4_change_44
def f_X4_decisionOf_L5 (N : Nat) : Nat → Int32 → Int32 → Int64 → Int32 → MS → Option Int64
  | 0, _, _, _, _, _ => none
  | n + 1, v1, v2, v3, v5, μ => if (m_pt μ) ≤ v5 then some v3 else (f_X4_worthOf N v5 μ).bind (fun r2 => gd (inB v5 6) ((f_X4_kernel v5 v1 v2 μ).bind (fun r5 => lt_ (v3 + ((r2 * ((m_lb μ v5.toNatClampNeg).toInt64)) * (r5.toInt64))) (fun x7 => lt_ (v5 + (1 : Int32)) (fun x9 => f_X4_decisionOf_L5 N n v1 v2 x7 x9 μ)))))
set_option maxHeartbeats 4000000 in
set_option maxRecDepth 100000 in
theorem t_X4_decisionOf_L5 {p : Program} {l : Launch} {e : Env} {s : State} {m : MethodId} {args : Array Value} {below : List Frame} {meth : Method} {c : Code} {D : va_G} {A : Nat → Prop} {k : Nat → ClassId} {a : Nat → Nat} (X : CallFix p m c cX4_decisionOf 6 s args wsX4_decisionOf RX4) (hr : meth.sig.returnType = some .long) (hlk : meth.locks = false) (hK : va_K D vwCl (mT k) s) (hA : ∀ q : Nat, s.heap.size ≤ q → A q) (N : Nat) : ∀ (n : Nat) (v1 : Int32) (v2 : Int32) (v3 : Int64) (v5 : Int32) (μ : MS) (R : Int64), f_X4_decisionOf_L5 N n v1 v2 v3 v5 μ = some R → ∀ (H : Heap) (locs : List Loc) (ls : Array Slot), va_P D vwCl (mW k a μ) H → va_D A (mW k a μ) → va_S A s.heap H locs → lv_has ls 6 [(0, .ref (a 0)), (1, .int v1), (2, .int v2), (3, .long v3), (5, .int v5)] → W p l e ({ frames := 2, cells := 0, slots := 0, locals := 42 } : Room) s m args below meth c H locs 0 0 (MQ below (cQ D (mT k) A (mW k a μ) (some (.long R))) args s 0 0 A) (F0 m 5 ls []) := by
  intro n
  induction n with
  | zero =>
    intro v1 v2 v3 v5 μ R h
    exact absurd h (by simp [f_X4_decisionOf_L5])
  | succ n ih =>
    intro v1 v2 v3 v5 μ R h H locs ls hP hD hS hl
    rw [f_X4_decisionOf_L5] at h
    refine lv_iload X.1 X.2.1 dX4_decisionOf_5 (lv_at hl 4 rfl) ?_
    refine lv_aload_n X.1 X.2.1 dX4_decisionOf_7 rfl (lv_at hl 0 rfl) ?_
    refine gX4_points X (fun w h => (List.mem_cons_of_mem _ (List.mem_append_right _ h))) hK hP (List.mem_cons_of_mem _ (List.mem_append_left _ (List.mem_of_getElem? (i := 0) rfl))) dX4_decisionOf_8 ?_
    refine lv_icmp_ge (tgt := 48) X.1 X.2.1 dX4_decisionOf_11 (by decide) (fun c1 => ?_) (fun c1 => ?_)
    · rw [if_pos c1] at h
      refine lv_lload_n X.1 X.2.1 dX4_decisionOf_48 rfl (lv_at hl 3 rfl) ?_
      have h := sm_e h
      subst h
      exact rt_l X hr hlk hK hP hD hS dX4_decisionOf_49
    · rw [if_neg c1] at h
      refine lv_lload_n X.1 X.2.1 dX4_decisionOf_14 rfl (lv_at hl 3 rfl) ?_
      refine lv_aload_n X.1 X.2.1 dX4_decisionOf_15 rfl (lv_at hl 0 rfl) ?_
      refine lv_iload X.1 X.2.1 dX4_decisionOf_16 (lv_at hl 4 rfl) ?_
      obtain ⟨r2, q3, h⟩ := bd_e h
      refine kc_v (As := [.int v5]) (rest := [.long v3]) X (k_X4_worthOf N v5 μ _ q3) (cwV 1 X.2.2.2.2 gX4_decisionOf_X4_worthOf rfl rfl rfl hd_X4_worthOf ⟨Nat.le_of_ble_eq_true rfl, Nat.le_of_ble_eq_true rfl⟩) hK hP hD hS hA (va_recv hK hP (ci := 3) (q0 := 0) rfl rfl) rfl hl.1 rfl (Nat.le_of_ble_eq_true rfl) dX4_decisionOf_18 ⟨Nat.le_of_ble_eq_true rfl, Nat.le_of_ble_eq_true rfl⟩ (fun H locs hP hD hS => ?_)
      refine lv_aload_n X.1 X.2.1 dX4_decisionOf_21 rfl (lv_at hl 0 rfl) ?_
      refine gX4_label X (fun w h => (List.mem_cons_of_mem _ (List.mem_append_right _ h))) hK hP (List.mem_cons_of_mem _ (List.mem_append_left _ (List.mem_of_getElem? (i := 1) rfl))) dX4_decisionOf_22 ?_
      refine lv_iload X.1 X.2.1 dX4_decisionOf_25 (lv_at hl 4 rfl) ?_
      obtain ⟨g4, h⟩ := gd_e h
      refine lm_lb X hK hP g4 dX4_decisionOf_27 ?_
      refine lv_i2l (v := (m_lb μ v5.toNatClampNeg).toInt64) X.1 X.2.1 dX4_decisionOf_28 rfl ?_
      refine lv_lmul X.1 X.2.1 dX4_decisionOf_29 ?_
      refine lv_aload_n X.1 X.2.1 dX4_decisionOf_30 rfl (lv_at hl 0 rfl) ?_
      refine lv_iload X.1 X.2.1 dX4_decisionOf_31 (lv_at hl 4 rfl) ?_
      refine lv_iload_n X.1 X.2.1 dX4_decisionOf_33 rfl (lv_at hl 1 rfl) ?_
      refine lv_iload_n X.1 X.2.1 dX4_decisionOf_34 rfl (lv_at hl 2 rfl) ?_
      obtain ⟨r5, q6, h⟩ := bd_e h
      refine kc_v (As := [.int v5, .int v1, .int v2]) (rest := [.long (r2 * ((m_lb μ v5.toNatClampNeg).toInt64)), .long v3]) X (k_X4_kernel v5 v1 v2 μ _ q6) (cwV 3 X.2.2.2.2 gX4_decisionOf_X4_kernel rfl rfl rfl hd_X4_kernel ⟨Nat.le_of_ble_eq_true rfl, Nat.le_of_ble_eq_true rfl⟩) hK hP hD hS hA (va_recv hK hP (ci := 3) (q0 := 0) rfl rfl) rfl hl.1 rfl (Nat.le_of_ble_eq_true rfl) dX4_decisionOf_35 ⟨Nat.le_of_ble_eq_true rfl, Nat.le_of_ble_eq_true rfl⟩ (fun H locs hP hD hS => ?_)
      refine lv_i2l (v := r5.toInt64) X.1 X.2.1 dX4_decisionOf_38 rfl ?_
      refine lv_lmul X.1 X.2.1 dX4_decisionOf_39 ?_
      refine lv_ladd X.1 X.2.1 dX4_decisionOf_40 ?_
      obtain ⟨x7, e8, h⟩ := lt_e h
      refine nm_l e8 ?_
      refine lv_lstore_n (lv' := [(3, .long x7), (0, .ref (a 0)), (1, .int v1), (2, .int v2), (5, .int v5)]) X.1 X.2.1 dX4_decisionOf_41 rfl hl (by decide) rfl (fun ls hl => ?_)
      obtain ⟨x9, e10, h⟩ := lt_e h
      refine lv_iinc (v := x9) (lv' := [(5, .int x9), (3, .long x7), (0, .ref (a 0)), (1, .int v1), (2, .int v2)]) X.1 X.2.1 dX4_decisionOf_42 hl (k := 4) rfl e10.symm (by decide) rfl (fun ls hl => ?_)
      refine lv_goto (tgt := 5) X.1 X.2.1 dX4_decisionOf_45 (by decide) ?_
      exact ih v1 v2 x7 x9 μ _ h _ _ _ hP hD hS (lv_sub hl [2, 3, 4, 1, 0] rfl)
def f_X4_decisionOf (N : Nat) (p0 : Int32) (p1 : Int32) (μ : MS) : Option Int64 := f_X4_decisionOf_L5 N N p0 p1 (0 : Int64) (0 : Int32) μ
theorem hd_X4_decisionOf : yX4_decisionOf.cls = RX4 ∧ yX4_decisionOf.cls ≠ "java/lang/invoke/MethodHandle" ∧ yX4_decisionOf.cls ≠ "java/lang/invoke/VarHandle" ∧ (parseMethodDescriptor yX4_decisionOf.desc).map (fun d => d.parameters.length) = some 2 := by decide +kernel
set_option maxHeartbeats 4000000 in
set_option maxRecDepth 100000 in
theorem k_X4_decisionOf {l : Launch} {D : va_G} {k : Nat → ClassId} {a : Nat → Nat} (N : Nat) (p0 : Int32) (p1 : Int32) (μ : MS) (R : Int64) (h : f_X4_decisionOf N p0 p1 μ = some R) : Ct l yX4_decisionOf wsX4_decisionOf ({ frames := 2, cells := 0, slots := 0, locals := 42 } : Room) D (mT k) (mW k a μ) (mW k a μ) [.ref (a 0), .int p0, .int p1] (some (.long R)) := by
  refine ct_of (cc := cX4_decisionOf) (maxL := 6) (ret := (some .long)) (by decide) rfl (Nat.le_of_ble_eq_true rfl) ?_
  intro p e s m args below meth c A ls X hr hlk hK hA hP hD hS hl
  have X : CallFix p m c cX4_decisionOf 6 s args wsX4_decisionOf RX4 := X
  have hl : lv_has ls 6 [(0, .ref (a 0)), (1, .int p0), (2, .int p1)] := hl
  rw [f_X4_decisionOf] at h
  refine lv_lconst (v := (0 : Int64)) X.1 X.2.1 dX4_decisionOf_0 (by decide) ?_
  refine lv_lstore_n (lv' := [(3, .long (0 : Int64)), (0, .ref (a 0)), (1, .int p0), (2, .int p1)]) X.1 X.2.1 dX4_decisionOf_1 rfl hl (by decide) rfl (fun ls hl => ?_)
  refine lv_iconst (v := (0 : Int32)) X.1 X.2.1 dX4_decisionOf_2 (by decide) ?_
  refine lv_istore (lv' := [(5, .int (0 : Int32)), (3, .long (0 : Int64)), (0, .ref (a 0)), (1, .int p0), (2, .int p1)]) X.1 X.2.1 dX4_decisionOf_3 hl (by decide) rfl (fun ls hl => ?_)
  exact t_X4_decisionOf_L5 X hr hlk hK hA N N p0 p1 (0 : Int64) (0 : Int32) μ _ h _ _ _ hP hD hS (lv_sub hl [2, 3, 4, 1, 0] rfl)
def f_X4_isPlace (p0 : Int32) (p1 : Int32) : Option Int32 := (f_X4_in p0 (-4 : Int32) (4 : Int32) ).bind (fun r1 => if r1 = 0 then some (0 : Int32) else (f_X4_in p1 (-4 : Int32) (4 : Int32) ).bind (fun r4 => if r4 = 0 then some (0 : Int32) else some (1 : Int32)))
theorem hd_X4_isPlace : yX4_isPlace.cls ≠ "java/lang/invoke/MethodHandle" ∧ yX4_isPlace.cls ≠ "java/lang/invoke/VarHandle" ∧ (parseMethodDescriptor yX4_isPlace.desc).map (fun d => d.parameters.length) = some 2 := by decide +kernel
set_option maxHeartbeats 4000000 in
set_option maxRecDepth 100000 in
theorem k_X4_isPlace {l : Launch} {D : va_G} (p0 : Int32) (p1 : Int32) (R : Int32) (h : f_X4_isPlace p0 p1 = some R) : Ct l yX4_isPlace wsX4_isPlace ({ frames := 1, cells := 0, slots := 0, locals := 22 } : Room) D ([]) ([]) ([]) [.int p0, .int p1] (some (.int R)) := by
  refine ct_of (cc := cX4_isPlace) (maxL := 2) (ret := (some .boolean)) (by decide) rfl (Nat.le_of_ble_eq_true rfl) ?_
  intro p e s m args below meth c A ls X hr hlk hK hA hP hD hS hl
  have X : CallFix p m c cX4_isPlace 2 s args wsX4_isPlace RX4 := X
  have hl : lv_has ls 2 [(0, .int p0), (1, .int p1)] := hl
  rw [f_X4_isPlace] at h
  refine lv_iload_n X.1 X.2.1 dX4_isPlace_0 rfl (lv_at hl 0 rfl) ?_
  refine lv_bipush (v := (-4 : Int32)) X.1 X.2.1 dX4_isPlace_1 (by decide) ?_
  refine lv_iconst (v := (4 : Int32)) X.1 X.2.1 dX4_isPlace_3 (by decide) ?_
  obtain ⟨r1, q2, h⟩ := bd_e h
  refine kc_s (As := [.int p0, .int (-4 : Int32), .int (4 : Int32)]) (rest := []) X (k_X4_in p0 (-4 : Int32) (4 : Int32) _ q2) (va_cwS 3 X.2.2.2.2 gX4_isPlace_X4_in rfl rfl rfl hd_X4_in ⟨Nat.le_of_ble_eq_true rfl, Nat.le_of_ble_eq_true rfl⟩) hK hP hS hA rfl hl.1 rfl (Nat.le_of_ble_eq_true rfl) dX4_isPlace_4 ⟨Nat.le_of_ble_eq_true rfl, Nat.le_of_ble_eq_true rfl⟩ (fun H locs hP hS => ?_)
  refine lv_if_eq (tgt := 24) X.1 X.2.1 dX4_isPlace_7 (by decide) (fun c3 => ?_) (fun c3 => ?_)
  · rw [if_pos c3] at h
    refine lv_iconst (v := (0 : Int32)) X.1 X.2.1 dX4_isPlace_24 (by decide) ?_
    have h := sm_e h
    subst h
    exact rt_z (v := (0 : Int32)) X hr hlk rfl hK hP hD hS dX4_isPlace_25
  · rw [if_neg c3] at h
    refine lv_iload_n X.1 X.2.1 dX4_isPlace_10 rfl (lv_at hl 1 rfl) ?_
    refine lv_bipush (v := (-4 : Int32)) X.1 X.2.1 dX4_isPlace_11 (by decide) ?_
    refine lv_iconst (v := (4 : Int32)) X.1 X.2.1 dX4_isPlace_13 (by decide) ?_
    obtain ⟨r4, q5, h⟩ := bd_e h
    refine kc_s (As := [.int p1, .int (-4 : Int32), .int (4 : Int32)]) (rest := []) X (k_X4_in p1 (-4 : Int32) (4 : Int32) _ q5) (va_cwS 3 X.2.2.2.2 gX4_isPlace_X4_in rfl rfl rfl hd_X4_in ⟨Nat.le_of_ble_eq_true rfl, Nat.le_of_ble_eq_true rfl⟩) hK hP hS hA rfl hl.1 rfl (Nat.le_of_ble_eq_true rfl) dX4_isPlace_14 ⟨Nat.le_of_ble_eq_true rfl, Nat.le_of_ble_eq_true rfl⟩ (fun H locs hP hS => ?_)
    refine lv_if_eq (tgt := 24) X.1 X.2.1 dX4_isPlace_17 (by decide) (fun c6 => ?_) (fun c6 => ?_)
    · rw [if_pos c6] at h
      refine lv_iconst (v := (0 : Int32)) X.1 X.2.1 dX4_isPlace_24 (by decide) ?_
      have h := sm_e h
      subst h
      exact rt_z (v := (0 : Int32)) X hr hlk rfl hK hP hD hS dX4_isPlace_25
    · rw [if_neg c6] at h
      refine lv_iconst (v := (1 : Int32)) X.1 X.2.1 dX4_isPlace_20 (by decide) ?_
      refine lv_goto (tgt := 25) X.1 X.2.1 dX4_isPlace_21 (by decide) ?_
      have h := sm_e h
      subst h
      exact rt_z (v := (1 : Int32)) X hr hlk rfl hK hP hD hS dX4_isPlace_25
def f_X4_decision (N : Nat) (p0 : Int32) (p1 : Int32) (p2 : Int32) (μ : MS) : Option Int64 := if (m_dn μ) = 0 then some (0 : Int64) else (f_X4_isPlace p0 p1 ).bind (fun r2 => if r2 = 0 then some (0 : Int64) else (f_X4_decisionOf N p0 p1 μ).bind (fun r5 => (f_X4_lowest N r5 ((m_bl μ) * ((m_bB μ).toInt64)) p2 ).bind (fun r7 => some r7)))
theorem hd_X4_decision : yX4_decision.cls = RX4 ∧ yX4_decision.cls ≠ "java/lang/invoke/MethodHandle" ∧ yX4_decision.cls ≠ "java/lang/invoke/VarHandle" ∧ (parseMethodDescriptor yX4_decision.desc).map (fun d => d.parameters.length) = some 3 := by decide +kernel
set_option maxHeartbeats 4000000 in
set_option maxRecDepth 100000 in
theorem k_X4_decision {l : Launch} {D : va_G} {k : Nat → ClassId} {a : Nat → Nat} (N : Nat) (p0 : Int32) (p1 : Int32) (p2 : Int32) (μ : MS) (R : Int64) (h : f_X4_decision N p0 p1 p2 μ = some R) : Ct l yX4_decision wsX4_decision ({ frames := 3, cells := 0, slots := 0, locals := 76 } : Room) D (mT k) (mW k a μ) (mW k a μ) [.ref (a 0), .int p0, .int p1, .int p2] (some (.long R)) := by
  refine ct_of (cc := cX4_decision) (maxL := 4) (ret := (some .long)) (by decide) rfl (Nat.le_of_ble_eq_true rfl) ?_
  intro p e s m args below meth c A ls X hr hlk hK hA hP hD hS hl
  have X : CallFix p m c cX4_decision 4 s args wsX4_decision RX4 := X
  have hl : lv_has ls 4 [(0, .ref (a 0)), (1, .int p0), (2, .int p1), (3, .int p2)] := hl
  rw [f_X4_decision] at h
  refine lv_aload_n X.1 X.2.1 dX4_decision_0 rfl (lv_at hl 0 rfl) ?_
  refine gX4_isDone X (fun w h => (List.mem_cons_of_mem _ (List.mem_append_right _ h))) hK hP (List.mem_cons_of_mem _ (List.mem_append_left _ (List.mem_append_left _ (List.mem_of_getElem? (i := 0) rfl)))) dX4_decision_1 ?_
  refine lv_if_eq (tgt := 38) X.1 X.2.1 dX4_decision_4 (by decide) (fun c1 => ?_) (fun c1 => ?_)
  · rw [if_pos c1] at h
    refine lv_lconst (v := (0 : Int64)) X.1 X.2.1 dX4_decision_38 (by decide) ?_
    have h := sm_e h
    subst h
    exact rt_l X hr hlk hK hP hD hS dX4_decision_39
  · rw [if_neg c1] at h
    refine lv_iload_n X.1 X.2.1 dX4_decision_7 rfl (lv_at hl 1 rfl) ?_
    refine lv_iload_n X.1 X.2.1 dX4_decision_8 rfl (lv_at hl 2 rfl) ?_
    obtain ⟨r2, q3, h⟩ := bd_e h
    refine kc_s (As := [.int p0, .int p1]) (rest := []) X (k_X4_isPlace p0 p1 _ q3) (va_cwS 2 X.2.2.2.2 gX4_decision_X4_isPlace rfl rfl rfl hd_X4_isPlace ⟨Nat.le_of_ble_eq_true rfl, Nat.le_of_ble_eq_true rfl⟩) hK hP hS hA rfl hl.1 rfl (Nat.le_of_ble_eq_true rfl) dX4_decision_9 ⟨Nat.le_of_ble_eq_true rfl, Nat.le_of_ble_eq_true rfl⟩ (fun H locs hP hS => ?_)
    refine lv_if_eq (tgt := 38) X.1 X.2.1 dX4_decision_12 (by decide) (fun c4 => ?_) (fun c4 => ?_)
    · rw [if_pos c4] at h
      refine lv_lconst (v := (0 : Int64)) X.1 X.2.1 dX4_decision_38 (by decide) ?_
      have h := sm_e h
      subst h
      exact rt_l X hr hlk hK hP hD hS dX4_decision_39
    · rw [if_neg c4] at h
      refine lv_aload_n X.1 X.2.1 dX4_decision_15 rfl (lv_at hl 0 rfl) ?_
      refine lv_iload_n X.1 X.2.1 dX4_decision_16 rfl (lv_at hl 1 rfl) ?_
      refine lv_iload_n X.1 X.2.1 dX4_decision_17 rfl (lv_at hl 2 rfl) ?_
      obtain ⟨r5, q6, h⟩ := bd_e h
      refine kc_v (As := [.int p0, .int p1]) (rest := []) X (k_X4_decisionOf N p0 p1 μ _ q6) (cwV 2 X.2.2.2.2 gX4_decision_X4_decisionOf rfl rfl rfl hd_X4_decisionOf ⟨Nat.le_of_ble_eq_true rfl, Nat.le_of_ble_eq_true rfl⟩) hK hP hD hS hA (va_recv hK hP (ci := 3) (q0 := 0) rfl rfl) rfl hl.1 rfl (Nat.le_of_ble_eq_true rfl) dX4_decision_18 ⟨Nat.le_of_ble_eq_true rfl, Nat.le_of_ble_eq_true rfl⟩ (fun H locs hP hD hS => ?_)
      refine lv_aload_n X.1 X.2.1 dX4_decision_21 rfl (lv_at hl 0 rfl) ?_
      refine gX4_below X (fun w h => (List.mem_cons_of_mem _ (List.mem_append_right _ h))) hK hP (List.mem_cons_of_mem _ (List.mem_append_left _ (List.mem_append_left _ (List.mem_of_getElem? (i := 1) rfl)))) dX4_decision_22 ?_
      refine lv_aload_n X.1 X.2.1 dX4_decision_25 rfl (lv_at hl 0 rfl) ?_
      refine gX4_boxBelow X (fun w h => (List.mem_cons_of_mem _ (List.mem_append_right _ h))) hK hP (List.mem_cons_of_mem _ (List.mem_append_left _ (List.mem_append_left _ (List.mem_of_getElem? (i := 2) rfl)))) dX4_decision_26 ?_
      refine lv_i2l (v := (m_bB μ).toInt64) X.1 X.2.1 dX4_decision_29 rfl ?_
      refine lv_lmul X.1 X.2.1 dX4_decision_30 ?_
      refine lv_iload_n X.1 X.2.1 dX4_decision_31 rfl (lv_at hl 3 rfl) ?_
      obtain ⟨r7, q8, h⟩ := bd_e h
      refine kc_s (As := [.long r5, .long ((m_bl μ) * ((m_bB μ).toInt64)), .int p2]) (rest := []) X (k_X4_lowest N r5 ((m_bl μ) * ((m_bB μ).toInt64)) p2 _ q8) (va_cwS 3 X.2.2.2.2 gX4_decision_X4_lowest rfl rfl rfl hd_X4_lowest ⟨Nat.le_of_ble_eq_true rfl, Nat.le_of_ble_eq_true rfl⟩) hK hP hS hA rfl hl.1 rfl (Nat.le_of_ble_eq_true rfl) dX4_decision_32 ⟨Nat.le_of_ble_eq_true rfl, Nat.le_of_ble_eq_true rfl⟩ (fun H locs hP hS => ?_)
      refine lv_goto (tgt := 39) X.1 X.2.1 dX4_decision_35 (by decide) ?_
      have h := sm_e h
      subst h
      exact rt_l X hr hlk hK hP hD hS dX4_decision_39
def f_X4_predict (N : Nat) (p0 : Int32) (p1 : Int32) (μ : MS) : Option Int32 := (f_X4_isPlace p0 p1 ).bind (fun r1 => if r1 = 0 then some (-2 : Int32) else if (m_dn μ) = 0 then some (-3 : Int32) else (f_X4_decisionOf N p0 p1 μ).bind (fun r5 => if (lg_cmp r5 (0 : Int64)) ≤ 0 then if 0 ≤ (lg_cmp r5 (0 : Int64)) then some (0 : Int32) else some (-1 : Int32) else some (1 : Int32)))
theorem hd_X4_predict : yX4_predict.cls = RX4 ∧ yX4_predict.cls ≠ "java/lang/invoke/MethodHandle" ∧ yX4_predict.cls ≠ "java/lang/invoke/VarHandle" ∧ (parseMethodDescriptor yX4_predict.desc).map (fun d => d.parameters.length) = some 2 := by decide +kernel
set_option maxHeartbeats 4000000 in
set_option maxRecDepth 100000 in
theorem k_X4_predict {l : Launch} {D : va_G} {k : Nat → ClassId} {a : Nat → Nat} (N : Nat) (p0 : Int32) (p1 : Int32) (μ : MS) (R : Int32) (h : f_X4_predict N p0 p1 μ = some R) : Ct l yX4_predict wsX4_predict ({ frames := 3, cells := 0, slots := 0, locals := 67 } : Room) D (mT k) (mW k a μ) (mW k a μ) [.ref (a 0), .int p0, .int p1] (some (.int R)) := by
  refine ct_of (cc := cX4_predict) (maxL := 5) (ret := (some .int)) (by decide) rfl (Nat.le_of_ble_eq_true rfl) ?_
  intro p e s m args below meth c A ls X hr hlk hK hA hP hD hS hl
  have X : CallFix p m c cX4_predict 5 s args wsX4_predict RX4 := X
  have hl : lv_has ls 5 [(0, .ref (a 0)), (1, .int p0), (2, .int p1)] := hl
  rw [f_X4_predict] at h
  refine lv_iload_n X.1 X.2.1 dX4_predict_0 rfl (lv_at hl 1 rfl) ?_
  refine lv_iload_n X.1 X.2.1 dX4_predict_1 rfl (lv_at hl 2 rfl) ?_
  obtain ⟨r1, q2, h⟩ := bd_e h
  refine kc_s (As := [.int p0, .int p1]) (rest := []) X (k_X4_isPlace p0 p1 _ q2) (va_cwS 2 X.2.2.2.2 gX4_predict_X4_isPlace rfl rfl rfl hd_X4_isPlace ⟨Nat.le_of_ble_eq_true rfl, Nat.le_of_ble_eq_true rfl⟩) hK hP hS hA rfl hl.1 rfl (Nat.le_of_ble_eq_true rfl) dX4_predict_2 ⟨Nat.le_of_ble_eq_true rfl, Nat.le_of_ble_eq_true rfl⟩ (fun H locs hP hS => ?_)
  refine lv_if_ne (tgt := 11) X.1 X.2.1 dX4_predict_5 (by decide) (fun c3 => ?_) (fun c3 => ?_)
  · rw [if_neg c3] at h
    refine lv_aload_n X.1 X.2.1 dX4_predict_11 rfl (lv_at hl 0 rfl) ?_
    refine gX4_isDone X (fun w h => (List.mem_cons_of_mem _ (List.mem_append_right _ h))) hK hP (List.mem_cons_of_mem _ (List.mem_append_left _ (List.mem_append_left _ (List.mem_of_getElem? (i := 0) rfl)))) dX4_predict_12 ?_
    refine lv_if_ne (tgt := 21) X.1 X.2.1 dX4_predict_15 (by decide) (fun c4 => ?_) (fun c4 => ?_)
    · rw [if_neg c4] at h
      refine lv_aload_n X.1 X.2.1 dX4_predict_21 rfl (lv_at hl 0 rfl) ?_
      refine lv_iload_n X.1 X.2.1 dX4_predict_22 rfl (lv_at hl 1 rfl) ?_
      refine lv_iload_n X.1 X.2.1 dX4_predict_23 rfl (lv_at hl 2 rfl) ?_
      obtain ⟨r5, q6, h⟩ := bd_e h
      refine kc_v (As := [.int p0, .int p1]) (rest := []) X (k_X4_decisionOf N p0 p1 μ _ q6) (cwV 2 X.2.2.2.2 gX4_predict_X4_decisionOf rfl rfl rfl hd_X4_decisionOf ⟨Nat.le_of_ble_eq_true rfl, Nat.le_of_ble_eq_true rfl⟩) hK hP hD hS hA (va_recv hK hP (ci := 3) (q0 := 0) rfl rfl) rfl hl.1 rfl (Nat.le_of_ble_eq_true rfl) dX4_predict_24 ⟨Nat.le_of_ble_eq_true rfl, Nat.le_of_ble_eq_true rfl⟩ (fun H locs hP hD hS => ?_)
      refine lv_lstore_n (lv' := [(3, .long r5), (0, .ref (a 0)), (1, .int p0), (2, .int p1)]) X.1 X.2.1 dX4_predict_27 rfl hl (by decide) rfl (fun ls hl => ?_)
      refine lv_lload_n X.1 X.2.1 dX4_predict_28 rfl (lv_at hl 0 rfl) ?_
      refine lv_lconst (v := (0 : Int64)) X.1 X.2.1 dX4_predict_29 (by decide) ?_
      refine W.lcmp X.1 X.2.1 dX4_predict_30 ?_
      refine lv_if_le (tgt := 38) X.1 X.2.1 dX4_predict_31 (by decide) (fun c7 => ?_) (fun c7 => ?_)
      · rw [if_pos c7] at h
        refine lv_lload_n X.1 X.2.1 dX4_predict_38 rfl (lv_at hl 0 rfl) ?_
        refine lv_lconst (v := (0 : Int64)) X.1 X.2.1 dX4_predict_39 (by decide) ?_
        refine W.lcmp X.1 X.2.1 dX4_predict_40 ?_
        refine lv_if_ge (tgt := 48) X.1 X.2.1 dX4_predict_41 (by decide) (fun c8 => ?_) (fun c8 => ?_)
        · rw [if_pos c8] at h
          refine lv_iconst (v := (0 : Int32)) X.1 X.2.1 dX4_predict_48 (by decide) ?_
          have h := sm_e h
          subst h
          exact rt_i X hr hlk hK hP hD hS dX4_predict_49
        · rw [if_neg c8] at h
          refine lv_iconst (v := (-1 : Int32)) X.1 X.2.1 dX4_predict_44 (by decide) ?_
          refine lv_goto (tgt := 49) X.1 X.2.1 dX4_predict_45 (by decide) ?_
          have h := sm_e h
          subst h
          exact rt_i X hr hlk hK hP hD hS dX4_predict_49
      · rw [if_neg c7] at h
        refine lv_iconst (v := (1 : Int32)) X.1 X.2.1 dX4_predict_34 (by decide) ?_
        refine lv_goto (tgt := 49) X.1 X.2.1 dX4_predict_35 (by decide) ?_
        have h := sm_e h
        subst h
        exact rt_i X hr hlk hK hP hD hS dX4_predict_49
    · rw [if_pos c4] at h
      refine lv_bipush (v := (-3 : Int32)) X.1 X.2.1 dX4_predict_18 (by decide) ?_
      have h := sm_e h
      subst h
      exact rt_i X hr hlk hK hP hD hS dX4_predict_20
  · rw [if_pos c3] at h
    refine lv_bipush (v := (-2 : Int32)) X.1 X.2.1 dX4_predict_8 (by decide) ?_
    have h := sm_e h
    subst h
    exact rt_i X hr hlk hK hP hD hS dX4_predict_10
def f_X4_count_L87 (N : Nat) : Nat → Int32 → Int32 → MS → Option Int32
  | 0, _, _, _ => none
  | n + 1, v2, v3, μ => if (m_pt μ) ≤ v3 then if (m_dn μ) = 0 then some (-1 : Int32) else some v2 else if (m_dn μ) = 0 then if (m_dn μ) = 0 then some (-1 : Int32) else some v2 else (f_X4_worthOf N v3 μ).bind (fun r5 => if (lg_cmp r5 (0 : Int64)) ≤ 0 then lt_ (v2 + (0 : Int32)) (fun x8 => lt_ (v3 + (1 : Int32)) (fun x10 => f_X4_count_L87 N n x8 x10 μ)) else lt_ (v2 + (1 : Int32)) (fun x12 => lt_ (v3 + (1 : Int32)) (fun x14 => f_X4_count_L87 N n x12 x14 μ)))
set_option maxHeartbeats 4000000 in
set_option maxRecDepth 100000 in
theorem t_X4_count_L87 {p : Program} {l : Launch} {e : Env} {s : State} {m : MethodId} {args : Array Value} {below : List Frame} {meth : Method} {c : Code} {D : va_G} {A : Nat → Prop} {k : Nat → ClassId} {a : Nat → Nat} (X : CallFix p m c cX4_count 4 s args wsX4_count RX4) (hr : meth.sig.returnType = some .int) (hlk : meth.locks = false) (hK : va_K D vwCl (mT k) s) (hA : ∀ q : Nat, s.heap.size ≤ q → A q) (N : Nat) : ∀ (n : Nat) (v2 : Int32) (v3 : Int32) (μ : MS) (R : Int32), f_X4_count_L87 N n v2 v3 μ = some R → ∀ (H : Heap) (locs : List Loc) (ls : Array Slot), va_P D vwCl (mW k a μ) H → va_D A (mW k a μ) → va_S A s.heap H locs → lv_has ls 4 [(0, .ref (a 0)), (2, .int v2), (3, .int v3)] → W p l e ({ frames := 2, cells := 0, slots := 0, locals := 42 } : Room) s m args below meth c H locs 0 0 (MQ below (cQ D (mT k) A (mW k a μ) (some (.int R))) args s 0 0 A) (F0 m 87 ls []) := by
  intro n
  induction n with
  | zero =>
    intro v2 v3 μ R h
    exact absurd h (by simp [f_X4_count_L87])
  | succ n ih =>
    intro v2 v3 μ R h H locs ls hP hD hS hl
    rw [f_X4_count_L87] at h
    refine lv_iload_n X.1 X.2.1 dX4_count_87 rfl (lv_at hl 2 rfl) ?_
    refine lv_aload_n X.1 X.2.1 dX4_count_88 rfl (lv_at hl 0 rfl) ?_
    refine gX4_points X (fun w h => (List.mem_cons_of_mem _ (List.mem_append_right _ h))) hK hP (List.mem_cons_of_mem _ (List.mem_append_left _ (List.mem_of_getElem? (i := 0) rfl))) dX4_count_89 ?_
    refine lv_icmp_ge (tgt := 126) X.1 X.2.1 dX4_count_92 (by decide) (fun c1 => ?_) (fun c1 => ?_)
    · rw [if_pos c1] at h
      refine lv_aload_n X.1 X.2.1 dX4_count_126 rfl (lv_at hl 0 rfl) ?_
      refine gX4_isDone X (fun w h => (List.mem_cons_of_mem _ (List.mem_append_right _ h))) hK hP (List.mem_cons_of_mem _ (List.mem_append_left _ (List.mem_of_getElem? (i := 6) rfl))) dX4_count_127 ?_
      refine lv_if_eq (tgt := 137) X.1 X.2.1 dX4_count_130 (by decide) (fun c2 => ?_) (fun c2 => ?_)
      · rw [if_pos c2] at h
        refine lv_iconst (v := (-1 : Int32)) X.1 X.2.1 dX4_count_137 (by decide) ?_
        have h := sm_e h
        subst h
        exact rt_i X hr hlk hK hP hD hS dX4_count_138
      · rw [if_neg c2] at h
        refine lv_iload_n X.1 X.2.1 dX4_count_133 rfl (lv_at hl 1 rfl) ?_
        refine lv_goto (tgt := 138) X.1 X.2.1 dX4_count_134 (by decide) ?_
        have h := sm_e h
        subst h
        exact rt_i X hr hlk hK hP hD hS dX4_count_138
    · rw [if_neg c1] at h
      refine lv_aload_n X.1 X.2.1 dX4_count_95 rfl (lv_at hl 0 rfl) ?_
      refine gX4_isDone X (fun w h => (List.mem_cons_of_mem _ (List.mem_append_right _ h))) hK hP (List.mem_cons_of_mem _ (List.mem_append_left _ (List.mem_of_getElem? (i := 6) rfl))) dX4_count_96 ?_
      refine lv_if_eq (tgt := 126) X.1 X.2.1 dX4_count_99 (by decide) (fun c3 => ?_) (fun c3 => ?_)
      · rw [if_pos c3] at h
        refine lv_aload_n X.1 X.2.1 dX4_count_126 rfl (lv_at hl 0 rfl) ?_
        refine gX4_isDone X (fun w h => (List.mem_cons_of_mem _ (List.mem_append_right _ h))) hK hP (List.mem_cons_of_mem _ (List.mem_append_left _ (List.mem_of_getElem? (i := 6) rfl))) dX4_count_127 ?_
        refine lv_if_eq (tgt := 137) X.1 X.2.1 dX4_count_130 (by decide) (fun c4 => ?_) (fun c4 => ?_)
        · rw [if_pos c4] at h
          refine lv_iconst (v := (-1 : Int32)) X.1 X.2.1 dX4_count_137 (by decide) ?_
          have h := sm_e h
          subst h
          exact rt_i X hr hlk hK hP hD hS dX4_count_138
        · rw [if_neg c4] at h
          refine lv_iload_n X.1 X.2.1 dX4_count_133 rfl (lv_at hl 1 rfl) ?_
          refine lv_goto (tgt := 138) X.1 X.2.1 dX4_count_134 (by decide) ?_
          have h := sm_e h
          subst h
          exact rt_i X hr hlk hK hP hD hS dX4_count_138
      · rw [if_neg c3] at h
        refine lv_iload_n X.1 X.2.1 dX4_count_102 rfl (lv_at hl 1 rfl) ?_
        refine lv_aload_n X.1 X.2.1 dX4_count_103 rfl (lv_at hl 0 rfl) ?_
        refine lv_iload_n X.1 X.2.1 dX4_count_104 rfl (lv_at hl 2 rfl) ?_
        obtain ⟨r5, q6, h⟩ := bd_e h
        refine kc_v (As := [.int v3]) (rest := [.int v2]) X (k_X4_worthOf N v3 μ _ q6) (cwV 1 X.2.2.2.2 gX4_count_X4_worthOf rfl rfl rfl hd_X4_worthOf ⟨Nat.le_of_ble_eq_true rfl, Nat.le_of_ble_eq_true rfl⟩) hK hP hD hS hA (va_recv hK hP (ci := 3) (q0 := 0) rfl rfl) rfl hl.1 rfl (Nat.le_of_ble_eq_true rfl) dX4_count_105 ⟨Nat.le_of_ble_eq_true rfl, Nat.le_of_ble_eq_true rfl⟩ (fun H locs hP hD hS => ?_)
        refine lv_lconst (v := (0 : Int64)) X.1 X.2.1 dX4_count_108 (by decide) ?_
        refine W.lcmp X.1 X.2.1 dX4_count_109 ?_
        refine lv_if_le (tgt := 117) X.1 X.2.1 dX4_count_110 (by decide) (fun c7 => ?_) (fun c7 => ?_)
        · rw [if_pos c7] at h
          refine lv_iconst (v := (0 : Int32)) X.1 X.2.1 dX4_count_117 (by decide) ?_
          refine lv_iadd X.1 X.2.1 dX4_count_118 ?_
          obtain ⟨x8, e9, h⟩ := lt_e h
          refine nm_i e9 ?_
          refine lv_istore_n (lv' := [(2, .int x8), (0, .ref (a 0)), (3, .int v3)]) X.1 X.2.1 dX4_count_119 rfl hl (by decide) rfl (fun ls hl => ?_)
          obtain ⟨x10, e11, h⟩ := lt_e h
          refine lv_iinc (v := x10) (lv' := [(3, .int x10), (2, .int x8), (0, .ref (a 0))]) X.1 X.2.1 dX4_count_120 hl (k := 2) rfl e11.symm (by decide) rfl (fun ls hl => ?_)
          refine lv_goto (tgt := 87) X.1 X.2.1 dX4_count_123 (by decide) ?_
          exact ih x8 x10 μ _ h _ _ _ hP hD hS (lv_sub hl [2, 1, 0] rfl)
        · rw [if_neg c7] at h
          refine lv_iconst (v := (1 : Int32)) X.1 X.2.1 dX4_count_113 (by decide) ?_
          refine lv_goto (tgt := 118) X.1 X.2.1 dX4_count_114 (by decide) ?_
          refine lv_iadd X.1 X.2.1 dX4_count_118 ?_
          obtain ⟨x12, e13, h⟩ := lt_e h
          refine nm_i e13 ?_
          refine lv_istore_n (lv' := [(2, .int x12), (0, .ref (a 0)), (3, .int v3)]) X.1 X.2.1 dX4_count_119 rfl hl (by decide) rfl (fun ls hl => ?_)
          obtain ⟨x14, e15, h⟩ := lt_e h
          refine lv_iinc (v := x14) (lv' := [(3, .int x14), (2, .int x12), (0, .ref (a 0))]) X.1 X.2.1 dX4_count_120 hl (k := 2) rfl e15.symm (by decide) rfl (fun ls hl => ?_)
          refine lv_goto (tgt := 87) X.1 X.2.1 dX4_count_123 (by decide) ?_
          exact ih x12 x14 μ _ h _ _ _ hP hD hS (lv_sub hl [2, 1, 0] rfl)
def f_X4_count (N : Nat) (p0 : Int32) (μ : MS) : Option Int32 := if p0 = (0 : Int32) then some (m_pt μ) else if p0 = (1 : Int32) then some (m_dg μ) else if p0 = (2 : Int32) then some (m_bA μ) else if p0 = (3 : Int32) then some (m_bB μ) else if p0 = (4 : Int32) then some (m_st μ) else if p0 = (5 : Int32) then if (m_bg μ) = 0 then some (-1 : Int32) else (f_X4_stands μ).bind (fun r8 => some r8) else if p0 = (6 : Int32) then f_X4_count_L87 N N (0 : Int32) (0 : Int32) μ else some (-2 : Int32)
theorem hd_X4_count : yX4_count.cls = RX4 ∧ yX4_count.cls ≠ "java/lang/invoke/MethodHandle" ∧ yX4_count.cls ≠ "java/lang/invoke/VarHandle" ∧ (parseMethodDescriptor yX4_count.desc).map (fun d => d.parameters.length) = some 1 := by decide +kernel
set_option maxHeartbeats 4000000 in
set_option maxRecDepth 100000 in
theorem k_X4_count {l : Launch} {D : va_G} {k : Nat → ClassId} {a : Nat → Nat} (N : Nat) (p0 : Int32) (μ : MS) (R : Int32) (h : f_X4_count N p0 μ = some R) : Ct l yX4_count wsX4_count ({ frames := 2, cells := 0, slots := 0, locals := 42 } : Room) D (mT k) (mW k a μ) (mW k a μ) [.ref (a 0), .int p0] (some (.int R)) := by
  refine ct_of (cc := cX4_count) (maxL := 4) (ret := (some .int)) (by decide) rfl (Nat.le_of_ble_eq_true rfl) ?_
  intro p e s m args below meth c A ls X hr hlk hK hA hP hD hS hl
  have X : CallFix p m c cX4_count 4 s args wsX4_count RX4 := X
  have hl : lv_has ls 4 [(0, .ref (a 0)), (1, .int p0)] := hl
  rw [f_X4_count] at h
  refine lv_iconst (v := (0 : Int32)) X.1 X.2.1 dX4_count_0 (by decide) ?_
  refine lv_istore_n (lv' := [(2, .int (0 : Int32)), (0, .ref (a 0)), (1, .int p0)]) X.1 X.2.1 dX4_count_1 rfl hl (by decide) rfl (fun ls hl => ?_)
  refine lv_iload_n X.1 X.2.1 dX4_count_2 rfl (lv_at hl 2 rfl) ?_
  by_cases z1 : p0 = (0 : Int32)
  · rw [if_pos z1] at h
    refine lv_tableIn (off := 41) (tgt := 44) X.1 X.2.1 dX4_count_3 (by rw [z1]; decide) (by rw [z1]; decide) (by rw [z1]; rfl) (by decide) ?_
    refine lv_aload_n X.1 X.2.1 dX4_count_44 rfl (lv_at hl 1 rfl) ?_
    refine gX4_points X (fun w h => (List.mem_cons_of_mem _ (List.mem_append_right _ h))) hK hP (List.mem_cons_of_mem _ (List.mem_append_left _ (List.mem_of_getElem? (i := 0) rfl))) dX4_count_45 ?_
    have h := sm_e h
    subst h
    exact rt_i X hr hlk hK hP hD hS dX4_count_48
  · rw [if_neg z1] at h
    by_cases z2 : p0 = (1 : Int32)
    · rw [if_pos z2] at h
      refine lv_tableIn (off := 46) (tgt := 49) X.1 X.2.1 dX4_count_3 (by rw [z2]; decide) (by rw [z2]; decide) (by rw [z2]; rfl) (by decide) ?_
      refine lv_aload_n X.1 X.2.1 dX4_count_49 rfl (lv_at hl 1 rfl) ?_
      refine gX4_degree X (fun w h => (List.mem_cons_of_mem _ (List.mem_append_right _ h))) hK hP (List.mem_cons_of_mem _ (List.mem_append_left _ (List.mem_of_getElem? (i := 1) rfl))) dX4_count_50 ?_
      have h := sm_e h
      subst h
      exact rt_i X hr hlk hK hP hD hS dX4_count_53
    · rw [if_neg z2] at h
      by_cases z3 : p0 = (2 : Int32)
      · rw [if_pos z3] at h
        refine lv_tableIn (off := 51) (tgt := 54) X.1 X.2.1 dX4_count_3 (by rw [z3]; decide) (by rw [z3]; decide) (by rw [z3]; rfl) (by decide) ?_
        refine lv_aload_n X.1 X.2.1 dX4_count_54 rfl (lv_at hl 1 rfl) ?_
        refine gX4_boxAbove X (fun w h => (List.mem_cons_of_mem _ (List.mem_append_right _ h))) hK hP (List.mem_cons_of_mem _ (List.mem_append_left _ (List.mem_of_getElem? (i := 2) rfl))) dX4_count_55 ?_
        have h := sm_e h
        subst h
        exact rt_i X hr hlk hK hP hD hS dX4_count_58
      · rw [if_neg z3] at h
        by_cases z4 : p0 = (3 : Int32)
        · rw [if_pos z4] at h
          refine lv_tableIn (off := 56) (tgt := 59) X.1 X.2.1 dX4_count_3 (by rw [z4]; decide) (by rw [z4]; decide) (by rw [z4]; rfl) (by decide) ?_
          refine lv_aload_n X.1 X.2.1 dX4_count_59 rfl (lv_at hl 1 rfl) ?_
          refine gX4_boxBelow X (fun w h => (List.mem_cons_of_mem _ (List.mem_append_right _ h))) hK hP (List.mem_cons_of_mem _ (List.mem_append_left _ (List.mem_of_getElem? (i := 3) rfl))) dX4_count_60 ?_
          have h := sm_e h
          subst h
          exact rt_i X hr hlk hK hP hD hS dX4_count_63
        · rw [if_neg z4] at h
          by_cases z5 : p0 = (4 : Int32)
          · rw [if_pos z5] at h
            refine lv_tableIn (off := 61) (tgt := 64) X.1 X.2.1 dX4_count_3 (by rw [z5]; decide) (by rw [z5]; decide) (by rw [z5]; rfl) (by decide) ?_
            refine lv_aload_n X.1 X.2.1 dX4_count_64 rfl (lv_at hl 1 rfl) ?_
            refine gX4_steps X (fun w h => (List.mem_cons_of_mem _ (List.mem_append_right _ h))) hK hP (List.mem_cons_of_mem _ (List.mem_append_left _ (List.mem_of_getElem? (i := 4) rfl))) dX4_count_65 ?_
            have h := sm_e h
            subst h
            exact rt_i X hr hlk hK hP hD hS dX4_count_68
          · rw [if_neg z5] at h
            by_cases z6 : p0 = (5 : Int32)
            · rw [if_pos z6] at h
              refine lv_tableIn (off := 66) (tgt := 69) X.1 X.2.1 dX4_count_3 (by rw [z6]; decide) (by rw [z6]; decide) (by rw [z6]; rfl) (by decide) ?_
              refine lv_aload_n X.1 X.2.1 dX4_count_69 rfl (lv_at hl 1 rfl) ?_
              refine gX4_isBegun X (fun w h => (List.mem_cons_of_mem _ (List.mem_append_right _ h))) hK hP (List.mem_cons_of_mem _ (List.mem_append_left _ (List.mem_of_getElem? (i := 5) rfl))) dX4_count_70 ?_
              refine lv_if_eq (tgt := 83) X.1 X.2.1 dX4_count_73 (by decide) (fun c7 => ?_) (fun c7 => ?_)
              · rw [if_pos c7] at h
                refine lv_iconst (v := (-1 : Int32)) X.1 X.2.1 dX4_count_83 (by decide) ?_
                have h := sm_e h
                subst h
                exact rt_i X hr hlk hK hP hD hS dX4_count_84
              · rw [if_neg c7] at h
                refine lv_aload_n X.1 X.2.1 dX4_count_76 rfl (lv_at hl 1 rfl) ?_
                obtain ⟨r8, q9, h⟩ := bd_e h
                refine kc_v (As := []) (rest := []) X (k_X4_stands μ _ q9) (cwV 0 X.2.2.2.2 gX4_count_X4_stands rfl rfl rfl hd_X4_stands ⟨Nat.le_of_ble_eq_true rfl, Nat.le_of_ble_eq_true rfl⟩) hK hP hD hS hA (va_recv hK hP (ci := 3) (q0 := 0) rfl rfl) rfl hl.1 rfl (Nat.le_of_ble_eq_true rfl) dX4_count_77 ⟨Nat.le_of_ble_eq_true rfl, Nat.le_of_ble_eq_true rfl⟩ (fun H locs hP hD hS => ?_)
                refine lv_goto (tgt := 84) X.1 X.2.1 dX4_count_80 (by decide) ?_
                have h := sm_e h
                subst h
                exact rt_i X hr hlk hK hP hD hS dX4_count_84
            · rw [if_neg z6] at h
              by_cases z10 : p0 = (6 : Int32)
              · rw [if_pos z10] at h
                refine lv_tableIn (off := 82) (tgt := 85) X.1 X.2.1 dX4_count_3 (by rw [z10]; decide) (by rw [z10]; decide) (by rw [z10]; rfl) (by decide) ?_
                refine lv_iconst (v := (0 : Int32)) X.1 X.2.1 dX4_count_85 (by decide) ?_
                refine lv_istore_n (lv' := [(3, .int (0 : Int32)), (2, .int (0 : Int32)), (0, .ref (a 0)), (1, .int p0)]) X.1 X.2.1 dX4_count_86 rfl hl (by decide) rfl (fun ls hl => ?_)
                exact t_X4_count_L87 X hr hlk hK hA N N (0 : Int32) (0 : Int32) μ _ h _ _ _ hP hD hS (lv_sub hl [2, 1, 0] rfl)
              · rw [if_neg z10] at h
                refine lv_tableOut (tgt := 139) X.1 X.2.1 dX4_count_3 (by have z1 := ne_i z1 (n := 0) (by decide); have z2 := ne_i z2 (n := 1) (by decide); have z3 := ne_i z3 (n := 2) (by decide); have z4 := ne_i z4 (n := 3) (by decide); have z5 := ne_i z5 (n := 4) (by decide); have z6 := ne_i z6 (n := 5) (by decide); have z10 := ne_i z10 (n := 6) (by decide); omega) (by decide) ?_
                refine lv_bipush (v := (-2 : Int32)) X.1 X.2.1 dX4_count_139 (by decide) ?_
                have h := sm_e h
                subst h
                exact rt_i X hr hlk hK hP hD hS dX4_count_141
def f_X4_digest_L141 (N : Nat) : Nat → Int64 → Int32 → MS → Option Int64
  | 0, _, _, _ => none
  | n + 1, v1, v3, μ => if (m_pt μ) ≤ v3 then some v1 else (f_X4_multiplier N v3 (0 : Int32) μ).bind (fun r2 => (f_X4_multiplier N v3 (1 : Int32) μ).bind (fun r4 => lt_ (((31 : Int64) * (((31 : Int64) * v1) + r2)) + r4) (fun x6 => lt_ (v3 + (1 : Int32)) (fun x8 => f_X4_digest_L141 N n x6 x8 μ))))
set_option maxHeartbeats 4000000 in
set_option maxRecDepth 100000 in
theorem t_X4_digest_L141 {p : Program} {l : Launch} {e : Env} {s : State} {m : MethodId} {args : Array Value} {below : List Frame} {meth : Method} {c : Code} {D : va_G} {A : Nat → Prop} {k : Nat → ClassId} {a : Nat → Nat} (X : CallFix p m c cX4_digest 4 s args wsX4_digest RX4) (hr : meth.sig.returnType = some .long) (hlk : meth.locks = false) (hK : va_K D vwCl (mT k) s) (hA : ∀ q : Nat, s.heap.size ≤ q → A q) (N : Nat) : ∀ (n : Nat) (v1 : Int64) (v3 : Int32) (μ : MS) (R : Int64), f_X4_digest_L141 N n v1 v3 μ = some R → ∀ (H : Heap) (locs : List Loc) (ls : Array Slot), va_P D vwCl (mW k a μ) H → va_D A (mW k a μ) → va_S A s.heap H locs → lv_has ls 4 [(0, .ref (a 0)), (1, .long v1), (3, .int v3)] → W p l e ({ frames := 4, cells := 0, slots := 0, locals := 98 } : Room) s m args below meth c H locs 0 0 (MQ below (cQ D (mT k) A (mW k a μ) (some (.long R))) args s 0 0 A) (F0 m 141 ls []) := by
  intro n
  induction n with
  | zero =>
    intro v1 v3 μ R h
    exact absurd h (by simp [f_X4_digest_L141])
  | succ n ih =>
    intro v1 v3 μ R h H locs ls hP hD hS hl
    rw [f_X4_digest_L141] at h
    refine lv_iload_n X.1 X.2.1 dX4_digest_141 rfl (lv_at hl 2 rfl) ?_
    refine lv_aload_n X.1 X.2.1 dX4_digest_142 rfl (lv_at hl 0 rfl) ?_
    refine gX4_points X (fun w h => (List.mem_cons_of_mem _ (List.mem_append_right _ h))) hK hP (List.mem_cons_of_mem _ (List.mem_append_left _ (List.mem_append_left _ (List.mem_of_getElem? (i := 2) rfl)))) dX4_digest_143 ?_
    refine lv_icmp_ge (tgt := 179) X.1 X.2.1 dX4_digest_146 (by decide) (fun c1 => ?_) (fun c1 => ?_)
    · rw [if_pos c1] at h
      refine lv_lload_n X.1 X.2.1 dX4_digest_179 rfl (lv_at hl 1 rfl) ?_
      have h := sm_e h
      subst h
      exact rt_l X hr hlk hK hP hD hS dX4_digest_180
    · rw [if_neg c1] at h
      refine lv_ldc2 (v := (31 : Int64)) X.1 X.2.1 X.2.2.2.1 (X.2.2.2.2 _ (List.mem_cons_of_mem _ (List.mem_append_left _ (List.mem_append_left _ (List.mem_of_getElem? (i := 1) rfl))))) dX4_digest_149 ?_
      refine lv_ldc2 (v := (31 : Int64)) X.1 X.2.1 X.2.2.2.1 (X.2.2.2.2 _ (List.mem_cons_of_mem _ (List.mem_append_left _ (List.mem_append_left _ (List.mem_of_getElem? (i := 1) rfl))))) dX4_digest_152 ?_
      refine lv_lload_n X.1 X.2.1 dX4_digest_155 rfl (lv_at hl 1 rfl) ?_
      refine lv_lmul X.1 X.2.1 dX4_digest_156 ?_
      refine lv_aload_n X.1 X.2.1 dX4_digest_157 rfl (lv_at hl 0 rfl) ?_
      refine lv_iload_n X.1 X.2.1 dX4_digest_158 rfl (lv_at hl 2 rfl) ?_
      refine lv_iconst (v := (0 : Int32)) X.1 X.2.1 dX4_digest_159 (by decide) ?_
      obtain ⟨r2, q3, h⟩ := bd_e h
      refine kc_v (As := [.int v3, .int (0 : Int32)]) (rest := [.long ((31 : Int64) * v1), .long (31 : Int64)]) X (k_X4_multiplier N v3 (0 : Int32) μ _ q3) (cwV 2 X.2.2.2.2 gX4_digest_X4_multiplier rfl rfl rfl hd_X4_multiplier ⟨Nat.le_of_ble_eq_true rfl, Nat.le_of_ble_eq_true rfl⟩) hK hP hD hS hA (va_recv hK hP (ci := 3) (q0 := 0) rfl rfl) rfl hl.1 rfl (Nat.le_of_ble_eq_true rfl) dX4_digest_160 ⟨Nat.le_of_ble_eq_true rfl, Nat.le_of_ble_eq_true rfl⟩ (fun H locs hP hD hS => ?_)
      refine lv_ladd X.1 X.2.1 dX4_digest_163 ?_
      refine lv_lmul X.1 X.2.1 dX4_digest_164 ?_
      refine lv_aload_n X.1 X.2.1 dX4_digest_165 rfl (lv_at hl 0 rfl) ?_
      refine lv_iload_n X.1 X.2.1 dX4_digest_166 rfl (lv_at hl 2 rfl) ?_
      refine lv_iconst (v := (1 : Int32)) X.1 X.2.1 dX4_digest_167 (by decide) ?_
      obtain ⟨r4, q5, h⟩ := bd_e h
      refine kc_v (As := [.int v3, .int (1 : Int32)]) (rest := [.long ((31 : Int64) * (((31 : Int64) * v1) + r2))]) X (k_X4_multiplier N v3 (1 : Int32) μ _ q5) (cwV 2 X.2.2.2.2 gX4_digest_X4_multiplier rfl rfl rfl hd_X4_multiplier ⟨Nat.le_of_ble_eq_true rfl, Nat.le_of_ble_eq_true rfl⟩) hK hP hD hS hA (va_recv hK hP (ci := 3) (q0 := 0) rfl rfl) rfl hl.1 rfl (Nat.le_of_ble_eq_true rfl) dX4_digest_168 ⟨Nat.le_of_ble_eq_true rfl, Nat.le_of_ble_eq_true rfl⟩ (fun H locs hP hD hS => ?_)
      refine lv_ladd X.1 X.2.1 dX4_digest_171 ?_
      obtain ⟨x6, e7, h⟩ := lt_e h
      refine nm_l e7 ?_
      refine lv_lstore_n (lv' := [(1, .long x6), (0, .ref (a 0)), (3, .int v3)]) X.1 X.2.1 dX4_digest_172 rfl hl (by decide) rfl (fun ls hl => ?_)
      obtain ⟨x8, e9, h⟩ := lt_e h
      refine lv_iinc (v := x8) (lv' := [(3, .int x8), (1, .long x6), (0, .ref (a 0))]) X.1 X.2.1 dX4_digest_173 hl (k := 2) rfl e9.symm (by decide) rfl (fun ls hl => ?_)
      refine lv_goto (tgt := 141) X.1 X.2.1 dX4_digest_176 (by decide) ?_
      exact ih x6 x8 μ _ h _ _ _ hP hD hS (lv_sub hl [2, 1, 0] rfl)
def f_X4_digest_L87 (N : Nat) : Nat → Int64 → Int32 → MS → Option Int64
  | 0, _, _, _ => none
  | n + 1, v1, v3, μ => if (m_st μ) ≤ v3 then f_X4_digest_L141 N N v1 (0 : Int32) μ else gd (inB v3 200) (gd (inB v3 200) (gd (inB v3 200) (lt_ (((31 : Int64) * (((31 : Int64) * (((31 : Int64) * v1) + ((m_en μ v3.toNatClampNeg).toInt64))) + ((m_lf μ v3.toNatClampNeg).toInt64))) + ((m_la μ v3.toNatClampNeg).toInt64)) (fun x13 => lt_ (v3 + (1 : Int32)) (fun x15 => f_X4_digest_L87 N n x13 x15 μ)))))
set_option maxHeartbeats 4000000 in
set_option maxRecDepth 100000 in
theorem t_X4_digest_L87 {p : Program} {l : Launch} {e : Env} {s : State} {m : MethodId} {args : Array Value} {below : List Frame} {meth : Method} {c : Code} {D : va_G} {A : Nat → Prop} {k : Nat → ClassId} {a : Nat → Nat} (X : CallFix p m c cX4_digest 4 s args wsX4_digest RX4) (hr : meth.sig.returnType = some .long) (hlk : meth.locks = false) (hK : va_K D vwCl (mT k) s) (hA : ∀ q : Nat, s.heap.size ≤ q → A q) (N : Nat) : ∀ (n : Nat) (v1 : Int64) (v3 : Int32) (μ : MS) (R : Int64), f_X4_digest_L87 N n v1 v3 μ = some R → ∀ (H : Heap) (locs : List Loc) (ls : Array Slot), va_P D vwCl (mW k a μ) H → va_D A (mW k a μ) → va_S A s.heap H locs → lv_has ls 4 [(0, .ref (a 0)), (1, .long v1), (3, .int v3)] → W p l e ({ frames := 4, cells := 0, slots := 0, locals := 98 } : Room) s m args below meth c H locs 0 0 (MQ below (cQ D (mT k) A (mW k a μ) (some (.long R))) args s 0 0 A) (F0 m 87 ls []) := by
  intro n
  induction n with
  | zero =>
    intro v1 v3 μ R h
    exact absurd h (by simp [f_X4_digest_L87])
  | succ n ih =>
    intro v1 v3 μ R h H locs ls hP hD hS hl
    rw [f_X4_digest_L87] at h
    refine lv_iload_n X.1 X.2.1 dX4_digest_87 rfl (lv_at hl 2 rfl) ?_
    refine lv_aload_n X.1 X.2.1 dX4_digest_88 rfl (lv_at hl 0 rfl) ?_
    refine gX4_steps X (fun w h => (List.mem_cons_of_mem _ (List.mem_append_right _ h))) hK hP (List.mem_cons_of_mem _ (List.mem_append_left _ (List.mem_append_left _ (List.mem_of_getElem? (i := 6) rfl)))) dX4_digest_89 ?_
    refine lv_icmp_ge (tgt := 139) X.1 X.2.1 dX4_digest_92 (by decide) (fun c1 => ?_) (fun c1 => ?_)
    · rw [if_pos c1] at h
      refine lv_iconst (v := (0 : Int32)) X.1 X.2.1 dX4_digest_139 (by decide) ?_
      refine lv_istore_n (lv' := [(3, .int (0 : Int32)), (0, .ref (a 0)), (1, .long v1)]) X.1 X.2.1 dX4_digest_140 rfl hl (by decide) rfl (fun ls hl => ?_)
      exact t_X4_digest_L141 X hr hlk hK hA N N v1 (0 : Int32) μ _ h _ _ _ hP hD hS (lv_sub hl [1, 2, 0] rfl)
    · rw [if_neg c1] at h
      refine lv_ldc2 (v := (31 : Int64)) X.1 X.2.1 X.2.2.2.1 (X.2.2.2.2 _ (List.mem_cons_of_mem _ (List.mem_append_left _ (List.mem_append_left _ (List.mem_of_getElem? (i := 1) rfl))))) dX4_digest_95 ?_
      refine lv_ldc2 (v := (31 : Int64)) X.1 X.2.1 X.2.2.2.1 (X.2.2.2.2 _ (List.mem_cons_of_mem _ (List.mem_append_left _ (List.mem_append_left _ (List.mem_of_getElem? (i := 1) rfl))))) dX4_digest_98 ?_
      refine lv_ldc2 (v := (31 : Int64)) X.1 X.2.1 X.2.2.2.1 (X.2.2.2.2 _ (List.mem_cons_of_mem _ (List.mem_append_left _ (List.mem_append_left _ (List.mem_of_getElem? (i := 1) rfl))))) dX4_digest_101 ?_
      refine lv_lload_n X.1 X.2.1 dX4_digest_104 rfl (lv_at hl 1 rfl) ?_
      refine lv_lmul X.1 X.2.1 dX4_digest_105 ?_
      refine lv_aload_n X.1 X.2.1 dX4_digest_106 rfl (lv_at hl 0 rfl) ?_
      refine gX4_entered X (fun w h => (List.mem_cons_of_mem _ (List.mem_append_right _ h))) hK hP (List.mem_cons_of_mem _ (List.mem_append_left _ (List.mem_append_left _ (List.mem_of_getElem? (i := 7) rfl)))) dX4_digest_107 ?_
      refine lv_iload_n X.1 X.2.1 dX4_digest_110 rfl (lv_at hl 2 rfl) ?_
      obtain ⟨g10, h⟩ := gd_e h
      refine lm_en X hK hP g10 dX4_digest_111 ?_
      refine lv_i2l (v := (m_en μ v3.toNatClampNeg).toInt64) X.1 X.2.1 dX4_digest_112 rfl ?_
      refine lv_ladd X.1 X.2.1 dX4_digest_113 ?_
      refine lv_lmul X.1 X.2.1 dX4_digest_114 ?_
      refine lv_aload_n X.1 X.2.1 dX4_digest_115 rfl (lv_at hl 0 rfl) ?_
      refine gX4_left X (fun w h => (List.mem_cons_of_mem _ (List.mem_append_right _ h))) hK hP (List.mem_cons_of_mem _ (List.mem_append_left _ (List.mem_append_left _ (List.mem_of_getElem? (i := 8) rfl)))) dX4_digest_116 ?_
      refine lv_iload_n X.1 X.2.1 dX4_digest_119 rfl (lv_at hl 2 rfl) ?_
      obtain ⟨g11, h⟩ := gd_e h
      refine lm_lf X hK hP g11 dX4_digest_120 ?_
      refine lv_i2l (v := (m_lf μ v3.toNatClampNeg).toInt64) X.1 X.2.1 dX4_digest_121 rfl ?_
      refine lv_ladd X.1 X.2.1 dX4_digest_122 ?_
      refine lv_lmul X.1 X.2.1 dX4_digest_123 ?_
      refine lv_aload_n X.1 X.2.1 dX4_digest_124 rfl (lv_at hl 0 rfl) ?_
      refine gX4_leftAt X (fun w h => (List.mem_cons_of_mem _ (List.mem_append_right _ h))) hK hP (List.mem_cons_of_mem _ (List.mem_append_left _ (List.mem_append_left _ (List.mem_of_getElem? (i := 9) rfl)))) dX4_digest_125 ?_
      refine lv_iload_n X.1 X.2.1 dX4_digest_128 rfl (lv_at hl 2 rfl) ?_
      obtain ⟨g12, h⟩ := gd_e h
      refine lm_la X hK hP g12 dX4_digest_129 ?_
      refine lv_i2l (v := (m_la μ v3.toNatClampNeg).toInt64) X.1 X.2.1 dX4_digest_130 rfl ?_
      refine lv_ladd X.1 X.2.1 dX4_digest_131 ?_
      obtain ⟨x13, e14, h⟩ := lt_e h
      refine nm_l e14 ?_
      refine lv_lstore_n (lv' := [(1, .long x13), (0, .ref (a 0)), (3, .int v3)]) X.1 X.2.1 dX4_digest_132 rfl hl (by decide) rfl (fun ls hl => ?_)
      obtain ⟨x15, e16, h⟩ := lt_e h
      refine lv_iinc (v := x15) (lv' := [(3, .int x15), (1, .long x13), (0, .ref (a 0))]) X.1 X.2.1 dX4_digest_133 hl (k := 2) rfl e16.symm (by decide) rfl (fun ls hl => ?_)
      refine lv_goto (tgt := 87) X.1 X.2.1 dX4_digest_136 (by decide) ?_
      exact ih x13 x15 μ _ h _ _ _ hP hD hS (lv_sub hl [2, 1, 0] rfl)
def f_X4_digest_L33 (N : Nat) : Nat → Int64 → Int32 → MS → Option Int64
  | 0, _, _, _ => none
  | n + 1, v1, v3, μ => if (m_pt μ) ≤ v3 then f_X4_digest_L87 N N v1 (0 : Int32) μ else gd (inB v3 6) (gd (inB v3 6) (gd (inB v3 6) (lt_ (((31 : Int64) * (((31 : Int64) * (((31 : Int64) * v1) + ((m_px μ v3.toNatClampNeg).toInt64))) + ((m_py μ v3.toNatClampNeg).toInt64))) + ((m_lb μ v3.toNatClampNeg).toInt64)) (fun x20 => lt_ (v3 + (1 : Int32)) (fun x22 => f_X4_digest_L33 N n x20 x22 μ)))))
set_option maxHeartbeats 4000000 in
set_option maxRecDepth 100000 in
theorem t_X4_digest_L33 {p : Program} {l : Launch} {e : Env} {s : State} {m : MethodId} {args : Array Value} {below : List Frame} {meth : Method} {c : Code} {D : va_G} {A : Nat → Prop} {k : Nat → ClassId} {a : Nat → Nat} (X : CallFix p m c cX4_digest 4 s args wsX4_digest RX4) (hr : meth.sig.returnType = some .long) (hlk : meth.locks = false) (hK : va_K D vwCl (mT k) s) (hA : ∀ q : Nat, s.heap.size ≤ q → A q) (N : Nat) : ∀ (n : Nat) (v1 : Int64) (v3 : Int32) (μ : MS) (R : Int64), f_X4_digest_L33 N n v1 v3 μ = some R → ∀ (H : Heap) (locs : List Loc) (ls : Array Slot), va_P D vwCl (mW k a μ) H → va_D A (mW k a μ) → va_S A s.heap H locs → lv_has ls 4 [(0, .ref (a 0)), (1, .long v1), (3, .int v3)] → W p l e ({ frames := 4, cells := 0, slots := 0, locals := 98 } : Room) s m args below meth c H locs 0 0 (MQ below (cQ D (mT k) A (mW k a μ) (some (.long R))) args s 0 0 A) (F0 m 33 ls []) := by
  intro n
  induction n with
  | zero =>
    intro v1 v3 μ R h
    exact absurd h (by simp [f_X4_digest_L33])
  | succ n ih =>
    intro v1 v3 μ R h H locs ls hP hD hS hl
    rw [f_X4_digest_L33] at h
    refine lv_iload_n X.1 X.2.1 dX4_digest_33 rfl (lv_at hl 2 rfl) ?_
    refine lv_aload_n X.1 X.2.1 dX4_digest_34 rfl (lv_at hl 0 rfl) ?_
    refine gX4_points X (fun w h => (List.mem_cons_of_mem _ (List.mem_append_right _ h))) hK hP (List.mem_cons_of_mem _ (List.mem_append_left _ (List.mem_append_left _ (List.mem_of_getElem? (i := 2) rfl)))) dX4_digest_35 ?_
    refine lv_icmp_ge (tgt := 85) X.1 X.2.1 dX4_digest_38 (by decide) (fun c1 => ?_) (fun c1 => ?_)
    · rw [if_pos c1] at h
      refine lv_iconst (v := (0 : Int32)) X.1 X.2.1 dX4_digest_85 (by decide) ?_
      refine lv_istore_n (lv' := [(3, .int (0 : Int32)), (0, .ref (a 0)), (1, .long v1)]) X.1 X.2.1 dX4_digest_86 rfl hl (by decide) rfl (fun ls hl => ?_)
      exact t_X4_digest_L87 X hr hlk hK hA N N v1 (0 : Int32) μ _ h _ _ _ hP hD hS (lv_sub hl [1, 2, 0] rfl)
    · rw [if_neg c1] at h
      refine lv_ldc2 (v := (31 : Int64)) X.1 X.2.1 X.2.2.2.1 (X.2.2.2.2 _ (List.mem_cons_of_mem _ (List.mem_append_left _ (List.mem_append_left _ (List.mem_of_getElem? (i := 1) rfl))))) dX4_digest_41 ?_
      refine lv_ldc2 (v := (31 : Int64)) X.1 X.2.1 X.2.2.2.1 (X.2.2.2.2 _ (List.mem_cons_of_mem _ (List.mem_append_left _ (List.mem_append_left _ (List.mem_of_getElem? (i := 1) rfl))))) dX4_digest_44 ?_
      refine lv_ldc2 (v := (31 : Int64)) X.1 X.2.1 X.2.2.2.1 (X.2.2.2.2 _ (List.mem_cons_of_mem _ (List.mem_append_left _ (List.mem_append_left _ (List.mem_of_getElem? (i := 1) rfl))))) dX4_digest_47 ?_
      refine lv_lload_n X.1 X.2.1 dX4_digest_50 rfl (lv_at hl 1 rfl) ?_
      refine lv_lmul X.1 X.2.1 dX4_digest_51 ?_
      refine lv_aload_n X.1 X.2.1 dX4_digest_52 rfl (lv_at hl 0 rfl) ?_
      refine gX4_px X (fun w h => (List.mem_cons_of_mem _ (List.mem_append_right _ h))) hK hP (List.mem_cons_of_mem _ (List.mem_append_left _ (List.mem_append_left _ (List.mem_of_getElem? (i := 3) rfl)))) dX4_digest_53 ?_
      refine lv_iload_n X.1 X.2.1 dX4_digest_56 rfl (lv_at hl 2 rfl) ?_
      obtain ⟨g17, h⟩ := gd_e h
      refine lm_px X hK hP g17 dX4_digest_57 ?_
      refine lv_i2l (v := (m_px μ v3.toNatClampNeg).toInt64) X.1 X.2.1 dX4_digest_58 rfl ?_
      refine lv_ladd X.1 X.2.1 dX4_digest_59 ?_
      refine lv_lmul X.1 X.2.1 dX4_digest_60 ?_
      refine lv_aload_n X.1 X.2.1 dX4_digest_61 rfl (lv_at hl 0 rfl) ?_
      refine gX4_py X (fun w h => (List.mem_cons_of_mem _ (List.mem_append_right _ h))) hK hP (List.mem_cons_of_mem _ (List.mem_append_left _ (List.mem_append_left _ (List.mem_of_getElem? (i := 4) rfl)))) dX4_digest_62 ?_
      refine lv_iload_n X.1 X.2.1 dX4_digest_65 rfl (lv_at hl 2 rfl) ?_
      obtain ⟨g18, h⟩ := gd_e h
      refine lm_py X hK hP g18 dX4_digest_66 ?_
      refine lv_i2l (v := (m_py μ v3.toNatClampNeg).toInt64) X.1 X.2.1 dX4_digest_67 rfl ?_
      refine lv_ladd X.1 X.2.1 dX4_digest_68 ?_
      refine lv_lmul X.1 X.2.1 dX4_digest_69 ?_
      refine lv_aload_n X.1 X.2.1 dX4_digest_70 rfl (lv_at hl 0 rfl) ?_
      refine gX4_label X (fun w h => (List.mem_cons_of_mem _ (List.mem_append_right _ h))) hK hP (List.mem_cons_of_mem _ (List.mem_append_left _ (List.mem_append_left _ (List.mem_of_getElem? (i := 5) rfl)))) dX4_digest_71 ?_
      refine lv_iload_n X.1 X.2.1 dX4_digest_74 rfl (lv_at hl 2 rfl) ?_
      obtain ⟨g19, h⟩ := gd_e h
      refine lm_lb X hK hP g19 dX4_digest_75 ?_
      refine lv_i2l (v := (m_lb μ v3.toNatClampNeg).toInt64) X.1 X.2.1 dX4_digest_76 rfl ?_
      refine lv_ladd X.1 X.2.1 dX4_digest_77 ?_
      obtain ⟨x20, e21, h⟩ := lt_e h
      refine nm_l e21 ?_
      refine lv_lstore_n (lv' := [(1, .long x20), (0, .ref (a 0)), (3, .int v3)]) X.1 X.2.1 dX4_digest_78 rfl hl (by decide) rfl (fun ls hl => ?_)
      obtain ⟨x22, e23, h⟩ := lt_e h
      refine lv_iinc (v := x22) (lv' := [(3, .int x22), (1, .long x20), (0, .ref (a 0))]) X.1 X.2.1 dX4_digest_79 hl (k := 2) rfl e23.symm (by decide) rfl (fun ls hl => ?_)
      refine lv_goto (tgt := 33) X.1 X.2.1 dX4_digest_82 (by decide) ?_
      exact ih x20 x22 μ _ h _ _ _ hP hD hS (lv_sub hl [2, 1, 0] rfl)
def f_X4_digest_L6 (N : Nat) : Nat → Int64 → Int32 → MS → Option Int64
  | 0, _, _, _ => none
  | n + 1, v1, v3, μ => if (7 : Int32) ≤ v3 then f_X4_digest_L33 N N v1 (0 : Int32) μ else (f_X4_count N v3 μ).bind (fun r24 => lt_ (((31 : Int64) * v1) + (r24.toInt64)) (fun x26 => lt_ (v3 + (1 : Int32)) (fun x28 => f_X4_digest_L6 N n x26 x28 μ)))
set_option maxHeartbeats 4000000 in
set_option maxRecDepth 100000 in
theorem t_X4_digest_L6 {p : Program} {l : Launch} {e : Env} {s : State} {m : MethodId} {args : Array Value} {below : List Frame} {meth : Method} {c : Code} {D : va_G} {A : Nat → Prop} {k : Nat → ClassId} {a : Nat → Nat} (X : CallFix p m c cX4_digest 4 s args wsX4_digest RX4) (hr : meth.sig.returnType = some .long) (hlk : meth.locks = false) (hK : va_K D vwCl (mT k) s) (hA : ∀ q : Nat, s.heap.size ≤ q → A q) (N : Nat) : ∀ (n : Nat) (v1 : Int64) (v3 : Int32) (μ : MS) (R : Int64), f_X4_digest_L6 N n v1 v3 μ = some R → ∀ (H : Heap) (locs : List Loc) (ls : Array Slot), va_P D vwCl (mW k a μ) H → va_D A (mW k a μ) → va_S A s.heap H locs → lv_has ls 4 [(0, .ref (a 0)), (1, .long v1), (3, .int v3)] → W p l e ({ frames := 4, cells := 0, slots := 0, locals := 98 } : Room) s m args below meth c H locs 0 0 (MQ below (cQ D (mT k) A (mW k a μ) (some (.long R))) args s 0 0 A) (F0 m 6 ls []) := by
  intro n
  induction n with
  | zero =>
    intro v1 v3 μ R h
    exact absurd h (by simp [f_X4_digest_L6])
  | succ n ih =>
    intro v1 v3 μ R h H locs ls hP hD hS hl
    rw [f_X4_digest_L6] at h
    refine lv_iload_n X.1 X.2.1 dX4_digest_6 rfl (lv_at hl 2 rfl) ?_
    refine lv_bipush (v := (7 : Int32)) X.1 X.2.1 dX4_digest_7 (by decide) ?_
    refine lv_icmp_ge (tgt := 31) X.1 X.2.1 dX4_digest_9 (by decide) (fun c1 => ?_) (fun c1 => ?_)
    · rw [if_pos c1] at h
      refine lv_iconst (v := (0 : Int32)) X.1 X.2.1 dX4_digest_31 (by decide) ?_
      refine lv_istore_n (lv' := [(3, .int (0 : Int32)), (0, .ref (a 0)), (1, .long v1)]) X.1 X.2.1 dX4_digest_32 rfl hl (by decide) rfl (fun ls hl => ?_)
      exact t_X4_digest_L33 X hr hlk hK hA N N v1 (0 : Int32) μ _ h _ _ _ hP hD hS (lv_sub hl [1, 2, 0] rfl)
    · rw [if_neg c1] at h
      refine lv_ldc2 (v := (31 : Int64)) X.1 X.2.1 X.2.2.2.1 (X.2.2.2.2 _ (List.mem_cons_of_mem _ (List.mem_append_left _ (List.mem_append_left _ (List.mem_of_getElem? (i := 1) rfl))))) dX4_digest_12 ?_
      refine lv_lload_n X.1 X.2.1 dX4_digest_15 rfl (lv_at hl 1 rfl) ?_
      refine lv_lmul X.1 X.2.1 dX4_digest_16 ?_
      refine lv_aload_n X.1 X.2.1 dX4_digest_17 rfl (lv_at hl 0 rfl) ?_
      refine lv_iload_n X.1 X.2.1 dX4_digest_18 rfl (lv_at hl 2 rfl) ?_
      obtain ⟨r24, q25, h⟩ := bd_e h
      refine kc_v (As := [.int v3]) (rest := [.long ((31 : Int64) * v1)]) X (k_X4_count N v3 μ _ q25) (cwV 1 X.2.2.2.2 gX4_digest_X4_count rfl rfl rfl hd_X4_count ⟨Nat.le_of_ble_eq_true rfl, Nat.le_of_ble_eq_true rfl⟩) hK hP hD hS hA (va_recv hK hP (ci := 3) (q0 := 0) rfl rfl) rfl hl.1 rfl (Nat.le_of_ble_eq_true rfl) dX4_digest_19 ⟨Nat.le_of_ble_eq_true rfl, Nat.le_of_ble_eq_true rfl⟩ (fun H locs hP hD hS => ?_)
      refine lv_i2l (v := r24.toInt64) X.1 X.2.1 dX4_digest_22 rfl ?_
      refine lv_ladd X.1 X.2.1 dX4_digest_23 ?_
      obtain ⟨x26, e27, h⟩ := lt_e h
      refine nm_l e27 ?_
      refine lv_lstore_n (lv' := [(1, .long x26), (0, .ref (a 0)), (3, .int v3)]) X.1 X.2.1 dX4_digest_24 rfl hl (by decide) rfl (fun ls hl => ?_)
      obtain ⟨x28, e29, h⟩ := lt_e h
      refine lv_iinc (v := x28) (lv' := [(3, .int x28), (1, .long x26), (0, .ref (a 0))]) X.1 X.2.1 dX4_digest_25 hl (k := 2) rfl e29.symm (by decide) rfl (fun ls hl => ?_)
      refine lv_goto (tgt := 6) X.1 X.2.1 dX4_digest_28 (by decide) ?_
      exact ih x26 x28 μ _ h _ _ _ hP hD hS (lv_sub hl [2, 1, 0] rfl)
def f_X4_digest (N : Nat) (μ : MS) : Option Int64 := f_X4_digest_L6 N N (73 : Int64) (0 : Int32) μ
theorem hd_X4_digest : yX4_digest.cls = RX4 ∧ yX4_digest.cls ≠ "java/lang/invoke/MethodHandle" ∧ yX4_digest.cls ≠ "java/lang/invoke/VarHandle" ∧ (parseMethodDescriptor yX4_digest.desc).map (fun d => d.parameters.length) = some 0 := by decide +kernel
set_option maxHeartbeats 4000000 in
set_option maxRecDepth 100000 in
theorem k_X4_digest {l : Launch} {D : va_G} {k : Nat → ClassId} {a : Nat → Nat} (N : Nat)  (μ : MS) (R : Int64) (h : f_X4_digest N μ = some R) : Ct l yX4_digest wsX4_digest ({ frames := 4, cells := 0, slots := 0, locals := 98 } : Room) D (mT k) (mW k a μ) (mW k a μ) [.ref (a 0)] (some (.long R)) := by
  refine ct_of (cc := cX4_digest) (maxL := 4) (ret := (some .long)) (by decide) rfl (Nat.le_of_ble_eq_true rfl) ?_
  intro p e s m args below meth c A ls X hr hlk hK hA hP hD hS hl
  have X : CallFix p m c cX4_digest 4 s args wsX4_digest RX4 := X
  have hl : lv_has ls 4 [(0, .ref (a 0))] := hl
  rw [f_X4_digest] at h
  refine lv_ldc2 (v := (73 : Int64)) X.1 X.2.1 X.2.2.2.1 (X.2.2.2.2 _ (List.mem_cons_of_mem _ (List.mem_append_left _ (List.mem_append_left _ (List.mem_of_getElem? (i := 0) rfl))))) dX4_digest_0 ?_
  refine lv_lstore_n (lv' := [(1, .long (73 : Int64)), (0, .ref (a 0))]) X.1 X.2.1 dX4_digest_3 rfl hl (by decide) rfl (fun ls hl => ?_)
  refine lv_iconst (v := (0 : Int32)) X.1 X.2.1 dX4_digest_4 (by decide) ?_
  refine lv_istore_n (lv' := [(3, .int (0 : Int32)), (1, .long (73 : Int64)), (0, .ref (a 0))]) X.1 X.2.1 dX4_digest_5 rfl hl (by decide) rfl (fun ls hl => ?_)
  exact t_X4_digest_L6 X hr hlk hK hA N N (73 : Int64) (0 : Int32) μ _ h _ _ _ hP hD hS (lv_sub hl [2, 1, 0] rfl)

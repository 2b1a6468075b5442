/-! one step of both -/
theorem nI_m1 (i : Nat) : nI (i + 1) - (1 : Int32) = nI i := by
  rw [show (1 : Int32) = nI 1 from rfl, pk_sub (by omega), Nat.add_sub_cancel]
theorem col_R {N n : Nat} {σ : CS} {μ : MS} (hn : n ≤ 6) (h1 : 1 ≤ n) {st : Nat} {F : Nat → Nat} (b3 : c_rw σ = nI (2 * n)) (b4 : m_rw μ = nI (2 * n)) (b5 : c_st σ = nI st) (b6 : m_st μ = nI st) (b7 : st ≤ 200) (hlf : ∀ i, st = i + 1 → c_lf σ i = nI (F i) ∧ m_lf μ i = nI (letr (2 * n) (F i)) ∧ F i < 4 * n) :
    ∃ col, col ≤ 4 * n ∧ (st ≠ 0 → col < 4 * n) ∧ (st = 0 → col = 4 * n) ∧ f_X1_makeStep N σ = cTail N (nI col) σ ∧ f_X4_does N μ = f_X4_does_L72 N N (nI (letr (2 * n) col)) (nI col) (-1) 0 μ := by
  cases st with
  | zero =>
    refine ⟨4 * n, Nat.le_refl _, fun z => absurd rfl z, fun _ => rfl, ?_, ?_⟩
    · rw [f_X1_makeStep, if_pos (b5.trans nI_0), cYs b3, bs_d, show 2 * (2 * n) = 4 * n by omega]
      rfl
    · have e : letr (2 * n) (4 * n) = 200 := (letr_200 (by omega) (by omega)).2.mpr (by omega)
      have e2 := mCol (m := 2 * n) (c := 4 * n) (by omega) (by omega) b4
      rw [e] at e2
      rw [f_X4_does, if_pos (b6.trans nI_0), show (200 : Int32) = nI 200 from rfl, e2, bs_d, e]
  | succ i =>
    obtain ⟨l1, l2, l3⟩ := hlf i rfl
    have hne : ¬ nI (i + 1) = 0 := fun z => absurd ((nI_z (by omega)).mp z) (by omega)
    refine ⟨cmpl (2 * n) (F i), ?_, fun _ => ?_, fun z => absurd z (by omega), ?_, ?_⟩
    · have := cmpl_lt (m := 2 * n) (c := F i) (by omega); omega
    · have := cmpl_lt (m := 2 * n) (c := F i) (by omega); omega
    · rw [f_X1_makeStep, if_neg (by rw [b5]; exact hne)]
      have e : c_st σ - (1 : Int32) = nI i := by rw [b5, nI_m1]
      rw [e, gd_n (by omega) (by decide), nI_clamp (n := i) (by omega), l1, cCmp (by omega) (by omega) b3, bs_d]
      rfl
    · rw [f_X4_does, if_neg (by rw [b6]; exact hne)]
      have e : m_st μ - (1 : Int32) = nI i := by rw [b6, nI_m1]
      rw [e, gd_n (by omega) (by decide), nI_clamp (n := i) (by omega), l2, show (100 : Int32) = nI 100 from rfl]
      have e2 := mCol (m := 2 * n) (c := cmpl (2 * n) (F i)) (by omega) (by have := cmpl_lt (m := 2 * n) (c := F i) (by omega); omega) b4
      by_cases q : F i < 2 * n
      · have k1 : letr (2 * n) (F i) = F i := if_pos q
        have k2 : cmpl (2 * n) (F i) = F i + 2 * n := if_pos q
        have k3 : letr (2 * n) (F i + 2 * n) = F i + 100 := by
          unfold letr
          rw [if_neg (by omega), if_pos (by omega)]
          omega
        rw [k2, k3] at e2
        rw [k1, k2, k3, if_neg (nI_ge (by omega) (by omega)), gd_n (by omega) (by decide), lt_d, nI_add, e2, bs_d]
      · have k1 : letr (2 * n) (F i) = 100 + F i - 2 * n := by
          unfold letr
          rw [if_neg q, if_pos (by omega)]
        have k2 : cmpl (2 * n) (F i) = F i - 2 * n := if_neg q
        have k3 : letr (2 * n) (F i - 2 * n) = F i - 2 * n := if_pos (by omega)
        have k4 : 100 + F i - 2 * n - 100 = F i - 2 * n := by omega
        rw [k2, k3] at e2
        rw [k1, k2, k3, if_pos (nI_le (by omega) (by omega)), gd_n (by omega) (by decide), lt_d, pk_sub (by omega), k4, e2, bs_d]
theorem step_R {N : Nat} (hN : 600 < N) {n : Nat} {σ : CS} {μ : MS} (hp : ptR n σ μ) {t E F : Nat → Nat} {st : Nat} {e : Int} (h : tbR n σ μ t E F st e) (hsa : c_sa σ = 0) (hlt : st < 200) :
    ∃ σ2 μ2, f_X1_makeStep N σ = some σ2 ∧ f_X4_does N μ = some μ2 ∧ ptR n σ2 μ2 ∧ ∃ t2 E2 F2 st2 e2, tbR n σ2 μ2 t2 E2 F2 st2 e2 := by
  have hp0 := hp
  obtain ⟨p1, p2, p3, p4, p5, p6, p7, p8, p9, p10, p11⟩ := hp
  obtain ⟨b1, b2, b3, b4, b5, b6, b7, b8, b9, b10, b11, b12, b13, b14, b15⟩ := h
  have hn6 := pt_6 p9
  have hok := ok_pts p9 b1
  have hA := aS_ok hp0
  have ht : ∀ r, r < 2 * n → t r ≤ 4 * n := fun r hr => (b10 r hr).2.2
  have hst3 : m_dn μ = 0 ∧ m_ry μ = 0 ∧ ∀ i, st = i + 1 → F i < 4 * n := by
    rcases b15 with ⟨_, z2, z3, z4⟩ | ⟨z, _⟩ | ⟨z, _⟩
    · exact ⟨z2, z3, z4⟩
    · rw [hsa] at z; exact absurd z (by decide)
    · rw [hsa] at z; exact absurd z (by decide)
  obtain ⟨hdn, hry, hF⟩ := hst3
  obtain ⟨col, hcol, hc1, hc0, ec, em⟩ := col_R (N := N) hn6 b1 b3 b4 b5 b6 b7 (fun i hi => by
    have z := b11 i (by omega)
    exact ⟨z.2.2.2.1, z.2.2.2.2.1, hF i hi⟩)
  have gm : ∀ r c, r < 2 * n → c ≤ 2 * (2 * n) + 1 → gI (tG (m_tb μ)) r c = gI (c_gg σ) r c := fun r c hr hc => by
    unfold gI
    rw [b9 r c hr (by omega)]
  have hw : ∀ r, r < 2 * n → wt (m_st μ) (tG (m_tb μ)) col r = wt (c_st σ) (c_gg σ) col r := fun r hr => by
    unfold wt
    rw [b5, b6, b9 r col hr (by omega)]
  have hl := cLr N (2 * n) col (by omega) (by omega) (by omega) σ b3
  obtain ⟨μ2, n2, hM, hm⟩ := mLr_L N (2 * n) col (by omega) (by omega) (by omega) (nI (letr (2 * n) col)) (2 * n) 0 N none μ b4 (by omega) (by omega) (fun q hq => by cases hq)
  have hk : lrOk (gI (c_gg σ)) (fun r => (wt (c_st σ) (c_gg σ) col r).toInt) (2 * n) (2 * n) (lr (fun r => (wt (c_st σ) (c_gg σ) col r).toInt) (fun r s => lsB (gI (c_gg σ)) (wt (c_st σ) (c_gg σ) col r).toInt (wt (c_st σ) (c_gg σ) col s).toInt (2 * n) r s) (2 * n) 0 none) := lr_s
  have hLL : lr (fun r => (wt (m_st μ) (tG (m_tb μ)) col r).toInt) (fun r s => lsB (gI (tG (m_tb μ))) (wt (m_st μ) (tG (m_tb μ)) col r).toInt (wt (m_st μ) (tG (m_tb μ)) col s).toInt (2 * n) r s) (2 * n) 0 none = lr (fun r => (wt (c_st σ) (c_gg σ) col r).toInt) (fun r s => lsB (gI (c_gg σ)) (wt (c_st σ) (c_gg σ) col r).toInt (wt (c_st σ) (c_gg σ) col s).toInt (2 * n) r s) (2 * n) 0 none :=
    lr_cg (m := 2 * n) (fun r hr => by rw [hw r hr]) (fun r s hr hs => by
      rw [hw r hr, hw s hs]
      exact lsB_cg (fun c hc => gm r c hr hc) (fun c hc => gm s c hs hc)) (2 * n) 0 none (by omega) (fun q hq => by cases hq)
  rw [hLL] at hm
  rw [nI_0] at hm
  generalize lr (fun r => (wt (c_st σ) (c_gg σ) col r).toInt) (fun r s => lsB (gI (c_gg σ)) (wt (c_st σ) (c_gg σ) col r).toInt (wt (c_st σ) (c_gg σ) col s).toInt (2 * n) r s) (2 * n) 0 none = L at hl hm hk
  cases L with
  | none =>
    have hl : f_X1_leastRow N (nI col) σ = some (-1) := hl
    have hm : f_X4_does_L72 N N (nI (letr (2 * n) col)) (nI col) (-1) 0 μ = f_X4_does_L72 N (n2 + 1) (nI (letr (2 * n) col)) (nI col) (-1) (nI (2 * n)) μ2 := hm
    have hPc : sPc σ (s_sa σ 2) := ⟨by rw [cs_sz_sa], by rw [cs_pw_sa], by rw [cs_xx_sa], by rw [cs_yy_sa], by rw [cs_lb_sa], by rw [cs_bA_sa], by rw [cs_bB_sa]⟩
    have hPm : sPm μ2 (n_ry μ2 1) := ⟨by rw [mn_pt_ry], by rw [mn_dg_ry], by rw [mn_px_ry], by rw [mn_py_ry], by rw [mn_lb_ry], by rw [mn_bA_ry], by rw [mn_bB_ry]⟩
    refine ⟨s_sa σ 2, n_ry μ2 1, by rw [ec, cTail_none hl], by rw [em, hm, mTail_none (by rw [sM_rw hM]; exact b4) (by omega)], ptR_cg hp0 hPc (sPm_tr (sM_P hM) hPm), t, E, F, st, e, ?_⟩
    refine ⟨b1, by rw [mn_bg_ry, sM_bg hM]; exact b2, by rw [cs_rw_sa]; exact b3, by rw [mn_rw_ry, sM_rw hM]; exact b4, by rw [cs_st_sa]; exact b5, by rw [mn_st_ry, sM_st hM]; exact b6, b7, by rw [mn_bl_ry, sM_bl hM, cs_sc_sa]; exact b8, by rw [mn_tb_ry, sM_tb hM, cs_gg_sa]; exact b9, by rw [mn_tl_ry, sM_tl hM, cs_tl_sa]; exact b10, by rw [mn_en_ry, sM_en hM, cs_en_sa, mn_lf_ry, sM_lf hM, cs_lf_sa, mn_la_ry, sM_la hM, cs_ta_sa]; exact b11, by rw [aS_cg hPc, cs_gg_sa, cs_sc_sa]; exact b12, by rw [cs_gg_sa, cs_sc_sa]; exact b13, by rw [cs_gg_sa]; exact b14, Or.inr (Or.inl ⟨by rw [cs_sa_sa], by rw [mn_dn_ry, sM_dn hM]; exact hdn, by rw [mn_ry_ry]⟩)⟩
  | some row =>
    have hl : f_X1_leastRow N (nI col) σ = some (nI row) := hl
    have hm : f_X4_does_L72 N N (nI (letr (2 * n) col)) (nI col) (-1) 0 μ = f_X4_does_L72 N (n2 + 1) (nI (letr (2 * n) col)) (nI col) (nI row) (nI (2 * n)) μ2 := hm
    obtain ⟨hrow, hwr, hmin⟩ := hk
    have hwr : 0 < (wt (c_st σ) (c_gg σ) col row).toInt := hwr
    have hw0 : st = 0 → ∀ r, wt (c_st σ) (c_gg σ) col r = 1 := fun z r => if_pos (by rw [b5, z]; rfl)
    have hw1 : st ≠ 0 → ∀ r, wt (c_st σ) (c_gg σ) col r = c_gg σ r col := fun z r => if_neg (by rw [b5]; exact fun q => z ((nI_z (by omega)).mp q))
    have hpos : st ≠ 0 → 0 < gI (c_gg σ) row col := fun z => by
      rw [hw1 z] at hwr
      exact hwr
    have hneg : st = 0 → gI (c_gg σ) row col = -1 := fun z => by
      rw [hc0 z]
      exact (b13 z).2.2.1 row hrow
    have hpv : gI (c_gg σ) row col ≠ 0 := fun q => by
      rcases Nat.decEq st 0 with z | z
      · have := hpos z; omega
      · have := hneg z; omega
    obtain ⟨G2, c1, c2⟩ := cTail_some (N := N) hN hok hA (t := t) (e := e) b3 b12 ht hrow hcol hpv b5 hlt hsa (b10 row hrow).1 hl
    obtain ⟨ν, m1, m2, m3⟩ := mTail_some (N := N) hN hok hA (t := t) (e := e) hM b4 (by rw [b8]; exact TI_cg b12 gm) ht hrow hcol (by rw [gm row col hrow (by omega)]; exact hpv) (n2 := n2) b6 hlt (b10 row hrow).2.1
    rw [gm row col hrow (by omega)] at m2 m3
    have hT := TI_turn b12 hrow (col := col) (by omega) hpv
    have hbd : ∀ r c, r < 2 * n → c ≤ 2 * (2 * n) + 1 → gI G2 r c = sn1 (gI (c_gg σ) row col) * zZ (2 * n) (aS n σ) t e row col r c := fun r c hr hc => by
      have b := TI_bd hok hA hT (t1_le ht hcol) hr hc
      unfold gI
      rw [c2 r c hr hc]
      exact oi_in (by omega) (by omega)
    have hsb : (Int64.ofInt (sn1 (gI (c_gg σ) row col) * gI (c_gg σ) row col)).toInt = sn1 (gI (c_gg σ) row col) * gI (c_gg σ) row col := by
      have b := TI_bd hok hA b12 ht hrow (c := col) (by omega)
      have b2 : sn1 (gI (c_gg σ) row col) * gI (c_gg σ) row col = gI (c_gg σ) row col ∨ sn1 (gI (c_gg σ) row col) * gI (c_gg σ) row col = - gI (c_gg σ) row col := by
        unfold sn1
        by_cases q : 0 < gI (c_gg σ) row col
        · rw [if_pos q]; exact Or.inl (Int.one_mul _)
        · rw [if_neg q]; exact Or.inr (by omega)
      exact oi_in (by omega) (by omega)
    have hPc : sPc σ (s_tl (s_sc (s_gg (s_sa (s_st (s_ta (s_lf (s_en σ (upd (c_en σ) st (nI col))) (upd (c_lf σ) st (c_tl σ row))) (upd (c_ta σ) st (nI row))) (nI (st + 1))) (dnY n (t row))) G2) (Int64.ofInt (sn1 (gI (c_gg σ) row col) * gI (c_gg σ) row col))) (upd (c_tl σ) row (nI col))) := ⟨by rw [cs_sz_tl, cs_sz_sc, cs_sz_gg, cs_sz_sa, cs_sz_st, cs_sz_ta, cs_sz_lf, cs_sz_en], by rw [cs_pw_tl, cs_pw_sc, cs_pw_gg, cs_pw_sa, cs_pw_st, cs_pw_ta, cs_pw_lf, cs_pw_en], by rw [cs_xx_tl, cs_xx_sc, cs_xx_gg, cs_xx_sa, cs_xx_st, cs_xx_ta, cs_xx_lf, cs_xx_en], by rw [cs_yy_tl, cs_yy_sc, cs_yy_gg, cs_yy_sa, cs_yy_st, cs_yy_ta, cs_yy_lf, cs_yy_en], by rw [cs_lb_tl, cs_lb_sc, cs_lb_gg, cs_lb_sa, cs_lb_st, cs_lb_ta, cs_lb_lf, cs_lb_en], by rw [cs_bA_tl, cs_bA_sc, cs_bA_gg, cs_bA_sa, cs_bA_st, cs_bA_ta, cs_bA_lf, cs_bA_en], by rw [cs_bB_tl, cs_bB_sc, cs_bB_gg, cs_bB_sa, cs_bB_st, cs_bB_ta, cs_bB_lf, cs_bB_en]⟩
    have hPm : sPm μ (n_st (n_dn (n_tl (n_la (n_lf (n_en ν (upd (m_en μ) st (nI (letr (2 * n) col)))) (upd (m_lf μ) st (m_tl μ row))) (upd (m_la μ) st (nI row))) (upd (m_tl μ) row (nI (letr (2 * n) col)))) (dnY n (t row))) (nI (st + 1))) := sPm_tr (sPm_tr ⟨by rw [mn_pt_bl], by rw [mn_dg_bl], by rw [mn_px_bl], by rw [mn_py_bl], by rw [mn_lb_bl], by rw [mn_bA_bl], by rw [mn_bB_bl]⟩ (sT_P m2)) ⟨by rw [mn_pt_st, mn_pt_dn, mn_pt_tl, mn_pt_la, mn_pt_lf, mn_pt_en], by rw [mn_dg_st, mn_dg_dn, mn_dg_tl, mn_dg_la, mn_dg_lf, mn_dg_en], by rw [mn_px_st, mn_px_dn, mn_px_tl, mn_px_la, mn_px_lf, mn_px_en], by rw [mn_py_st, mn_py_dn, mn_py_tl, mn_py_la, mn_py_lf, mn_py_en], by rw [mn_lb_st, mn_lb_dn, mn_lb_tl, mn_lb_la, mn_lb_lf, mn_lb_en], by rw [mn_bA_st, mn_bA_dn, mn_bA_tl, mn_bA_la, mn_bA_lf, mn_bA_en], by rw [mn_bB_st, mn_bB_dn, mn_bB_tl, mn_bB_la, mn_bB_lf, mn_bB_en]⟩
    refine ⟨_, _, by rw [ec, c1], by rw [em, hm, m1], ptR_cg hp0 hPc hPm, t1 t row col, fun i => if i = st then col else E i, fun i => if i = st then t row else F i, st + 1, sn1 (gI (c_gg σ) row col) * e, ?_⟩
    refine ⟨b1, ?_, ?_, ?_, ?_, ?_, by omega, ?_, fun r c hr hc => ?_, fun r hr => ?_, fun i hi => ?_, ?_, fun z => absurd z (by omega), fun _ r hr => ?_, ?_⟩
    · rw [mn_bg_st, mn_bg_dn, mn_bg_tl, mn_bg_la, mn_bg_lf, mn_bg_en, sT_bg m2, mn_bg_bl]; exact b2
    · rw [cs_rw_tl, cs_rw_sc, cs_rw_gg, cs_rw_sa, cs_rw_st, cs_rw_ta, cs_rw_lf, cs_rw_en]; exact b3
    · rw [mn_rw_st, mn_rw_dn, mn_rw_tl, mn_rw_la, mn_rw_lf, mn_rw_en, sT_rw m2, mn_rw_bl]; exact b4
    · rw [cs_st_tl, cs_st_sc, cs_st_gg, cs_st_sa, cs_st_st]
    · rw [mn_st_st]
    · rw [mn_bl_st, mn_bl_dn, mn_bl_tl, mn_bl_la, mn_bl_lf, mn_bl_en, sT_bl m2, mn_bl_bl, cs_sc_tl, cs_sc_sc]
    · rw [mn_tb_st, mn_tb_dn, mn_tb_tl, mn_tb_la, mn_tb_lf, mn_tb_en, cs_gg_tl, cs_gg_sc, cs_gg_gg, m3 r c hr (by omega), c2 r c hr (by omega)]
    · rw [cs_tl_tl, mn_tl_st, mn_tl_dn, mn_tl_tl, up_i, up_i]
      unfold t1
      by_cases q : r = row
      · rw [if_pos q, if_pos q, if_pos q]
        exact ⟨rfl, rfl, hcol⟩
      · rw [if_neg q, if_neg q, if_neg q]
        exact b10 r hr
    · rw [cs_en_tl, cs_en_sc, cs_en_gg, cs_en_sa, cs_en_st, cs_en_ta, cs_en_lf, cs_en_en, mn_en_st, mn_en_dn, mn_en_tl, mn_en_la, mn_en_lf, mn_en_en, cs_lf_tl, cs_lf_sc, cs_lf_gg, cs_lf_sa, cs_lf_st, cs_lf_ta, cs_lf_lf, mn_lf_st, mn_lf_dn, mn_lf_tl, mn_lf_la, mn_lf_lf, cs_ta_tl, cs_ta_sc, cs_ta_gg, cs_ta_sa, cs_ta_st, cs_ta_ta, mn_la_st, mn_la_dn, mn_la_tl, mn_la_la, up_i, up_i, up_i, up_i, up_i, up_i]
      have hb := b10 row hrow
      by_cases q : i = st
      · rw [if_pos q, if_pos q, if_pos q, if_pos q, if_pos q, if_pos q]
        show nI col = nI (if i = st then col else E i) ∧ nI (letr (2 * n) col) = nI (letr (2 * n) (if i = st then col else E i)) ∧ (if i = st then col else E i) ≤ 4 * n ∧ c_tl σ row = nI (if i = st then t row else F i) ∧ m_tl μ row = nI (letr (2 * n) (if i = st then t row else F i)) ∧ (if i = st then t row else F i) ≤ 4 * n ∧ nI row = nI row
        rw [if_pos q, if_pos q]
        exact ⟨rfl, rfl, hcol, hb.1, hb.2.1, hb.2.2, rfl⟩
      · have z := b11 i (by omega)
        rw [if_neg q, if_neg q, if_neg q, if_neg q, if_neg q, if_neg q]
        show c_en σ i = nI (if i = st then col else E i) ∧ m_en μ i = nI (letr (2 * n) (if i = st then col else E i)) ∧ (if i = st then col else E i) ≤ 4 * n ∧ c_lf σ i = nI (if i = st then t row else F i) ∧ m_lf μ i = nI (letr (2 * n) (if i = st then t row else F i)) ∧ (if i = st then t row else F i) ≤ 4 * n ∧ m_la μ i = c_ta σ i
        rw [if_neg q, if_neg q]
        exact z
    · rw [aS_cg hPc, cs_gg_tl, cs_gg_sc, cs_gg_gg, cs_sc_tl, cs_sc_sc, hsb]
      exact TI_cg hT hbd
    · rw [cs_gg_tl, cs_gg_sc, cs_gg_gg, hbd r _ hr (Nat.le_refl _)]
      by_cases z : st = 0
      · have hg1 := hneg z
        have hs1 := (b13 z).2.1
        have hy : ∀ x, x < 2 * n → gI (c_gg σ) x col = -1 := fun x hx => by
          rw [hc0 z]
          exact (b13 z).2.2.1 x hx
        have hm0 : ∀ x, x < 2 * n → gI (c_gg σ) row (2 * (2 * n) + 1) ≤ gI (c_gg σ) x (2 * (2 * n) + 1) := fun x hx => by
          have w := hmin x hx (by show 0 < (wt (c_st σ) (c_gg σ) col x).toInt; rw [hw0 z]; decide)
          unfold qle at w
          have w : gI (c_gg σ) row (2 * (2 * n) + 1) * (wt (c_st σ) (c_gg σ) col x).toInt ≤ gI (c_gg σ) x (2 * (2 * n) + 1) * (wt (c_st σ) (c_gg σ) col row).toInt := w
          rw [hw0 z, hw0 z, one64, Int.mul_one, Int.mul_one] at w
          exact w
        have hsn : sn1 (gI (c_gg σ) row col) = -1 := if_neg (by omega)
        rw [hsn]
        by_cases q : r = row
        · rw [q, TI_row b12 hrow (Nat.le_refl _)]
          have a1 := hm0 0 (by omega)
          have a2 := (b13 z).2.2.2
          omega
        · have a1 := TI_z b12 hrow (col := col) (by omega) hr (Nat.le_refl _) q
          rw [hg1, hy r hr, hs1] at a1
          have a2 := hm0 r hr
          omega
      · have hg1 := hpos z
        have hsn : sn1 (gI (c_gg σ) row col) = 1 := if_pos hg1
        rw [hsn, Int.one_mul]
        by_cases q : r = row
        · rw [q, TI_row b12 hrow (Nat.le_refl _)]
          exact b14 (by omega) row hrow
        · refine q_keep (g := gI (c_gg σ)) (m := 2 * n) (row := row) (col := col) (r := r) b12.2.1 hg1 (b14 (by omega)) hrow hr (fun x hx hx0 => ?_) (TI_z b12 hrow (col := col) (by omega) hr (Nat.le_refl _) q)
          have w := hmin x hx (by show 0 < (wt (c_st σ) (c_gg σ) col x).toInt; rw [hw1 z]; exact hx0)
          unfold qle at w ⊢
          have w : gI (c_gg σ) row (2 * (2 * n) + 1) * (wt (c_st σ) (c_gg σ) col x).toInt ≤ gI (c_gg σ) x (2 * (2 * n) + 1) * (wt (c_st σ) (c_gg σ) col row).toInt := w
          rw [hw1 z, hw1 z] at w
          exact w
    · rw [cs_sa_tl, cs_sa_sc, cs_sa_gg, cs_sa_sa, mn_dn_st, mn_dn_dn, mn_ry_st, mn_ry_dn, mn_ry_tl, mn_ry_la, mn_ry_lf, mn_ry_en, sT_ry m2, mn_ry_bl]
      by_cases q : t row = 4 * n
      · have ed : dnY n (t row) = 1 := if_pos q
        rw [ed]
        refine Or.inr (Or.inr ⟨rfl, rfl, hry, by omega, fun r hr => ?_⟩)
        have hst0 : st ≠ 0 := fun z => by
          have := (b13 z).1 row hrow
          omega
        unfold t1
        by_cases q2 : r = row
        · rw [if_pos q2]; exact hc1 hst0
        · rw [if_neg q2]
          have a1 := TI_ap b12 hr hrow q2
          have a2 := ht r hr
          omega
      · have ed : dnY n (t row) = 0 := if_neg q
        rw [ed]
        refine Or.inl ⟨rfl, rfl, hry, fun i hi => ?_⟩
        have ei : i = st := by omega
        show (if i = st then t row else F i) < 4 * n
        rw [if_pos ei]
        have a2 := ht row hrow
        omega

/-! what forgets the table -/
theorem cFg (σ : CS) : f_X1_forget σ = some (s_sa (s_st (s_rw σ 0) 0) (-1)) := by
  rw [f_X1_forget, lt_d, lt_d, lt_d]
theorem mFg (μ : MS) : f_X4_forgets μ = some (n_st (n_ry (n_dn (n_bg μ 0) 0) 0) 0) := by
  rw [f_X4_forgets, gd_t _ (by decide), lt_d, gd_t _ (by decide), lt_d, gd_t _ (by decide), lt_d, lt_d]
theorem Rel_f {n : Nat} {σ : CS} {μ : MS} (h : ptR n σ μ) : Rel (s_sa (s_st (s_rw σ 0) 0) (-1)) (n_st (n_ry (n_dn (n_bg μ 0) 0) 0) 0) := by
  refine ⟨n, ptR_cg h ⟨by rw [cs_sz_sa, cs_sz_st, cs_sz_rw], by rw [cs_pw_sa, cs_pw_st, cs_pw_rw], by rw [cs_xx_sa, cs_xx_st, cs_xx_rw], by rw [cs_yy_sa, cs_yy_st, cs_yy_rw], by rw [cs_lb_sa, cs_lb_st, cs_lb_rw], by rw [cs_bA_sa, cs_bA_st, cs_bA_rw], by rw [cs_bB_sa, cs_bB_st, cs_bB_rw]⟩ ⟨by rw [mn_pt_st, mn_pt_ry, mn_pt_dn, mn_pt_bg], by rw [mn_dg_st, mn_dg_ry, mn_dg_dn, mn_dg_bg], by rw [mn_px_st, mn_px_ry, mn_px_dn, mn_px_bg], by rw [mn_py_st, mn_py_ry, mn_py_dn, mn_py_bg], by rw [mn_lb_st, mn_lb_ry, mn_lb_dn, mn_lb_bg], by rw [mn_bA_st, mn_bA_ry, mn_bA_dn, mn_bA_bg], by rw [mn_bB_st, mn_bB_ry, mn_bB_dn, mn_bB_bg]⟩, Or.inl ⟨by rw [mn_bg_st, mn_bg_ry, mn_bg_dn, mn_bg_bg], by rw [mn_dn_st, mn_dn_ry, mn_dn_dn], by rw [mn_ry_st, mn_ry_ry], by rw [mn_st_st], by rw [cs_st_sa, cs_st_st], by rw [cs_rw_sa, cs_rw_st, cs_rw_rw], by rw [cs_sa_sa]⟩⟩
theorem in_ix {n : Nat} (hn : n ≤ 1000) (i : Int32) : (∃ k, k < n ∧ i = nI k ∧ ¬ i < 0 ∧ ¬ nI n ≤ i ∧ f_X4_in i 0 (nI n - 1) = some 1) ∨ (f_X4_in i 0 (nI n - 1) = some 0 ∧ (i < 0 ∨ ¬ i < 0 ∧ nI n ≤ i)) := by
  have hm : (nI n - (1 : Int32)).toInt = (n : Int) - 1 := by
    rw [show (1 : Int32) = nI 1 from rfl]
    exact pk_sub_toInt (by omega) (by decide)
  rcases pk_ix i (n := n) (by omega) with h | h | ⟨k, hk, rfl⟩
  · exact Or.inr ⟨in_0 (Or.inl h), Or.inl h⟩
  · have h' := h
    rw [Int32.le_iff_toInt_le, nI_toInt (by omega)] at h'
    have h0 : ¬ i < 0 := by
      rw [Int32.lt_iff_toInt_lt]
      have e : (0 : Int32).toInt = 0 := rfl
      omega
    have h3 : nI n - (1 : Int32) < i := by
      rw [Int32.lt_iff_toInt_lt, hm]; omega
    exact Or.inr ⟨in_0 (Or.inr h3), Or.inr ⟨h0, h⟩⟩
  · have h3 : ¬ nI n - (1 : Int32) < nI k := by
      rw [Int32.lt_iff_toInt_lt, hm, nI_toInt (by omega)]; omega
    exact Or.inl ⟨k, hk, rfl, nI_pos (by omega), nI_ge hk (by omega), in_1 (nI_pos (by omega)) h3⟩
/-! POINT -/
def mAddB (p0 p1 p2 : Int32) (μ : MS) : Option (Int32 × MS) := gd (inB (m_pt μ) 6) (lt_ (n_px μ (upd (m_px μ) (m_pt μ).toNatClampNeg p0)) (fun μ25 => gd (inB (m_pt μ25) 6) (lt_ (n_py μ25 (upd (m_py μ25) (m_pt μ25).toNatClampNeg p1)) (fun μ28 => gd (inB (m_pt μ28) 6) (lt_ (n_lb μ28 (upd (m_lb μ28) (m_pt μ28).toNatClampNeg p2)) (fun μ31 => lt_ (n_pt μ31 ((m_pt μ31) + (1 : Int32))) (fun μ33 => (f_X4_forgets μ33).bind (fun r35 => some (((m_pt r35) - (1 : Int32)), r35)))))))))
theorem mAdd_s {n : Nat} (hn : n < 6) {μ : MS} (hp : m_pt μ = nI n) (x y l : Int32) : mAddB x y l μ = some (nI n, (n_st (n_ry (n_dn (n_bg (n_pt (n_lb (n_py (n_px μ (upd (m_px μ) n x)) (upd (m_py μ) n y)) (upd (m_lb μ) n l)) (nI (n + 1))) 0) 0) 0) 0)) := by
  rw [mAddB, hp, gd_n (by omega) (by decide), lt_d, nI_clamp (n := n) (by omega), mn_pt_px, hp, gd_n (by omega) (by decide), lt_d, nI_clamp (n := n) (by omega), mn_py_px, mn_pt_py, mn_pt_px, hp, gd_n (by omega) (by decide), lt_d, nI_clamp (n := n) (by omega), mn_lb_py, mn_lb_px, lt_d, mn_pt_lb, mn_pt_py, mn_pt_px, hp, nI_1, mFg, bs_d, mn_pt_st, mn_pt_ry, mn_pt_dn, mn_pt_bg, mn_pt_pt, nI_m1]
theorem cAdd_s {n : Nat} (hn : n < 6) {σ : CS} (hp : c_sz σ = nI n) (x y l : Int32) : f_X0_add x y l σ = some (s_sz (s_lb (s_yy (s_xx σ (upd (c_xx σ) n x)) (upd (c_yy σ) n y)) (upd (c_lb σ) n l)) (nI (n + 1))) := by
  rw [f_X0_add, hp, gd_n (by omega) (by decide), lt_d, nI_clamp (n := n) (by omega), cs_sz_xx, hp, gd_n (by omega) (by decide), lt_d, nI_clamp (n := n) (by omega), cs_yy_xx, cs_sz_yy, cs_sz_xx, hp, gd_n (by omega) (by decide), lt_d, nI_clamp (n := n) (by omega), cs_lb_yy, cs_lb_xx, lt_d, cs_sz_lb, cs_sz_yy, cs_sz_xx, hp, nI_1]
theorem ptR_add {n : Nat} {σ : CS} {μ : MS} (h : ptR n σ μ) {x y l : Int32} (hx : smI x 4) (hy : smI y 4) (hl : l = 1 ∨ l = -1) (hn : c_pw σ = 1 ∧ n < 6 ∨ c_pw σ = 2 ∧ n < 4) : ptR (n + 1) (s_sz (s_lb (s_yy (s_xx σ (upd (c_xx σ) n x)) (upd (c_yy σ) n y)) (upd (c_lb σ) n l)) (nI (n + 1))) (n_pt (n_lb (n_py (n_px μ (upd (m_px μ) n x)) (upd (m_py μ) n y)) (upd (m_lb μ) n l)) (nI (n + 1))) := by
  obtain ⟨p1, p2, p3, p4, p5, p6, p7, p8, p9, p10, p11⟩ := h
  refine ⟨by rw [cs_sz_sz], by rw [mn_pt_pt], by rw [mn_dg_pt, mn_dg_lb, mn_dg_py, mn_dg_px, cs_pw_sz, cs_pw_lb, cs_pw_yy, cs_pw_xx]; exact p3, by rw [mn_px_pt, mn_px_lb, mn_px_py, mn_px_px, cs_xx_sz, cs_xx_lb, cs_xx_yy, cs_xx_xx, p4], by rw [mn_py_pt, mn_py_lb, mn_py_py, cs_yy_sz, cs_yy_lb, cs_yy_yy, p5], by rw [mn_lb_pt, mn_lb_lb, cs_lb_sz, cs_lb_lb, p6], by rw [mn_bA_pt, mn_bA_lb, mn_bA_py, mn_bA_px, cs_bA_sz, cs_bA_lb, cs_bA_yy, cs_bA_xx]; exact p7, by rw [mn_bB_pt, mn_bB_lb, mn_bB_py, mn_bB_px, cs_bB_sz, cs_bB_lb, cs_bB_yy, cs_bB_xx]; exact p8, ?_, by rw [cs_bA_sz, cs_bA_lb, cs_bA_yy, cs_bA_xx]; exact p10, by rw [cs_bB_sz, cs_bB_lb, cs_bB_yy, cs_bB_xx]; exact p11⟩
  rw [cs_pw_sz, cs_pw_lb, cs_pw_yy, cs_pw_xx, cs_xx_sz, cs_xx_lb, cs_xx_yy, cs_xx_xx, cs_yy_sz, cs_yy_lb, cs_yy_yy, cs_lb_sz, cs_lb_lb]
  refine ⟨?_, fun i hi => ?_⟩
  · rcases hn with ⟨a, b⟩ | ⟨a, b⟩
    · exact Or.inl ⟨a, by omega⟩
    · exact Or.inr ⟨a, by omega⟩
  · rw [up_i, up_i, up_i]
    by_cases q : i = n
    · rw [if_pos q, if_pos q, if_pos q]
      exact ⟨hx, hy, hl⟩
    · rw [if_neg q, if_neg q, if_neg q]
      exact p9.2 i (by omega)
theorem sm4 {x : Int32} (h1 : ¬ x < -4) (h2 : ¬ 4 < x) : smI x 4 := by
  rw [Int32.lt_iff_toInt_lt] at h1 h2
  have e1 : (-4 : Int32).toInt = -4 := rfl
  have e2 : (4 : Int32).toInt = 4 := rfl
  unfold smI
  omega
theorem pl_0 {x y : Int32} (h : x < -4 ∨ 4 < x ∨ y < -4 ∨ 4 < y) : f_X0_isPlace x y = some 0 := by
  rw [f_X0_isPlace]
  by_cases a : x < -4
  · rw [if_pos a]
  · rw [if_neg a]
    by_cases b : 4 < x
    · rw [if_pos b]
    · rw [if_neg b]
      by_cases c : y < -4
      · rw [if_pos c]
      · rw [if_neg c]
        by_cases d : 4 < y
        · rw [if_pos d]
        · rcases h with h | h | h | h
          · exact absurd h a
          · exact absurd h b
          · exact absurd h c
          · exact absurd h d
theorem point_R {σ : CS} {μ : MS} (h : Rel σ μ) (x y l : Int32) : ∃ v σ2 μ2, f_X3_point x y l σ = some (v, σ2) ∧ f_X4_point x y l μ = some (v, μ2) ∧ Rel σ2 μ2 := by
  have h0 := h
  obtain ⟨n, hp, ht⟩ := h
  have hp0 := hp
  obtain ⟨p1, p2, p3, p4, p5, p6, p7, p8, p9, p10, p11⟩ := hp
  rw [f_X3_point, f_X4_point]
  by_cases hx : x < -4 ∨ 4 < x
  · exact ⟨-2, σ, μ, by rw [pl_0 (by rcases hx with q | q; exact Or.inl q; exact Or.inr (Or.inl q)), bs_d, if_pos rfl], by rw [in_0 hx, bs_d, if_pos rfl], h0⟩
  · have x1 : ¬ x < -4 := fun q => hx (Or.inl q)
    have x2 : ¬ 4 < x := fun q => hx (Or.inr q)
    rw [in_1 x1 x2, bs_d, if_neg n10]
    by_cases hy : y < -4 ∨ 4 < y
    · exact ⟨-2, σ, μ, by rw [pl_0 (Or.inr (Or.inr hy)), bs_d, if_pos rfl], by rw [in_0 hy, bs_d, if_pos rfl], h0⟩
    · have y1 : ¬ y < -4 := fun q => hy (Or.inl q)
      have y2 : ¬ 4 < y := fun q => hy (Or.inr q)
      have e1 : f_X0_isPlace x y = some 1 := by rw [f_X0_isPlace, if_neg x1, if_neg x2, if_neg y1, if_neg y2]
      rw [in_1 y1 y2, bs_d, if_neg n10, e1, bs_d, if_neg n10]
      have full : ∃ w, f_X0_mostWith (c_pw σ) = some (nI w) ∧ (c_pw σ = 1 ∧ w = 6 ∨ c_pw σ = 2 ∧ w = 4) ∧ n ≤ w := by
        rcases p9.1 with ⟨a, b⟩ | ⟨a, b⟩
        · exact ⟨6, by rw [f_X0_mostWith, if_pos a]; rfl, Or.inl ⟨a, rfl⟩, b⟩
        · exact ⟨4, by rw [f_X0_mostWith, a, if_neg (by decide)]; rfl, Or.inr ⟨a, rfl⟩, b⟩
      obtain ⟨w, f1, f2, f3⟩ := full
      have key : (l = 1 ∨ l = -1) → ∃ v σ2 μ2, ((f_X0_mostWith (c_pw σ)).bind (fun r5 => if (c_sz σ) < r5 then (f_X0_add x y l σ).bind (fun r8 => (f_X1_forget r8).bind (fun r10 => some (((c_sz r10) - (1 : Int32)), r10))) else some ((-4 : Int32), σ))) = some (v, σ2) ∧ (if (m_dg μ) = (1 : Int32) then if (m_pt μ) = (6 : Int32) then some ((-4 : Int32), μ) else mAddB x y l μ else if (m_pt μ) = (4 : Int32) then some ((-4 : Int32), μ) else mAddB x y l μ) = some (v, μ2) ∧ Rel σ2 μ2 := by
        intro hl
        rw [f1, bs_d, p1]
        by_cases hw : n < w
        · have hn6 : n < 6 := by omega
          refine ⟨nI n, (s_sa (s_st (s_rw (s_sz (s_lb (s_yy (s_xx σ (upd (c_xx σ) n x)) (upd (c_yy σ) n y)) (upd (c_lb σ) n l)) (nI (n + 1))) 0) 0) (-1)), (n_st (n_ry (n_dn (n_bg (n_pt (n_lb (n_py (n_px μ (upd (m_px μ) n x)) (upd (m_py μ) n y)) (upd (m_lb μ) n l)) (nI (n + 1))) 0) 0) 0) 0), ?_, ?_, Rel_f (ptR_add hp0 (sm4 x1 x2) (sm4 y1 y2) hl (by rcases f2 with ⟨a, b⟩ | ⟨a, b⟩; exact Or.inl ⟨a, by omega⟩; exact Or.inr ⟨a, by omega⟩))⟩
          · rw [if_pos (nI_lt hw (by omega)), cAdd_s hn6 p1, bs_d, cFg, bs_d, cs_sz_sa, cs_sz_st, cs_sz_rw, cs_sz_sz, nI_m1]
          · rw [p3, p2, mAdd_s hn6 p2]
            rcases f2 with ⟨a, b⟩ | ⟨a, b⟩
            · rw [if_pos a, if_neg (fun q => by rw [show (6 : Int32) = nI 6 from rfl] at q; have := (nI_eq (by omega) (by decide)).mp q; omega)]
            · rw [if_neg (by rw [a]; decide), if_neg (fun q => by rw [show (4 : Int32) = nI 4 from rfl] at q; have := (nI_eq (by omega) (by decide)).mp q; omega)]
        · refine ⟨-4, σ, μ, ?_, ?_, h0⟩
          · rw [if_neg (nI_nlt (by omega) (by omega))]
          · rw [p3, p2]
            have e : n = w := by omega
            rcases f2 with ⟨a, b⟩ | ⟨a, b⟩
            · rw [if_pos a, if_pos (by rw [e, b]; rfl)]
            · rw [if_neg (by rw [a]; decide), if_pos (by rw [e, b]; rfl)]
      by_cases l1 : l = 1
      · rw [if_pos l1, if_pos l1]
        exact key (Or.inl l1)
      · rw [if_neg l1, if_neg l1]
        by_cases l2 : l = -1
        · rw [if_pos l2, if_pos l2]
          exact key (Or.inr l2)
        · rw [if_neg l2, if_neg l2]
          exact ⟨-2, σ, μ, rfl, rfl, h0⟩
/-! DROP, DEGREE, BOX, Q -/
theorem drop_R {σ : CS} {μ : MS} (h : Rel σ μ) : ∃ v σ2 μ2, f_X3_drop σ = some (v, σ2) ∧ f_X4_drop μ = some (v, μ2) ∧ Rel σ2 μ2 := by
  have h0 := h
  obtain ⟨n, hp, ht⟩ := h
  obtain ⟨p1, p2, p3, p4, p5, p6, p7, p8, p9, p10, p11⟩ := hp
  have hn6 := pt_6 p9
  rw [f_X3_drop, f_X4_drop, p1, p2]
  cases n with
  | zero => exact ⟨-3, σ, μ, by rw [if_pos nI_0], by rw [if_pos nI_0], h0⟩
  | succ n =>
    have hne : ¬ nI (n + 1) = 0 := fun z => absurd ((nI_z (by omega)).mp z) (by omega)
    rw [if_neg hne, if_neg hne, nI_m1, lt_d, lt_d, cFg, mFg, bs_d, bs_d]
    refine ⟨nI n, _, _, ?_, ?_, Rel_f (n := n) (σ := s_sz σ (nI n)) (μ := n_pt μ (nI n)) ?_⟩
    · rw [cs_sz_sa, cs_sz_st, cs_sz_rw, cs_sz_sz]
    · rw [mn_pt_st, mn_pt_ry, mn_pt_dn, mn_pt_bg, mn_pt_pt]
    · refine ⟨cs_sz_sz _ _, mn_pt_pt _ _, by rw [mn_dg_pt, cs_pw_sz]; exact p3, by rw [mn_px_pt, cs_xx_sz]; exact p4, by rw [mn_py_pt, cs_yy_sz]; exact p5, by rw [mn_lb_pt, cs_lb_sz]; exact p6, by rw [mn_bA_pt, cs_bA_sz]; exact p7, by rw [mn_bB_pt, cs_bB_sz]; exact p8, ?_, by rw [cs_bA_sz]; exact p10, by rw [cs_bB_sz]; exact p11⟩
      rw [cs_pw_sz, cs_xx_sz, cs_yy_sz, cs_lb_sz]
      refine ⟨?_, fun i hi => p9.2 i (by omega)⟩
      rcases p9.1 with ⟨a, b⟩ | ⟨a, b⟩
      · exact Or.inl ⟨a, by omega⟩
      · exact Or.inr ⟨a, by omega⟩
theorem ptR_dg {n : Nat} {σ : CS} {μ : MS} (h : ptR n σ μ) {d : Int32} (hd : d = 1 ∧ n ≤ 6 ∨ d = 2 ∧ n ≤ 4) : ptR n (s_pw σ d) (n_dg μ d) := by
  obtain ⟨p1, p2, p3, p4, p5, p6, p7, p8, p9, p10, p11⟩ := h
  refine ⟨by rw [cs_sz_pw]; exact p1, by rw [mn_pt_dg]; exact p2, by rw [mn_dg_dg, cs_pw_pw], by rw [mn_px_dg, cs_xx_pw]; exact p4, by rw [mn_py_dg, cs_yy_pw]; exact p5, by rw [mn_lb_dg, cs_lb_pw]; exact p6, by rw [mn_bA_dg, cs_bA_pw]; exact p7, by rw [mn_bB_dg, cs_bB_pw]; exact p8, ?_, by rw [cs_bA_pw]; exact p10, by rw [cs_bB_pw]; exact p11⟩
  rw [cs_pw_pw, cs_xx_pw, cs_yy_pw, cs_lb_pw]
  exact ⟨hd, p9.2⟩
theorem degree_R {σ : CS} {μ : MS} (h : Rel σ μ) (d : Int32) : ∃ v σ2 μ2, f_X3_degree d σ = some (v, σ2) ∧ f_X4_degree d μ = some (v, μ2) ∧ Rel σ2 μ2 := by
  have h0 := h
  obtain ⟨n, hp, ht⟩ := h
  have hp0 := hp
  obtain ⟨p1, p2, p3, p4, p5, p6, p7, p8, p9, p10, p11⟩ := hp
  have hn6 := pt_6 p9
  rw [f_X3_degree, f_X4_degree]
  by_cases d1 : d = 1
  · subst d1
    rw [if_pos rfl, f_X0_mostWith, if_pos rfl, bs_d, p1, show (6 : Int32) = nI 6 from rfl, if_pos (nI_le hn6 (by omega)), lt_d, lt_d, cFg, bs_d, in_1 (by decide) (by decide), bs_d, if_neg n10, if_neg (show ¬ (1 : Int32) = 2 by decide), lt_d, lt_d, mFg, bs_d, p3]
    exact ⟨_, _, _, rfl, rfl, Rel_f (ptR_dg hp0 (Or.inl ⟨rfl, hn6⟩))⟩
  · rw [if_neg d1]
    by_cases d2 : d = 2
    · subst d2
      rw [if_pos rfl, f_X0_mostWith, if_neg (show ¬ (2 : Int32) = 1 by decide), bs_d, p1, p2, show (4 : Int32) = nI 4 from rfl, in_1 (by decide) (by decide), bs_d, if_neg n10, if_pos rfl]
      by_cases h4 : n ≤ 4
      · rw [if_pos (nI_le h4 (by omega)), if_pos (nI_le h4 (by omega)), lt_d, lt_d, cFg, bs_d, lt_d, lt_d, mFg, bs_d, p3]
        exact ⟨_, _, _, rfl, rfl, Rel_f (ptR_dg hp0 (Or.inr ⟨rfl, h4⟩))⟩
      · rw [if_neg (nI_ge (by omega) (by omega)), if_neg (nI_ge (by omega) (by omega))]
        exact ⟨-3, σ, μ, rfl, rfl, h0⟩
    · have hz : d < 1 ∨ 2 < d := by
        have a1 : ¬ d.toInt = 1 := ne_i d1 rfl
        have a2 : ¬ d.toInt = 2 := ne_i d2 rfl
        rw [Int32.lt_iff_toInt_lt, Int32.lt_iff_toInt_lt, show (1 : Int32).toInt = 1 from rfl, show (2 : Int32).toInt = 2 from rfl]
        omega
      rw [if_neg d2, in_0 hz, bs_d, if_pos rfl]
      exact ⟨-2, σ, μ, rfl, rfl, h0⟩
theorem ptR_bx {n : Nat} {σ : CS} {μ : MS} (h : ptR n σ μ) {x y : Int32} (hx : 1 ≤ x.toInt ∧ x.toInt ≤ 20) (hy : 1 ≤ y.toInt ∧ y.toInt ≤ 6) : ptR n (s_bB (s_bA σ x) y) (n_bB (n_bA μ x) y) := by
  obtain ⟨p1, p2, p3, p4, p5, p6, p7, p8, p9, p10, p11⟩ := h
  refine ⟨by rw [cs_sz_bB, cs_sz_bA]; exact p1, by rw [mn_pt_bB, mn_pt_bA]; exact p2, by rw [mn_dg_bB, mn_dg_bA, cs_pw_bB, cs_pw_bA]; exact p3, by rw [mn_px_bB, mn_px_bA, cs_xx_bB, cs_xx_bA]; exact p4, by rw [mn_py_bB, mn_py_bA, cs_yy_bB, cs_yy_bA]; exact p5, by rw [mn_lb_bB, mn_lb_bA, cs_lb_bB, cs_lb_bA]; exact p6, by rw [mn_bA_bB, mn_bA_bA, cs_bA_bB, cs_bA_bA], by rw [mn_bB_bB, cs_bB_bB], ?_, by rw [cs_bA_bB, cs_bA_bA]; exact hx, by rw [cs_bB_bB]; exact hy⟩
  rw [cs_pw_bB, cs_pw_bA, cs_xx_bB, cs_xx_bA, cs_yy_bB, cs_yy_bA, cs_lb_bB, cs_lb_bA]
  exact p9
theorem box_R {σ : CS} {μ : MS} (h : Rel σ μ) (x y : Int32) : ∃ v σ2 μ2, f_X3_box x y σ = some (v, σ2) ∧ f_X4_box x y μ = some (v, μ2) ∧ Rel σ2 μ2 := by
  have h0 := h
  obtain ⟨n, hp, ht⟩ := h
  rw [f_X3_box, f_X4_box]
  by_cases x1 : x < 1
  · rw [if_pos x1, in_0 (Or.inl x1), bs_d, if_pos rfl]
    exact ⟨-2, σ, μ, rfl, rfl, h0⟩
  · rw [if_neg x1]
    by_cases x2 : 20 < x
    · rw [if_pos x2, in_0 (Or.inr x2), bs_d, if_pos rfl]
      exact ⟨-2, σ, μ, rfl, rfl, h0⟩
    · rw [if_neg x2, in_1 x1 x2, bs_d, if_neg n10]
      by_cases y1 : y < 1
      · rw [if_pos y1, in_0 (Or.inl y1), bs_d, if_pos rfl]
        exact ⟨-2, σ, μ, rfl, rfl, h0⟩
      · rw [if_neg y1]
        by_cases y2 : y ≤ 6
        · rw [if_pos y2, in_1 y1 (nlt_i y2), bs_d, if_neg n10, lt_d, lt_d, cFg, bs_d, lt_d, lt_d, mFg, bs_d]
          rw [Int32.lt_iff_toInt_lt] at x1 x2 y1
          rw [Int32.le_iff_toInt_le] at y2
          have e1 : (1 : Int32).toInt = 1 := rfl
          have e2 : (20 : Int32).toInt = 20 := rfl
          have e3 : (6 : Int32).toInt = 6 := rfl
          exact ⟨_, _, _, rfl, rfl, Rel_f (ptR_bx hp ⟨by omega, by omega⟩ ⟨by omega, by omega⟩)⟩
        · rw [if_neg y2, in_0 (Or.inr (nle_i y2)), bs_d, if_pos rfl]
          exact ⟨-2, σ, μ, rfl, rfl, h0⟩
theorem q_R {σ : CS} {μ : MS} (h : Rel σ μ) (i k : Int32) : ∃ v, f_X3_q i k σ = some v ∧ f_X4_q i k μ = some v := by
  obtain ⟨n, hp, ht⟩ := h
  obtain ⟨p1, p2, p3, p4, p5, p6, p7, p8, p9, p10, p11⟩ := hp
  have hn6 := pt_6 p9
  rw [f_X3_q, f_X4_q]
  rcases has_eq hn6 i σ μ p1 p2 with ⟨a, ha, rfl, a1, a2⟩ | ⟨a1, a2⟩
  · rw [a1, a2, bs_d, bs_d, if_neg n10, if_neg n10]
    rcases has_eq hn6 k σ μ p1 p2 with ⟨b, hb, rfl, b1, b2⟩ | ⟨b1, b2⟩
    · rw [b1, b2, bs_d, bs_d, if_neg n10, if_neg n10, cPr (by omega) (by omega), mPr (by omega) (by omega), bs_d, bs_d, p3, p4, p5, p6]
      exact ⟨_, rfl, rfl⟩
    · rw [b1, b2, bs_d, bs_d, if_pos rfl, if_pos rfl]
      exact ⟨_, rfl, rfl⟩
  · rw [a1, a2, bs_d, bs_d, if_pos rfl, if_pos rfl]
    exact ⟨_, rfl, rfl⟩

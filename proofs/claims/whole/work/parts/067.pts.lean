/-! points within limits -/
def qB (pw : Int32) : Nat := if pw = 1 then 33 else 1089
def smI (x : Int32) (k : Nat) : Prop := x.toInt.natAbs ≤ k
def ptOk (n : Nat) (pw : Int32) (xx yy lb : Nat → Int32) : Prop := (pw = 1 ∧ n ≤ 6 ∨ pw = 2 ∧ n ≤ 4) ∧ ∀ i, i < n → smI (xx i) 4 ∧ smI (yy i) 4 ∧ (lb i = 1 ∨ lb i = -1)
theorem na_mul {a b : Int} {A B : Nat} (ha : a.natAbs ≤ A) (hb : b.natAbs ≤ B) : (a * b).natAbs ≤ A * B := by
  rw [Int.natAbs_mul]
  exact Nat.mul_le_mul ha hb
theorem mul_sm {x y : Int32} {A B : Nat} (hx : smI x A) (hy : smI y B) (h : A * B < 2147483648) : (x * y).toInt = x.toInt * y.toInt ∧ smI (x * y) (A * B) := by
  have b := na_mul hx hy
  have e := fb_mulI (x := x) (y := y) (by omega) (by omega)
  exact ⟨e, by unfold smI; rw [e]; exact b⟩
theorem plain_b {a b x y : Int32} (ha : smI a 4) (hb : smI b 4) (hx : smI x 4) (hy : smI y 4) : smI (a * x + b * y + 1) 33 := by
  have h1 := (mul_sm ha hx (by decide)).2
  have h2 := (mul_sm hb hy (by decide)).2
  unfold smI at h1 h2 ⊢
  have e1 : (a * x + b * y).toInt = (a * x).toInt + (b * y).toInt := fb_addI (by omega) (by omega)
  have o : (1 : Int32).toInt = 1 := rfl
  have e2 : (a * x + b * y + 1).toInt = (a * x + b * y).toInt + (1 : Int32).toInt := fb_addI (by omega) (by omega)
  omega
theorem krn_b {n : Nat} {pw : Int32} {xx yy lb : Nat → Int32} (h : ptOk n pw xx yy lb) {i : Nat} (hi : i < n) {x y : Int32} (hx : smI x 4) (hy : smI y 4) : smI (krn pw xx yy i x y) (qB pw) := by
  have hp := plain_b (h.2 i hi).1 (h.2 i hi).2.1 hx hy
  unfold krn qB
  by_cases e : pw = 1
  · rw [if_pos e, if_pos e]; exact hp
  · rw [if_neg e, if_neg e]
    exact (mul_sm hp hp (by decide)).2
theorem qB_le (pw : Int32) : qB pw ≤ 1089 := by
  unfold qB
  by_cases e : pw = 1
  · rw [if_pos e]; decide
  · rw [if_neg e]; exact Nat.le_refl _
theorem lb_2 {a b : Int32} (ha : a = 1 ∨ a = -1) (hb : b = 1 ∨ b = -1) : smI (a * b) 1 := by
  rcases ha with rfl | rfl <;> rcases hb with rfl | rfl <;> (unfold smI; decide)
theorem prd_b {n : Nat} {pw : Int32} {xx yy lb : Nat → Int32} (h : ptOk n pw xx yy lb) {i k : Nat} (hi : i < n) (hk : k < n) : smI (prd pw xx yy lb i k) (qB pw) := by
  have h1 := lb_2 (h.2 i hi).2.2 (h.2 k hk).2.2
  have h2 := krn_b h hi (h.2 k hk).1 (h.2 k hk).2.1
  have hq := qB_le pw
  have h3 := (mul_sm h1 h2 (by omega)).2
  rw [Nat.one_mul] at h3
  exact h3
theorem mtx_i {n : Nat} {pw : Int32} {xx yy lb : Nat → Int32} (r k : Nat) : (mtx n pw xx yy lb r k).toInt = mM n (fun i k => (prd pw xx yy lb i k).toInt) r k := by
  unfold mtx mM
  by_cases h1 : r < n ∧ k < n
  · rw [if_pos h1, if_pos h1]
  · rw [if_neg h1, if_neg h1]
    by_cases h2 : k = n + r
    · rw [if_pos h2, if_pos h2]; rfl
    · rw [if_neg h2, if_neg h2]
      by_cases h3 : r = n + k
      · rw [if_pos h3, if_pos h3]; rfl
      · rw [if_neg h3, if_neg h3]; rfl
theorem mtx_b {n : Nat} {pw : Int32} {xx yy lb : Nat → Int32} (h : ptOk n pw xx yy lb) (r k : Nat) : smI (mtx n pw xx yy lb r k) 1089 := by
  unfold mtx
  by_cases h1 : r < n ∧ k < n
  · rw [if_pos h1]
    exact Nat.le_trans (prd_b h h1.1 h1.2) (qB_le pw)
  · rw [if_neg h1]
    by_cases h2 : k = n + r
    · rw [if_pos h2]; unfold smI; decide
    · rw [if_neg h2]
      by_cases h3 : r = n + k
      · rw [if_pos h3]; unfold smI; decide
      · rw [if_neg h3]; unfold smI; decide
theorem ng_32 {x : Int32} {k : Nat} (h : smI x k) (hk : k < 2147483648) : (-x).toInt64 = Int64.ofInt (-x.toInt) := by
  apply oi_of
  rw [Int32.toInt_toInt64, fb_negI (by unfold smI at h; omega)]
theorem ng_64 (x : Int32) : -(x.toInt64) = Int64.ofInt (-x.toInt) := by
  rw [Int64.ofInt_neg, ← Int32.toInt_toInt64, oi_t]
theorem pl_64 (x : Int32) : x.toInt64 = Int64.ofInt x.toInt := oi_of (Int32.toInt_toInt64 x)
theorem ok_pts {n : Nat} {pw : Int32} {xx yy lb : Nat → Int32} (h : ptOk n pw xx yy lb) (hn : 1 ≤ n) : okNQ n (qB pw) := by
  refine ⟨hn, ?_⟩
  unfold qB
  rcases h.1 with ⟨e, h2⟩ | ⟨e, h2⟩
  · rw [if_pos e]; exact Or.inl ⟨rfl, h2⟩
  · rw [if_neg (by rw [e]; decide)]; exact Or.inr ⟨rfl, h2⟩
theorem pt_6 {n : Nat} {pw : Int32} {xx yy lb : Nat → Int32} (h : ptOk n pw xx yy lb) : n ≤ 6 := by
  rcases h.1 with ⟨_, h2⟩ | ⟨_, h2⟩ <;> omega
/-- the first table of a state -/
def aS (n : Nat) (σ : CS) : Nat → Nat → Int := aC n (fun i k => (prd (c_pw σ) (c_xx σ) (c_yy σ) (c_lb σ) i k).toInt) (c_bA σ).toInt (c_bB σ).toInt
/-! the state of both: points -/
def ptR (n : Nat) (σ : CS) (μ : MS) : Prop := c_sz σ = nI n ∧ m_pt μ = nI n ∧ m_dg μ = c_pw σ ∧ m_px μ = c_xx σ ∧ m_py μ = c_yy σ ∧ m_lb μ = c_lb σ ∧ m_bA μ = c_bA σ ∧ m_bB μ = c_bB σ ∧ ptOk n (c_pw σ) (c_xx σ) (c_yy σ) (c_lb σ) ∧ (1 ≤ (c_bA σ).toInt ∧ (c_bA σ).toInt ≤ 20) ∧ (1 ≤ (c_bB σ).toInt ∧ (c_bB σ).toInt ≤ 6)
theorem aS_ok {n : Nat} {σ : CS} {μ : MS} (h : ptR n σ μ) : ∀ c, kdOk n (qB (c_pw σ)) (kd n c) (aS n σ c) := by
  obtain ⟨_, _, _, _, _, _, _, _, hp, hA, hB⟩ := h
  exact aC_ok n (qB (c_pw σ)) _ _ _ (fun r k hr hk => prd_b hp hr hk) (by omega) (by omega)
/-! the table of both -/
def tbR (n : Nat) (σ : CS) (μ : MS) (t E F : Nat → Nat) (st : Nat) (e : Int) : Prop :=
  1 ≤ n ∧ m_bg μ = 1 ∧ c_rw σ = nI (2 * n) ∧ m_rw μ = nI (2 * n) ∧ c_st σ = nI st ∧ m_st μ = nI st ∧ st ≤ 200 ∧ m_bl μ = c_sc σ
  ∧ (∀ r c, r < 2 * n → c < 4 * n + 2 → tG (m_tb μ) r c = c_gg σ r c)
  ∧ (∀ r, r < 2 * n → c_tl σ r = nI (t r) ∧ m_tl μ r = nI (letr (2 * n) (t r)) ∧ t r ≤ 4 * n)
  ∧ (∀ i, i < st → c_en σ i = nI (E i) ∧ m_en μ i = nI (letr (2 * n) (E i)) ∧ E i ≤ 4 * n ∧ c_lf σ i = nI (F i) ∧ m_lf μ i = nI (letr (2 * n) (F i)) ∧ F i ≤ 4 * n ∧ m_la μ i = c_ta σ i)
  ∧ TI (2 * n) (aS n σ) t (gI (c_gg σ)) (c_sc σ).toInt e
  ∧ (st = 0 → (∀ r, r < 2 * n → t r = r) ∧ (c_sc σ).toInt = 1 ∧ (∀ r, r < 2 * n → gI (c_gg σ) r (4 * n) = -1) ∧ gI (c_gg σ) 0 (2 * (2 * n) + 1) < 0)
  ∧ (0 < st → ∀ r, r < 2 * n → 0 ≤ gI (c_gg σ) r (2 * (2 * n) + 1))
  ∧ (c_sa σ = 0 ∧ m_dn μ = 0 ∧ m_ry μ = 0 ∧ (∀ i, st = i + 1 → F i < 4 * n) ∨ c_sa σ = 2 ∧ m_dn μ = 0 ∧ m_ry μ = 1 ∨ c_sa σ = 1 ∧ m_dn μ = 1 ∧ m_ry μ = 0 ∧ 0 < st ∧ ∀ r, r < 2 * n → t r < 4 * n)
def noR (σ : CS) (μ : MS) : Prop := m_bg μ = 0 ∧ m_dn μ = 0 ∧ m_ry μ = 0 ∧ m_st μ = 0 ∧ c_st σ = 0 ∧ c_rw σ = 0 ∧ c_sa σ = -1
def Rel (σ : CS) (μ : MS) : Prop := ∃ n, ptR n σ μ ∧ (noR σ μ ∨ ∃ t E F st e, tbR n σ μ t E F st e)
def sPc (σ σ2 : CS) : Prop := c_sz σ2 = c_sz σ ∧ c_pw σ2 = c_pw σ ∧ c_xx σ2 = c_xx σ ∧ c_yy σ2 = c_yy σ ∧ c_lb σ2 = c_lb σ ∧ c_bA σ2 = c_bA σ ∧ c_bB σ2 = c_bB σ
def sPm (μ μ2 : MS) : Prop := m_pt μ2 = m_pt μ ∧ m_dg μ2 = m_dg μ ∧ m_px μ2 = m_px μ ∧ m_py μ2 = m_py μ ∧ m_lb μ2 = m_lb μ ∧ m_bA μ2 = m_bA μ ∧ m_bB μ2 = m_bB μ
theorem ptR_cg {n : Nat} {σ σ2 : CS} {μ μ2 : MS} (h : ptR n σ μ) (hc : sPc σ σ2) (hm : sPm μ μ2) : ptR n σ2 μ2 := by
  obtain ⟨c1, c2, c3, c4, c5, c6, c7⟩ := hc
  obtain ⟨m1, m2, m3, m4, m5, m6, m7⟩ := hm
  unfold ptR
  rw [c1, c2, c3, c4, c5, c6, c7, m1, m2, m3, m4, m5, m6, m7]
  exact h
theorem aS_cg {n : Nat} {σ σ2 : CS} (hc : sPc σ σ2) : aS n σ2 = aS n σ := by
  obtain ⟨c1, c2, c3, c4, c5, c6, c7⟩ := hc
  unfold aS
  rw [c2, c3, c4, c5, c6, c7]
theorem sM_P {μ ν : MS} (h : sM μ ν) : sPm μ ν := ⟨sM_pt h, sM_dg h, sM_px h, sM_py h, sM_lb h, sM_bA h, sM_bB h⟩
theorem sT_P {μ ν : MS} (h : sT μ ν) : sPm μ ν := ⟨sT_pt h, sT_dg h, sT_px h, sT_py h, sT_lb h, sT_bA h, sT_bB h⟩
theorem sPm_tr {μ ν ξ : MS} (h : sPm μ ν) (h2 : sPm ν ξ) : sPm μ ξ := by
  obtain ⟨m1, m2, m3, m4, m5, m6, m7⟩ := h
  obtain ⟨k1, k2, k3, k4, k5, k6, k7⟩ := h2
  exact ⟨k1.trans m1, k2.trans m2, k3.trans m3, k4.trans m4, k5.trans m5, k6.trans m6, k7.trans m7⟩
/-! BEGIN, of both -/
theorem begin_R {N : Nat} (hN : 600 < N) {σ : CS} {μ : MS} (h : Rel σ μ) : ∃ v σ2 μ2, f_X3_begin N σ = some (v, σ2) ∧ f_X4_begin N μ = some (v, μ2) ∧ Rel σ2 μ2 := by
  obtain ⟨n, hp, ht⟩ := h
  have hp0 := hp
  obtain ⟨p1, p2, p3, p4, p5, p6, p7, p8, p9, p10, p11⟩ := hp
  have hn6 := pt_6 p9
  by_cases h0 : n = 0
  · refine ⟨-3, σ, μ, ?_, ?_, n, hp0, ht⟩
    · rw [f_X3_begin, p1, h0, if_pos nI_0]
    · rw [f_X4_begin, p2, h0, if_pos nI_0]
  · have hne : ¬ nI n = 0 := fun z => h0 ((nI_z (by omega)).mp z)
    have fr : ∀ r c, Int64.ofInt (aS n σ c r) = if c < 2 * n then (if r = c then 1 else 0) else if c < 4 * n then Int64.ofInt (- mM n (fun i k => (prd (c_pw σ) (c_xx σ) (c_yy σ) (c_lb σ) i k).toInt) r (c - 2 * n)) else if c = 4 * n then -1 else if r < n then Int64.ofInt (-(c_bB σ).toInt) else Int64.ofInt (c_bA σ).toInt := fun r c => by
      unfold aS aC
      by_cases a1 : c < 2 * n
      · rw [if_pos a1, if_pos a1]
        by_cases a2 : r = c
        · rw [if_pos a2, if_pos a2]; rfl
        · rw [if_neg a2, if_neg a2]; rfl
      · rw [if_neg a1, if_neg a1]
        by_cases a2 : c < 4 * n
        · rw [if_pos a2, if_pos a2]
        · rw [if_neg a2, if_neg a2]
          by_cases a3 : c = 4 * n
          · rw [if_pos a3, if_pos a3]; rfl
          · rw [if_neg a3, if_neg a3]
            by_cases a4 : r < n
            · rw [if_pos a4, if_pos a4]
            · rw [if_neg a4, if_neg a4]
    have F1 : ∀ r c, r < 2 * n → c < 2 * n → Int64.ofInt (aS n σ c r) = if c = r then 1 else 0 := fun r c _ hc => by
      rw [fr, if_pos hc]
      by_cases a : c = r
      · rw [if_pos a, if_pos a.symm]
      · rw [if_neg a, if_neg (fun z => a z.symm)]
    have F2 : ∀ r c, r < 2 * n → c < 2 * n → Int64.ofInt (aS n σ (2 * n + c) r) = Int64.ofInt (-(mtx n (c_pw σ) (c_xx σ) (c_yy σ) (c_lb σ) r c).toInt) := fun r c _ hc => by
      rw [fr, if_neg (by omega), if_pos (by omega), mtx_i, Nat.add_sub_cancel_left]
    have F3 : ∀ r, r < 2 * n → Int64.ofInt (aS n σ (4 * n) r) = -1 := fun r _ => by
      rw [fr, if_neg (by omega), if_neg (by omega), if_pos rfl]
    have F4 : ∀ r, r < 2 * n → Int64.ofInt (aS n σ (4 * n + 1) r) = if n ≤ r then (c_bA σ).toInt64 else (-(c_bB σ)).toInt64 := fun r _ => by
      rw [fr, if_neg (by omega), if_neg (by omega), if_neg (by omega)]
      by_cases a : r < n
      · rw [if_pos a, if_neg (by omega), ng_32 (k := 6) (by unfold smI; omega) (by decide)]
      · rw [if_neg a, if_pos (by omega), pl_64]
    obtain ⟨T, G, a1, a2, a3⟩ := cLay_L N n (by omega) hn6 (c_bA σ) (c_bB σ) (c_pw σ) (c_xx σ) (c_yy σ) (c_lb σ) (fun r c => Int64.ofInt (aS n σ c r)) F1 (fun r c hr hc => by rw [F2 r c hr hc, ng_32 (mtx_b p9 r c) (by decide)]) F3 F4 (2 * n) 0 N (s_sc (s_sa (s_st (s_rw σ (nI (2 * n))) 0) 0) 1) (by rw [cs_rw_sc, cs_rw_sa, cs_rw_st, cs_rw_rw]) (by rw [cs_sz_sc, cs_sz_sa, cs_sz_st, cs_sz_rw]; exact p1) (by rw [cs_pw_sc, cs_pw_sa, cs_pw_st, cs_pw_rw]) (by rw [cs_xx_sc, cs_xx_sa, cs_xx_st, cs_xx_rw]) (by rw [cs_yy_sc, cs_yy_sa, cs_yy_st, cs_yy_rw]) (by rw [cs_lb_sc, cs_lb_sa, cs_lb_st, cs_lb_rw]) (by omega) (by omega)
    rw [nI_0] at a1
    obtain ⟨T2, tb, b1, b2, b3⟩ := mBeg_L N n (by omega) hn6 (c_bA σ) (c_bB σ) (c_pw σ) (c_xx σ) (c_yy σ) (c_lb σ) (fun r c => Int64.ofInt (aS n σ c r)) F1 (fun r c hr hc => by rw [F2 r c hr hc, ng_64]) F3 F4 (2 * n) 0 N (n_bl (n_rw (n_bg (n_st (n_ry (n_dn (n_bg μ 0) 0) 0) 0) 1) (nI (2 * n))) 1) (by rw [mn_rw_bl, mn_rw_rw]) (by rw [mn_pt_bl, mn_pt_rw, mn_pt_bg, mn_pt_st, mn_pt_ry, mn_pt_dn, mn_pt_bg]; exact p2) (by rw [mn_dg_bl, mn_dg_rw, mn_dg_bg, mn_dg_st, mn_dg_ry, mn_dg_dn, mn_dg_bg]; exact p3) (by rw [mn_px_bl, mn_px_rw, mn_px_bg, mn_px_st, mn_px_ry, mn_px_dn, mn_px_bg]; exact p4) (by rw [mn_py_bl, mn_py_rw, mn_py_bg, mn_py_st, mn_py_ry, mn_py_dn, mn_py_bg]; exact p5) (by rw [mn_lb_bl, mn_lb_rw, mn_lb_bg, mn_lb_st, mn_lb_ry, mn_lb_dn, mn_lb_bg]; exact p6) (by rw [mn_bA_bl, mn_bA_rw, mn_bA_bg, mn_bA_st, mn_bA_ry, mn_bA_dn, mn_bA_bg]; exact p7) (by rw [mn_bB_bl, mn_bB_rw, mn_bB_bg, mn_bB_st, mn_bB_ry, mn_bB_dn, mn_bB_bg]; exact p8) (by omega) (by omega)
    rw [nI_0] at b1
    have hPc : sPc σ (s_gg (s_tl (s_sc (s_sa (s_st (s_rw σ (nI (2 * n))) 0) 0) 1) T) G) := ⟨by rw [cs_sz_gg, cs_sz_tl, cs_sz_sc, cs_sz_sa, cs_sz_st, cs_sz_rw], by rw [cs_pw_gg, cs_pw_tl, cs_pw_sc, cs_pw_sa, cs_pw_st, cs_pw_rw], by rw [cs_xx_gg, cs_xx_tl, cs_xx_sc, cs_xx_sa, cs_xx_st, cs_xx_rw], by rw [cs_yy_gg, cs_yy_tl, cs_yy_sc, cs_yy_sa, cs_yy_st, cs_yy_rw], by rw [cs_lb_gg, cs_lb_tl, cs_lb_sc, cs_lb_sa, cs_lb_st, cs_lb_rw], by rw [cs_bA_gg, cs_bA_tl, cs_bA_sc, cs_bA_sa, cs_bA_st, cs_bA_rw], by rw [cs_bB_gg, cs_bB_tl, cs_bB_sc, cs_bB_sa, cs_bB_st, cs_bB_rw]⟩
    have hPm : sPm μ (n_tb (n_tl (n_bl (n_rw (n_bg (n_st (n_ry (n_dn (n_bg μ 0) 0) 0) 0) 1) (nI (2 * n))) 1) T2) tb) := ⟨by rw [mn_pt_tb, mn_pt_tl, mn_pt_bl, mn_pt_rw, mn_pt_bg, mn_pt_st, mn_pt_ry, mn_pt_dn, mn_pt_bg], by rw [mn_dg_tb, mn_dg_tl, mn_dg_bl, mn_dg_rw, mn_dg_bg, mn_dg_st, mn_dg_ry, mn_dg_dn, mn_dg_bg], by rw [mn_px_tb, mn_px_tl, mn_px_bl, mn_px_rw, mn_px_bg, mn_px_st, mn_px_ry, mn_px_dn, mn_px_bg], by rw [mn_py_tb, mn_py_tl, mn_py_bl, mn_py_rw, mn_py_bg, mn_py_st, mn_py_ry, mn_py_dn, mn_py_bg], by rw [mn_lb_tb, mn_lb_tl, mn_lb_bl, mn_lb_rw, mn_lb_bg, mn_lb_st, mn_lb_ry, mn_lb_dn, mn_lb_bg], by rw [mn_bA_tb, mn_bA_tl, mn_bA_bl, mn_bA_rw, mn_bA_bg, mn_bA_st, mn_bA_ry, mn_bA_dn, mn_bA_bg], by rw [mn_bB_tb, mn_bB_tl, mn_bB_bl, mn_bB_rw, mn_bB_bg, mn_bB_st, mn_bB_ry, mn_bB_dn, mn_bB_bg]⟩
    refine ⟨nI (2 * n), (s_gg (s_tl (s_sc (s_sa (s_st (s_rw σ (nI (2 * n))) 0) 0) 1) T) G), (n_tb (n_tl (n_bl (n_rw (n_bg (n_st (n_ry (n_dn (n_bg μ 0) 0) 0) 0) 1) (nI (2 * n))) 1) T2) tb), ?_, ?_, n, ptR_cg hp0 hPc hPm, Or.inr ⟨fun r => r, fun _ => 0, fun _ => 0, 0, 1, ?_⟩⟩
    · rw [f_X3_begin, p1, if_neg hne, f_X1_lay, lt_d, p1, nI_2, lt_d, lt_d, lt_d, lt_d, a1, bs_d, cs_rw_gg, cs_rw_tl, cs_rw_sc, cs_rw_sa, cs_rw_st, cs_rw_rw]
    · rw [f_X4_begin, p2, if_neg hne, f_X4_forgets, gd_t _ (by decide), lt_d, gd_t _ (by decide), lt_d, gd_t _ (by decide), lt_d, lt_d, bs_d, gd_t _ (by decide), lt_d, mn_pt_bg, mn_pt_st, mn_pt_ry, mn_pt_dn, mn_pt_bg, p2, nI_2, lt_d, lt_d, b1]
    · have a2 : ∀ r, r < 2 * n → T r = nI r := fun r hr => by rw [a2, if_pos (by omega)]
      have b2 : ∀ r, r < 2 * n → T2 r = nI r := fun r hr => by rw [b2, if_pos (by omega)]
      have a3 : ∀ r c, r < 2 * n → c < 4 * n + 2 → G r c = Int64.ofInt (aS n σ c r) := fun r c hr hc => by rw [a3, if_pos ⟨by omega, hr, hc⟩]
      have b3 : ∀ r c, r < 2 * n → c < 4 * n + 2 → tG tb r c = Int64.ofInt (aS n σ c r) := fun r c hr hc => by rw [b3 r c (by omega), if_pos ⟨by omega, hr, hc⟩]
      have gi : ∀ r c, r < 2 * n → c ≤ 2 * (2 * n) + 1 → gI G r c = aS n σ c r := fun r c hr hc => by
        unfold gI
        rw [a3 r c hr (by omega)]
        have hti : TI (2 * n) (aS n σ) (fun r => r) (fun r c => aS n σ c r) 1 1 := TI_0 n _ _ _ _ (fun _ _ => rfl) _ (fun r c _ _ => rfl)
        have hb := TI_bd (ok_pts p9 (by omega)) (aS_ok hp0) hti (fun r hr => by omega) hr hc
        have hb : (aS n σ c r).natAbs ≤ 43520000000000000 := hb
        exact oi_in (by omega) (by omega)
      refine ⟨by omega, by rw [mn_bg_tb, mn_bg_tl, mn_bg_bl, mn_bg_rw, mn_bg_bg], by rw [cs_rw_gg, cs_rw_tl, cs_rw_sc, cs_rw_sa, cs_rw_st, cs_rw_rw], by rw [mn_rw_tb, mn_rw_tl, mn_rw_bl, mn_rw_rw], by rw [cs_st_gg, cs_st_tl, cs_st_sc, cs_st_sa, cs_st_st]; rfl, by rw [mn_st_tb, mn_st_tl, mn_st_bl, mn_st_rw, mn_st_bg, mn_st_st]; rfl, by omega, by rw [mn_bl_tb, mn_bl_tl, mn_bl_bl, cs_sc_gg, cs_sc_tl, cs_sc_sc], fun r c hr hc => ?_, fun r hr => ⟨?_, ?_, (by omega : r ≤ 4 * n)⟩, fun i hi => absurd hi (by omega), ?_, fun _ => ⟨fun r _ => rfl, by rw [cs_sc_gg, cs_sc_tl, cs_sc_sc]; rfl, fun r hr => ?_, ?_⟩, fun z => absurd z (by omega), Or.inl ⟨by rw [cs_sa_gg, cs_sa_tl, cs_sa_sc, cs_sa_sa], by rw [mn_dn_tb, mn_dn_tl, mn_dn_bl, mn_dn_rw, mn_dn_bg, mn_dn_st, mn_dn_ry, mn_dn_dn], by rw [mn_ry_tb, mn_ry_tl, mn_ry_bl, mn_ry_rw, mn_ry_bg, mn_ry_st, mn_ry_ry], fun i z => absurd z (by omega)⟩⟩
      · rw [mn_tb_tb, cs_gg_gg, b3 r c hr hc, a3 r c hr hc]
      · rw [cs_tl_gg, cs_tl_tl, a2 r hr]
      · have e : letr (2 * n) r = r := by unfold letr; rw [if_pos hr]
        rw [mn_tl_tb, mn_tl_tl, b2 r hr, e]
      · rw [aS_cg hPc, cs_gg_gg, cs_sc_gg, cs_sc_tl, cs_sc_sc]
        exact TI_0 n _ _ _ _ (fun _ _ => rfl) _ gi
      · rw [cs_gg_gg, gi r (4 * n) hr (by omega)]
        unfold aS aC
        rw [if_neg (by omega), if_neg (by omega), if_pos rfl]
      · have z2 : aS n σ (2 * (2 * n) + 1) 0 = -(c_bB σ).toInt := by
          unfold aS aC
          rw [if_neg (by omega), if_neg (by omega), if_neg (by omega), if_pos (by omega)]
        rw [cs_gg_gg, gi 0 (2 * (2 * n) + 1) (by omega) (by omega), z2]
        omega

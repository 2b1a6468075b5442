/-! the first table, of both -/
theorem upG_i (G : Nat → Nat → Int64) (i j : Nat) (x : Int64) (r c : Nat) : upG G i j x r c = if r = i ∧ c = j then x else G r c := by
  by_cases h : r = i ∧ c = j
  · rw [if_pos h, h.1, h.2, upG_s]
  · rw [if_neg h, upG_n _ _ _ _ (by omega)]
theorem up_i (f : Nat → Int32) (i : Nat) (x : Int32) (r : Nat) : upd f i x r = if r = i then x else f r := by
  unfold upd
  rfl
theorem cLay_in (N n : Nat) (hn : n ≤ 6) (r : Nat) (hr : r < 2 * n) (v2 v3 v4 pw : Int32) (xx yy lb : Nat → Int32) (F : Nat → Int64) (hF1 : ∀ c, c < 2 * n → F c = if c = r then 1 else 0) (hF2 : ∀ c, c < 2 * n → F (2 * n + c) = (-(mtx n pw xx yy lb r c)).toInt64) : ∀ (j k f : Nat) (σ : CS), c_rw σ = nI (2 * n) → c_sz σ = nI n → c_pw σ = pw → c_xx σ = xx → c_yy σ = yy → c_lb σ = lb → k + j = 2 * n → j < f →
    ∃ G, f_X1_lay_L53 N f v2 v3 v4 (nI r) (nI k) σ = some (s_gg σ G) ∧ ∀ r2 c, G r2 c = if r2 = r ∧ (k ≤ c ∧ c < 2 * n ∨ 2 * n + k ≤ c ∧ c < 4 * n) then F c else c_gg σ r2 c := by
  intro j
  induction j with
  | zero =>
    intro k f σ hrw hsz hpw hxx hyy hlb hk hf
    obtain ⟨f, rfl, hf⟩ := suc_of hf
    rw [f_X1_lay_L53, hrw, if_pos (nI_le (by omega) (by omega))]
    exact ⟨c_gg σ, by rw [cs_self], fun r2 c => (if_neg (by omega)).symm⟩
  | succ j ih =>
    intro k f σ hrw hsz hpw hxx hyy hlb hk hf
    obtain ⟨f, rfl, hf⟩ := suc_of hf
    have key : ∀ x : Int64, x = F k → ∃ G, f_X1_lay_L53 N f v2 v3 v4 (nI r) (nI (k + 1)) (s_gg (s_gg σ (upG (c_gg σ) r k x)) (upG (upG (c_gg σ) r k x) r (2 * n + k) ((-(mtx n pw xx yy lb r k)).toInt64))) = some (s_gg σ G) ∧ ∀ r2 c, G r2 c = if r2 = r ∧ (k ≤ c ∧ c < 2 * n ∨ 2 * n + k ≤ c ∧ c < 4 * n) then F c else c_gg σ r2 c := by
      intro x hx
      rw [ss_gg]
      obtain ⟨G, g1, g2⟩ := ih (k + 1) f (s_gg σ (upG (upG (c_gg σ) r k x) r (2 * n + k) ((-(mtx n pw xx yy lb r k)).toInt64))) (by rw [cs_rw_gg]; exact hrw) (by rw [cs_sz_gg]; exact hsz) (by rw [cs_pw_gg]; exact hpw) (by rw [cs_xx_gg]; exact hxx) (by rw [cs_yy_gg]; exact hyy) (by rw [cs_lb_gg]; exact hlb) (by omega) (by omega)
      refine ⟨G, by rw [g1, ss_gg], fun r2 c => ?_⟩
      rw [g2, cs_gg_gg, upG_i, upG_i]
      by_cases hD : r2 = r ∧ (k ≤ c ∧ c < 2 * n ∨ 2 * n + k ≤ c ∧ c < 4 * n)
      · rw [if_pos hD]
        by_cases hA : r2 = r ∧ (k + 1 ≤ c ∧ c < 2 * n ∨ 2 * n + (k + 1) ≤ c ∧ c < 4 * n)
        · rw [if_pos hA]
        · rw [if_neg hA]
          by_cases hB : r2 = r ∧ c = 2 * n + k
          · rw [if_pos hB, hB.2, hF2 k (by omega)]
          · have hC : r2 = r ∧ c = k := by omega
            rw [if_neg hB, if_pos hC, hC.2, hx]
      · rw [if_neg hD, if_neg (by omega), if_neg (by omega), if_neg (by omega)]
    rw [f_X1_lay_L53, hrw, if_neg (nI_ge (by omega) (by omega)), gd_n (by omega) (by decide)]
    by_cases e : k = r
    · rw [if_pos (by rw [e]), gd_n (by omega) (by decide), gd_n (by omega) (by decide), lt_d, gd_n (by omega) (by decide), cMx hn hr (by omega) _ (by rw [cs_sz_gg]; exact hsz), bs_d, gd_n (by omega) (by decide), cs_rw_gg, hrw, nI_add, gd_n (by omega) (by decide), lt_d, lt_d, nI_1, nI_clamp (n := r) (by omega), nI_clamp (n := k) (by omega), nI_clamp (n := 2 * n + k) (by omega), cs_gg_gg, cs_pw_gg, cs_xx_gg, cs_yy_gg, cs_lb_gg, hpw, hxx, hyy, hlb]
      exact key 1 (by rw [hF1 k (by omega), if_pos e])
    · rw [if_neg (fun z => e ((nI_eq (by omega) (by omega)).mp z)), gd_n (by omega) (by decide), gd_n (by omega) (by decide), lt_d, gd_n (by omega) (by decide), cMx hn hr (by omega) _ (by rw [cs_sz_gg]; exact hsz), bs_d, gd_n (by omega) (by decide), cs_rw_gg, hrw, nI_add, gd_n (by omega) (by decide), lt_d, lt_d, nI_1, nI_clamp (n := r) (by omega), nI_clamp (n := k) (by omega), nI_clamp (n := 2 * n + k) (by omega), cs_gg_gg, cs_pw_gg, cs_xx_gg, cs_yy_gg, cs_lb_gg, hpw, hxx, hyy, hlb]
      exact key 0 (by rw [hF1 k (by omega), if_neg e])
theorem s_tlgg (σ : CS) (G G2 : Nat → Nat → Int64) (T : Nat → Int32) : s_gg (s_tl (s_gg σ G) T) G2 = s_gg (s_tl σ T) G2 := match σ with
  | (_, _, _, _, _, _, _, _, _, _, _, _, _, _, _, _) => by simp only [s_tl, s_gg]
theorem s_tltl (σ : CS) (G2 : Nat → Nat → Int64) (T T2 : Nat → Int32) : s_gg (s_tl (s_tl σ T) T2) G2 = s_gg (s_tl σ T2) G2 := match σ with
  | (_, _, _, _, _, _, _, _, _, _, _, _, _, _, _, _) => by simp only [s_tl, s_gg]
theorem s_tlself (σ : CS) : s_gg (s_tl σ (c_tl σ)) (c_gg σ) = σ := match σ with
  | (_, _, _, _, _, _, _, _, _, _, _, _, _, _, _, _) => rfl
theorem cLay_L (N n : Nat) (hN : 2 * n < N) (hn : n ≤ 6) (v2 v3 pw : Int32) (xx yy lb : Nat → Int32) (F : Nat → Nat → Int64) (hF1 : ∀ r c, r < 2 * n → c < 2 * n → F r c = if c = r then 1 else 0) (hF2 : ∀ r c, r < 2 * n → c < 2 * n → F r (2 * n + c) = (-(mtx n pw xx yy lb r c)).toInt64) (hF3 : ∀ r, r < 2 * n → F r (4 * n) = -1) (hF4 : ∀ r, r < 2 * n → F r (4 * n + 1) = if n ≤ r then v2.toInt64 else (-v3).toInt64) : ∀ (j lo f : Nat) (σ : CS), c_rw σ = nI (2 * n) → c_sz σ = nI n → c_pw σ = pw → c_xx σ = xx → c_yy σ = yy → c_lb σ = lb → lo + j = 2 * n → j < f →
    ∃ T G, f_X1_lay_L32 N f v2 v3 (nI n) (nI lo) σ = some (s_gg (s_tl σ T) G) ∧ (∀ r, T r = if lo ≤ r ∧ r < 2 * n then nI r else c_tl σ r) ∧ ∀ r c, G r c = if lo ≤ r ∧ r < 2 * n ∧ c < 4 * n + 2 then F r c else c_gg σ r c := by
  intro j
  induction j with
  | zero =>
    intro lo f σ hrw hsz hpw hxx hyy hlb hk hf
    obtain ⟨f, rfl, hf⟩ := suc_of hf
    rw [f_X1_lay_L32, hrw, if_pos (nI_le (by omega) (by omega))]
    exact ⟨c_tl σ, c_gg σ, by rw [s_tlself], fun r => (if_neg (by omega)).symm, fun r c => (if_neg (by omega)).symm⟩
  | succ j ih =>
    intro lo f σ hrw hsz hpw hxx hyy hlb hk hf
    obtain ⟨f, rfl, hf⟩ := suc_of hf
    obtain ⟨G1, a1, a2⟩ := cLay_in N n hn lo (by omega) v2 v3 (nI n) pw xx yy lb (F lo) (fun c hc => hF1 lo c (by omega) hc) (fun c hc => hF2 lo c (by omega) hc) (2 * n) 0 N (s_tl σ (upd (c_tl σ) lo (nI lo))) (by rw [cs_rw_tl]; exact hrw) (by rw [cs_sz_tl]; exact hsz) (by rw [cs_pw_tl]; exact hpw) (by rw [cs_xx_tl]; exact hxx) (by rw [cs_yy_tl]; exact hyy) (by rw [cs_lb_tl]; exact hlb) (by omega) hN
    rw [nI_0] at a1
    rw [cs_gg_tl] at a2
    have key : ∀ x : Int64, x = F lo (4 * n + 1) → ∃ T G, f_X1_lay_L32 N f v2 v3 (nI n) (nI (lo + 1)) (s_gg (s_gg (s_gg (s_tl σ (upd (c_tl σ) lo (nI lo))) G1) (upG G1 lo (2 * (2 * n)) (-1))) (upG (upG G1 lo (2 * (2 * n)) (-1)) lo (2 * (2 * n) + 1) x)) = some (s_gg (s_tl σ T) G) ∧ (∀ r, T r = if lo ≤ r ∧ r < 2 * n then nI r else c_tl σ r) ∧ ∀ r c, G r c = if lo ≤ r ∧ r < 2 * n ∧ c < 4 * n + 2 then F r c else c_gg σ r c := by
      intro x hx
      rw [ss_gg, ss_gg]
      obtain ⟨T, G, g1, g2, g3⟩ := ih (lo + 1) f (s_gg (s_tl σ (upd (c_tl σ) lo (nI lo))) (upG (upG G1 lo (2 * (2 * n)) (-1)) lo (2 * (2 * n) + 1) x)) (by rw [cs_rw_gg, cs_rw_tl]; exact hrw) (by rw [cs_sz_gg, cs_sz_tl]; exact hsz) (by rw [cs_pw_gg, cs_pw_tl]; exact hpw) (by rw [cs_xx_gg, cs_xx_tl]; exact hxx) (by rw [cs_yy_gg, cs_yy_tl]; exact hyy) (by rw [cs_lb_gg, cs_lb_tl]; exact hlb) (by omega) (by omega)
      refine ⟨T, G, by rw [g1, s_tlgg, s_tltl], fun r => ?_, fun r c => ?_⟩
      · rw [g2, cs_tl_gg, cs_tl_tl, up_i]
        by_cases h1 : lo + 1 ≤ r ∧ r < 2 * n
        · rw [if_pos h1, if_pos (by omega)]
        · rw [if_neg h1]
          by_cases h2 : r = lo
          · rw [if_pos h2, if_pos (by omega), h2]
          · rw [if_neg h2, if_neg (by omega)]
      · rw [g3, cs_gg_gg, upG_i, upG_i, a2]
        by_cases h1 : lo + 1 ≤ r ∧ r < 2 * n ∧ c < 4 * n + 2
        · rw [if_pos h1, if_pos (by omega)]
        · rw [if_neg h1]
          by_cases h2 : r = lo ∧ c = 2 * (2 * n) + 1
          · rw [if_pos h2, if_pos (by omega), h2.1, h2.2, hx, show 2 * (2 * n) + 1 = 4 * n + 1 by omega]
          · rw [if_neg h2]
            by_cases h3 : r = lo ∧ c = 2 * (2 * n)
            · rw [if_pos h3, if_pos (by omega), h3.1, h3.2, show 2 * (2 * n) = 4 * n by omega, hF3 lo (by omega)]
            · rw [if_neg h3]
              by_cases h4 : r = lo ∧ (0 ≤ c ∧ c < 2 * n ∨ 2 * n + 0 ≤ c ∧ c < 4 * n)
              · rw [if_pos h4, if_pos (by omega), h4.1]
              · rw [if_neg h4, if_neg (by omega)]
    rw [f_X1_lay_L32, hrw, if_neg (nI_ge (by omega) (by omega)), gd_n (by omega) (by decide), lt_d, nI_clamp (n := lo) (by omega), a1, bs_d, gd_n (by omega) (by decide), cYs (m := 2 * n) (by rw [cs_rw_gg, cs_rw_tl]; exact hrw), bs_d, gd_n (by omega) (by decide), gd_n (by omega) (by decide), lt_d, gd_n (by omega) (by decide), cQs (m := 2 * n) (by rw [cs_rw_gg, cs_rw_gg, cs_rw_tl]; exact hrw), bs_d, cs_gg_gg, nI_clamp (n := 2 * (2 * n)) (by omega)]
    by_cases h : n ≤ lo
    · rw [if_pos (nI_le h (by omega)), gd_n (by omega) (by decide), gd_n (by omega) (by decide), lt_d, lt_d, cs_gg_gg, nI_1, nI_clamp (n := 2 * (2 * n) + 1) (by omega)]
      exact key _ (by rw [hF4 lo (by omega), if_pos h])
    · rw [if_neg (nI_ge (by omega) (by omega)), gd_n (by omega) (by decide), gd_n (by omega) (by decide), lt_d, lt_d, cs_gg_gg, nI_1, nI_clamp (n := 2 * (2 * n) + 1) (by omega)]
      exact key _ (by rw [hF4 lo (by omega), if_neg h])
/-! and the reference's -/
theorem m_self (ν : MS) : n_tb ν (m_tb ν) = ν := match ν with
  | (_, _, _, _, _, _, _, _, _, _, _, _, _, _, _, _, _, _, _, _) => rfl
theorem mBeg_in (N n : Nat) (hn : n ≤ 6) (r : Nat) (hr : r < 2 * n) (pw : Int32) (xx yy lb : Nat → Int32) (F : Nat → Int64) (hF1 : ∀ c, c < 2 * n → F c = if c = r then 1 else 0) (hF2 : ∀ c, c < 2 * n → F (2 * n + c) = -((mtx n pw xx yy lb r c).toInt64)) : ∀ (j k f : Nat) (μ : MS), m_rw μ = nI (2 * n) → m_pt μ = nI n → m_dg μ = pw → m_px μ = xx → m_py μ = yy → m_lb μ = lb → k + j = 2 * n → j < f →
    ∃ tb, f_X4_begin_L53 N f (nI r) (nI k) μ = some (n_tb μ tb) ∧ ∀ r2 c, c < 26 → tG tb r2 c = if r2 = r ∧ (k ≤ c ∧ c < 2 * n ∨ 2 * n + k ≤ c ∧ c < 4 * n) then F c else tG (m_tb μ) r2 c := by
  intro j
  induction j with
  | zero =>
    intro k f μ hrw hsz hpw hxx hyy hlb hk hf
    obtain ⟨f, rfl, hf⟩ := suc_of hf
    rw [f_X4_begin_L53, hrw, if_pos (nI_le (by omega) (by omega))]
    exact ⟨m_tb μ, by rw [m_self], fun r2 c _ => (if_neg (by omega)).symm⟩
  | succ j ih =>
    intro k f μ hrw hsz hpw hxx hyy hlb hk hf
    obtain ⟨f, rfl, hf⟩ := suc_of hf
    have key : ∀ x : Int64, x = F k → ∃ tb, f_X4_begin_L53 N f (nI r) (nI (k + 1)) (n_tb (n_tb μ (vp_updL (m_tb μ) (26 * r + k) x)) (vp_updL (vp_updL (m_tb μ) (26 * r + k) x) (26 * r + (2 * n + k)) (-((mtx n pw xx yy lb r k).toInt64)))) = some (n_tb μ tb) ∧ ∀ r2 c, c < 26 → tG tb r2 c = if r2 = r ∧ (k ≤ c ∧ c < 2 * n ∨ 2 * n + k ≤ c ∧ c < 4 * n) then F c else tG (m_tb μ) r2 c := by
      intro x hx
      rw [nn_tb]
      obtain ⟨G, g1, g2⟩ := ih (k + 1) f (n_tb μ (vp_updL (vp_updL (m_tb μ) (26 * r + k) x) (26 * r + (2 * n + k)) (-((mtx n pw xx yy lb r k).toInt64)))) (by rw [mn_rw_tb]; exact hrw) (by rw [mn_pt_tb]; exact hsz) (by rw [mn_dg_tb]; exact hpw) (by rw [mn_px_tb]; exact hxx) (by rw [mn_py_tb]; exact hyy) (by rw [mn_lb_tb]; exact hlb) (by omega) (by omega)
      refine ⟨G, by rw [g1, nn_tb], fun r2 c hc => ?_⟩
      rw [g2 r2 c hc, mn_tb_tb, tG_upd _ _ (by omega) hc, upG_i, tG_upd _ _ (by omega) hc, upG_i]
      by_cases hD : r2 = r ∧ (k ≤ c ∧ c < 2 * n ∨ 2 * n + k ≤ c ∧ c < 4 * n)
      · rw [if_pos hD]
        by_cases hA : r2 = r ∧ (k + 1 ≤ c ∧ c < 2 * n ∨ 2 * n + (k + 1) ≤ c ∧ c < 4 * n)
        · rw [if_pos hA]
        · rw [if_neg hA]
          by_cases hB : r2 = r ∧ c = 2 * n + k
          · rw [if_pos hB, hB.2, hF2 k (by omega)]
          · have hC : r2 = r ∧ c = k := by omega
            rw [if_neg hB, if_pos hC, hC.2, hx]
      · rw [if_neg hD, if_neg (by omega), if_neg (by omega), if_neg (by omega)]
    rw [f_X4_begin_L53, hrw, if_neg (nI_ge (by omega) (by omega))]
    by_cases e : k = r
    · rw [if_pos (by rw [e]), ix26, gd_n (by omega) (by decide), lt_d, mMx hn hr (by omega) _ (by rw [mn_pt_tb]; exact hsz), bs_d, mn_rw_tb, hrw, ix26, nI_add, gd_n (by omega) (by decide), lt_d, lt_d, nI_1, nI_clamp (n := 26 * r + k) (by omega), nI_clamp (n := 26 * r + 2 * n + k) (by omega), mn_tb_tb, mn_dg_tb, mn_px_tb, mn_py_tb, mn_lb_tb, hpw, hxx, hyy, hlb, Nat.add_assoc (26 * r) (2 * n) k]
      exact key 1 (by rw [hF1 k (by omega), if_pos e])
    · rw [if_neg (fun z => e ((nI_eq (by omega) (by omega)).mp z)), ix26, gd_n (by omega) (by decide), lt_d, mMx hn hr (by omega) _ (by rw [mn_pt_tb]; exact hsz), bs_d, mn_rw_tb, hrw, ix26, nI_add, gd_n (by omega) (by decide), lt_d, lt_d, nI_1, nI_clamp (n := 26 * r + k) (by omega), nI_clamp (n := 26 * r + 2 * n + k) (by omega), mn_tb_tb, mn_dg_tb, mn_px_tb, mn_py_tb, mn_lb_tb, hpw, hxx, hyy, hlb, Nat.add_assoc (26 * r) (2 * n) k]
      exact key 0 (by rw [hF1 k (by omega), if_neg e])
theorem n_tltb (σ : MS) (G G2 : Nat → Int64) (T : Nat → Int32) : n_tb (n_tl (n_tb σ G) T) G2 = n_tb (n_tl σ T) G2 := match σ with
  | (_, _, _, _, _, _, _, _, _, _, _, _, _, _, _, _, _, _, _, _) => by simp only [n_tl, n_tb]
theorem n_tltl (σ : MS) (G2 : Nat → Int64) (T T2 : Nat → Int32) : n_tb (n_tl (n_tl σ T) T2) G2 = n_tb (n_tl σ T2) G2 := match σ with
  | (_, _, _, _, _, _, _, _, _, _, _, _, _, _, _, _, _, _, _, _) => by simp only [n_tl, n_tb]
theorem n_tlself (σ : MS) : n_tb (n_tl σ (m_tl σ)) (m_tb σ) = σ := match σ with
  | (_, _, _, _, _, _, _, _, _, _, _, _, _, _, _, _, _, _, _, _) => rfl
theorem mBeg_L (N n : Nat) (hN : 2 * n < N) (hn : n ≤ 6) (v2 v3 pw : Int32) (xx yy lb : Nat → Int32) (F : Nat → Nat → Int64) (hF1 : ∀ r c, r < 2 * n → c < 2 * n → F r c = if c = r then 1 else 0) (hF2 : ∀ r c, r < 2 * n → c < 2 * n → F r (2 * n + c) = -((mtx n pw xx yy lb r c).toInt64)) (hF3 : ∀ r, r < 2 * n → F r (4 * n) = -1) (hF4 : ∀ r, r < 2 * n → F r (4 * n + 1) = if n ≤ r then v2.toInt64 else (-v3).toInt64) : ∀ (j lo f : Nat) (μ : MS), m_rw μ = nI (2 * n) → m_pt μ = nI n → m_dg μ = pw → m_px μ = xx → m_py μ = yy → m_lb μ = lb → m_bA μ = v2 → m_bB μ = v3 → lo + j = 2 * n → j < f →
    ∃ T tb, f_X4_begin_L36 N f (nI lo) μ = some (nI (2 * n), n_tb (n_tl μ T) tb) ∧ (∀ r, T r = if lo ≤ r ∧ r < 2 * n then nI r else m_tl μ r) ∧ ∀ r c, c < 26 → tG tb r c = if lo ≤ r ∧ r < 2 * n ∧ c < 4 * n + 2 then F r c else tG (m_tb μ) r c := by
  intro j
  induction j with
  | zero =>
    intro lo f μ hrw hsz hpw hxx hyy hlb hA hB hk hf
    obtain ⟨f, rfl, hf⟩ := suc_of hf
    rw [f_X4_begin_L36, hrw, if_pos (nI_le (by omega) (by omega))]
    exact ⟨m_tl μ, m_tb μ, by rw [n_tlself], fun r => (if_neg (by omega)).symm, fun r c _ => (if_neg (by omega)).symm⟩
  | succ j ih =>
    intro lo f μ hrw hsz hpw hxx hyy hlb hA hB hk hf
    obtain ⟨f, rfl, hf⟩ := suc_of hf
    obtain ⟨G1, a1, a2⟩ := mBeg_in N n hn lo (by omega) pw xx yy lb (F lo) (fun c hc => hF1 lo c (by omega) hc) (fun c hc => hF2 lo c (by omega) hc) (2 * n) 0 N (n_tl μ (upd (m_tl μ) lo (nI lo))) (by rw [mn_rw_tl]; exact hrw) (by rw [mn_pt_tl]; exact hsz) (by rw [mn_dg_tl]; exact hpw) (by rw [mn_px_tl]; exact hxx) (by rw [mn_py_tl]; exact hyy) (by rw [mn_lb_tl]; exact hlb) (by omega) hN
    rw [nI_0] at a1
    rw [mn_tb_tl] at a2
    have key : ∀ x : Int64, x = F lo (4 * n + 1) → ∃ T tb, f_X4_begin_L36 N f (nI (lo + 1)) (n_tb (n_tb (n_tb (n_tl μ (upd (m_tl μ) lo (nI lo))) G1) (vp_updL G1 (26 * lo + 2 * (2 * n)) (-1))) (vp_updL (vp_updL G1 (26 * lo + 2 * (2 * n)) (-1)) (26 * lo + (2 * (2 * n) + 1)) x)) = some (nI (2 * n), n_tb (n_tl μ T) tb) ∧ (∀ r, T r = if lo ≤ r ∧ r < 2 * n then nI r else m_tl μ r) ∧ ∀ r c, c < 26 → tG tb r c = if lo ≤ r ∧ r < 2 * n ∧ c < 4 * n + 2 then F r c else tG (m_tb μ) r c := by
      intro x hx
      rw [nn_tb, nn_tb]
      obtain ⟨T, G, g1, g2, g3⟩ := ih (lo + 1) f (n_tb (n_tl μ (upd (m_tl μ) lo (nI lo))) (vp_updL (vp_updL G1 (26 * lo + 2 * (2 * n)) (-1)) (26 * lo + (2 * (2 * n) + 1)) x)) (by rw [mn_rw_tb, mn_rw_tl]; exact hrw) (by rw [mn_pt_tb, mn_pt_tl]; exact hsz) (by rw [mn_dg_tb, mn_dg_tl]; exact hpw) (by rw [mn_px_tb, mn_px_tl]; exact hxx) (by rw [mn_py_tb, mn_py_tl]; exact hyy) (by rw [mn_lb_tb, mn_lb_tl]; exact hlb) (by rw [mn_bA_tb, mn_bA_tl]; exact hA) (by rw [mn_bB_tb, mn_bB_tl]; exact hB) (by omega) (by omega)
      refine ⟨T, G, by rw [g1, n_tltb, n_tltl], fun r => ?_, fun r c hc => ?_⟩
      · rw [g2, mn_tl_tb, mn_tl_tl, up_i]
        by_cases h1 : lo + 1 ≤ r ∧ r < 2 * n
        · rw [if_pos h1, if_pos (by omega)]
        · rw [if_neg h1]
          by_cases h2 : r = lo
          · rw [if_pos h2, if_pos (by omega), h2]
          · rw [if_neg h2, if_neg (by omega)]
      · rw [g3 r c hc, mn_tb_tb, tG_upd _ _ (by omega) hc, upG_i, tG_upd _ _ (by omega) hc, upG_i, a2 r c hc]
        by_cases h1 : lo + 1 ≤ r ∧ r < 2 * n ∧ c < 4 * n + 2
        · rw [if_pos h1, if_pos (by omega)]
        · rw [if_neg h1]
          by_cases h2 : r = lo ∧ c = 2 * (2 * n) + 1
          · rw [if_pos h2, if_pos (by omega), h2.1, h2.2, hx, show 2 * (2 * n) + 1 = 4 * n + 1 by omega]
          · rw [if_neg h2]
            by_cases h3 : r = lo ∧ c = 2 * (2 * n)
            · rw [if_pos h3, if_pos (by omega), h3.1, h3.2, show 2 * (2 * n) = 4 * n by omega, hF3 lo (by omega)]
            · rw [if_neg h3]
              by_cases h4 : r = lo ∧ (0 ≤ c ∧ c < 2 * n ∨ 2 * n + 0 ≤ c ∧ c < 4 * n)
              · rw [if_pos h4, if_pos (by omega), h4.1]
              · rw [if_neg h4, if_neg (by omega)]
    rw [f_X4_begin_L36, hrw, if_neg (nI_ge (by omega) (by omega)), gd_n (by omega) (by decide), lt_d, nI_clamp (n := lo) (by omega), a1, bs_d, mn_rw_tb, mn_rw_tl, hrw, nI_2, ix26, gd_n (by omega) (by decide), lt_d, mQs (m := 2 * n) (by rw [mn_rw_tb, mn_rw_tb, mn_rw_tl]; exact hrw), bs_d, mn_pt_tb, mn_pt_tb, mn_pt_tl, hsz, mn_bA_tb, mn_bA_tb, mn_bA_tl, hA, mn_bB_tb, mn_bB_tb, mn_bB_tl, hB, mn_tb_tb, nI_clamp (n := 26 * lo + 2 * (2 * n)) (by omega)]
    by_cases h : n ≤ lo
    · rw [if_pos (nI_le h (by omega)), ix26, gd_n (by omega) (by decide), lt_d, lt_d, mn_tb_tb, nI_1, nI_clamp (n := 26 * lo + (2 * (2 * n) + 1)) (by omega)]
      exact key _ (by rw [hF4 lo (by omega), if_pos h])
    · rw [if_neg (nI_ge (by omega) (by omega)), ix26, gd_n (by omega) (by decide), lt_d, lt_d, mn_tb_tb, nI_1, nI_clamp (n := 26 * lo + (2 * (2 * n) + 1)) (by omega)]
      exact key _ (by rw [hF4 lo (by omega), if_neg h])

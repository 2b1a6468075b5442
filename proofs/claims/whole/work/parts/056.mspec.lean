/-! the reference's scratch -/
def sM (μ μ2 : MS) : Prop := ∃ x y : Int64, μ2 = n_lo (n_hi μ x) y
theorem n_nn (ν : MS) (x y z w : Int64) : n_lo (n_hi (n_lo (n_hi ν x) y) z) w = n_lo (n_hi ν z) w := match ν with
  | (_a0, _a1, _a2, _a3, _a4, _a5, _a6, _a7, _a8, _a9, _a10, _a11, _a12, _a13, _a14, _a15, _a16, _a17, _a18, _a19) => by simp only [n_lo, n_hi]
theorem n_self (ν : MS) : ν = n_lo (n_hi ν (m_hi ν)) (m_lo ν) := match ν with
  | (_, _, _, _, _, _, _, _, _, _, _, _, _, _, _, _, _, _, _, _) => rfl
theorem sM_rf (μ : MS) : sM μ μ := ⟨_, _, n_self μ⟩
theorem sM_tr {μ ν ξ : MS} (h1 : sM μ ν) (h2 : sM ν ξ) : sM μ ξ := by
  obtain ⟨x, y, rfl⟩ := h1
  obtain ⟨z, w, rfl⟩ := h2
  exact ⟨z, w, n_nn μ x y z w⟩
theorem sM_pt {μ ν : MS} (h : sM μ ν) : m_pt ν = m_pt μ := by
  obtain ⟨x, y, rfl⟩ := h
  rw [mn_pt_lo, mn_pt_hi]
theorem sM_dg {μ ν : MS} (h : sM μ ν) : m_dg ν = m_dg μ := by
  obtain ⟨x, y, rfl⟩ := h
  rw [mn_dg_lo, mn_dg_hi]
theorem sM_bA {μ ν : MS} (h : sM μ ν) : m_bA ν = m_bA μ := by
  obtain ⟨x, y, rfl⟩ := h
  rw [mn_bA_lo, mn_bA_hi]
theorem sM_bB {μ ν : MS} (h : sM μ ν) : m_bB ν = m_bB μ := by
  obtain ⟨x, y, rfl⟩ := h
  rw [mn_bB_lo, mn_bB_hi]
theorem sM_px {μ ν : MS} (h : sM μ ν) : m_px ν = m_px μ := by
  obtain ⟨x, y, rfl⟩ := h
  rw [mn_px_lo, mn_px_hi]
theorem sM_py {μ ν : MS} (h : sM μ ν) : m_py ν = m_py μ := by
  obtain ⟨x, y, rfl⟩ := h
  rw [mn_py_lo, mn_py_hi]
theorem sM_lb {μ ν : MS} (h : sM μ ν) : m_lb ν = m_lb μ := by
  obtain ⟨x, y, rfl⟩ := h
  rw [mn_lb_lo, mn_lb_hi]
theorem sM_bg {μ ν : MS} (h : sM μ ν) : m_bg ν = m_bg μ := by
  obtain ⟨x, y, rfl⟩ := h
  rw [mn_bg_lo, mn_bg_hi]
theorem sM_dn {μ ν : MS} (h : sM μ ν) : m_dn ν = m_dn μ := by
  obtain ⟨x, y, rfl⟩ := h
  rw [mn_dn_lo, mn_dn_hi]
theorem sM_ry {μ ν : MS} (h : sM μ ν) : m_ry ν = m_ry μ := by
  obtain ⟨x, y, rfl⟩ := h
  rw [mn_ry_lo, mn_ry_hi]
theorem sM_rw {μ ν : MS} (h : sM μ ν) : m_rw ν = m_rw μ := by
  obtain ⟨x, y, rfl⟩ := h
  rw [mn_rw_lo, mn_rw_hi]
theorem sM_tb {μ ν : MS} (h : sM μ ν) : m_tb ν = m_tb μ := by
  obtain ⟨x, y, rfl⟩ := h
  rw [mn_tb_lo, mn_tb_hi]
theorem sM_bl {μ ν : MS} (h : sM μ ν) : m_bl ν = m_bl μ := by
  obtain ⟨x, y, rfl⟩ := h
  rw [mn_bl_lo, mn_bl_hi]
theorem sM_tl {μ ν : MS} (h : sM μ ν) : m_tl ν = m_tl μ := by
  obtain ⟨x, y, rfl⟩ := h
  rw [mn_tl_lo, mn_tl_hi]
theorem sM_st {μ ν : MS} (h : sM μ ν) : m_st ν = m_st μ := by
  obtain ⟨x, y, rfl⟩ := h
  rw [mn_st_lo, mn_st_hi]
theorem sM_en {μ ν : MS} (h : sM μ ν) : m_en ν = m_en μ := by
  obtain ⟨x, y, rfl⟩ := h
  rw [mn_en_lo, mn_en_hi]
theorem sM_lf {μ ν : MS} (h : sM μ ν) : m_lf ν = m_lf μ := by
  obtain ⟨x, y, rfl⟩ := h
  rw [mn_lf_lo, mn_lf_hi]
theorem sM_la {μ ν : MS} (h : sM μ ν) : m_la ν = m_la μ := by
  obtain ⟨x, y, rfl⟩ := h
  rw [mn_la_lo, mn_la_hi]
theorem mcrS_e (a b c d : Int64) (μ : MS) : ∃ p : Int32 × MS, f_X4_signOfCross a b c d μ = some p ∧ p.1 = sgI (a.toInt * b.toInt - c.toInt * d.toInt) ∧ sM μ p.2 := by
  obtain ⟨a0, a1, a2, a3, a4, a5, a6, a7, a8, a9, a10, a11, a12, a13, a14, a15, a16, a17, a18, a19⟩ := μ
  exact ⟨_, mcrS a b c d a0 a1 a2 a3 a4 a5 a6 a7 a8 a9 a10 a11 a12 a13 a14 a15 a16 a17 a18 a19, rfl, hiX a b c d, a * b - c * d, rfl⟩
def tG (tb : Nat → Int64) : Nat → Nat → Int64 := fun r c => tb (26 * r + c)
theorem ix26 (r c : Nat) : ((26 : Int32) * nI r) + nI c = nI (26 * r + c) := by
  rw [show (26 : Int32) = nI 26 from rfl, pk_mul, nI_add]
theorem mQs {m : Nat} {μ : MS} (hrw : m_rw μ = nI m) : f_X4_columnQ μ = some (nI (2 * m + 1)) := by
  rw [f_X4_columnQ, hrw, nI_2, nI_1]
theorem nI_lem1 {m : Nat} (h : m < 2 ^ 31) : ¬ nI m ≤ (-1 : Int32) := fun q => by
  rw [Int32.le_iff_toInt_le, nI_toInt h] at q
  have e : (-1 : Int32).toInt = -1 := rfl
  omega
theorem b01_lt (z : Int) : b01 (decide (z < 0)) = (if z < 0 then (1 : Int32) else 0) := by
  unfold b01
  simp only [decide_eq_true_eq]
theorem mLess_L (N m r s : Nat) (hm : m ≤ 12) (hr : r < m) (hs : s < m) (wr ws : Int64) : ∀ (j k n : Nat) (μ : MS), m_rw μ = nI m → k + j = m → j < n →
    ∃ q : Int32 × MS, f_X4_isLess_L47 N n (nI r) (nI s) wr ws (nI k) μ = some q ∧ q.1 = b01 (decide (fz (fun c => gI (tG (m_tb μ)) r c * ws.toInt - gI (tG (m_tb μ)) s c * wr.toInt) j k < 0)) ∧ sM μ q.2 := by
  intro j
  induction j with
  | zero =>
    intro k n μ hrw hk hn
    obtain ⟨n, rfl, hn⟩ := suc_of hn
    rw [f_X4_isLess_L47, hrw, if_pos (nI_le (by omega) (by omega))]
    exact ⟨_, rfl, rfl, sM_rf μ⟩
  | succ j ih =>
    intro k n μ hrw hk hn
    obtain ⟨n, rfl, hn⟩ := suc_of hn
    rw [f_X4_isLess_L47, hrw, if_neg (nI_ge (by omega) (by omega)), if_pos (nI_pos' (by omega)), ix26, ix26, gd_n (by omega) (by decide), gd_n (by omega) (by decide), nI_clamp (n := 26 * r + k) (by omega), nI_clamp (n := 26 * s + k) (by omega)]
    obtain ⟨p, hp, h1, h2⟩ := mcrS_e (m_tb μ (26 * r + k)) ws (m_tb μ (26 * s + k)) wr μ
    have h1 : p.1 = sgI (gI (tG (m_tb μ)) r k * ws.toInt - gI (tG (m_tb μ)) s k * wr.toInt) := h1
    rw [hp, bs_d, h1, fz]
    by_cases e : gI (tG (m_tb μ)) r k * ws.toInt - gI (tG (m_tb μ)) s k * wr.toInt = 0
    · rw [if_pos ((sgI_0 _).mpr e), lt_d, nI_1]
      obtain ⟨q, g1, g2, g3⟩ := ih (k + 1) n p.2 (by rw [sM_rw h2]; exact hrw) (by omega) (by omega)
      refine ⟨q, g1, ?_, sM_tr h2 g3⟩
      rw [g2, sM_tb h2, if_pos e]
    · rw [if_neg (fun z => e ((sgI_0 _).mp z)), if_neg e]
      rw [b01_lt]
      by_cases hz : gI (tG (m_tb μ)) r k * ws.toInt - gI (tG (m_tb μ)) s k * wr.toInt < 0
      · rw [if_neg (fun q => (sgI_ge _).mp q hz)]
        exact ⟨_, rfl, (if_pos hz).symm, h2⟩
      · rw [if_pos ((sgI_ge _).mpr hz)]
        exact ⟨_, rfl, (if_neg hz).symm, h2⟩
theorem mLess_1 (N m r s : Nat) (hN : m + 1 < N) (hm : m ≤ 12) (hr : r < m) (hs : s < m) (wr ws : Int64) (μ : MS) (hrw : m_rw μ = nI m) :
    ∃ q : Int32 × MS, f_X4_isLess_L47 N N (nI r) (nI s) wr ws (-1 : Int32) μ = some q ∧ q.1 = b01 (lsB (gI (tG (m_tb μ))) wr.toInt ws.toInt m r s) ∧ sM μ q.2 := by
  obtain ⟨N2, hN2⟩ : ∃ q, N = q + 1 := ⟨N - 1, by omega⟩
  have hu : ∀ M, N = M + 1 → f_X4_isLess_L47 N N (nI r) (nI s) wr ws (-1 : Int32) μ = f_X4_isLess_L47 N (M + 1) (nI r) (nI s) wr ws (-1 : Int32) μ := fun M h => by rw [← h]
  rw [hu N2 hN2, f_X4_isLess_L47, hrw, if_neg (nI_lem1 (by omega)), if_neg (by decide), mQs hrw, bs_d, ix26, ix26, gd_n (by omega) (by decide), gd_n (by omega) (by decide), nI_clamp (n := 26 * r + (2 * m + 1)) (by omega), nI_clamp (n := 26 * s + (2 * m + 1)) (by omega)]
  obtain ⟨p, hp, h1, h2⟩ := mcrS_e (m_tb μ (26 * r + (2 * m + 1))) ws (m_tb μ (26 * s + (2 * m + 1))) wr μ
  have h1 : p.1 = sgI (gI (tG (m_tb μ)) r (2 * m + 1) * ws.toInt - gI (tG (m_tb μ)) s (2 * m + 1) * wr.toInt) := h1
  rw [hp, bs_d, h1]
  unfold lsB lsz
  by_cases e : gI (tG (m_tb μ)) r (2 * m + 1) * ws.toInt - gI (tG (m_tb μ)) s (2 * m + 1) * wr.toInt = 0
  · rw [if_pos ((sgI_0 _).mpr e), lt_d, show (-1 : Int32) + (1 : Int32) = nI 0 from by decide]
    obtain ⟨q, g1, g2, g3⟩ := mLess_L N m r s hm hr hs wr ws m 0 N2 p.2 (by rw [sM_rw h2]; exact hrw) (by omega) (by omega)
    refine ⟨q, g1, ?_, sM_tr h2 g3⟩
    rw [g2, sM_tb h2, if_pos e]
  · rw [if_neg (fun z => e ((sgI_0 _).mp z)), if_neg e, b01_lt]
    by_cases hz : gI (tG (m_tb μ)) r (2 * m + 1) * ws.toInt - gI (tG (m_tb μ)) s (2 * m + 1) * wr.toInt < 0
    · rw [if_neg (fun q => (sgI_ge _).mp q hz)]
      exact ⟨_, rfl, (if_pos hz).symm, h2⟩
    · rw [if_pos ((sgI_ge _).mpr hz)]
      exact ⟨_, rfl, (if_neg hz).symm, h2⟩
theorem one64 : (1 : Int64).toInt = 1 := rfl
theorem mLess (N m r s col : Nat) (hN : m + 1 < N) (hm : m ≤ 12) (hr : r < m) (hs : s < m) (hc : col < 26) (μ : MS) (hrw : m_rw μ = nI m) :
    ∃ q : Int32 × MS, f_X4_isLess N (nI r) (nI s) (nI col) μ = some q ∧ q.1 = b01 (lsB (gI (tG (m_tb μ))) (gI (tG (m_tb μ)) r col) (gI (tG (m_tb μ)) s col) m r s) ∧ sM μ q.2 := by
  rw [f_X4_isLess, if_neg (nI_nm1 (by omega)), ix26, ix26, gd_n (by omega) (by decide), lt_d, if_neg (nI_nm1 (by omega)), gd_n (by omega) (by decide), lt_d, nI_clamp (n := 26 * r + col) (by omega), nI_clamp (n := 26 * s + col) (by omega)]
  exact mLess_1 N m r s hN hm hr hs _ _ μ hrw
theorem mLess0 (N m r s : Nat) (hN : m + 1 < N) (hm : m ≤ 12) (hr : r < m) (hs : s < m) (μ : MS) (hrw : m_rw μ = nI m) :
    ∃ q : Int32 × MS, f_X4_isLess N (nI r) (nI s) (-1 : Int32) μ = some q ∧ q.1 = b01 (lsB (gI (tG (m_tb μ))) 1 1 m r s) ∧ sM μ q.2 := by
  rw [f_X4_isLess, if_pos rfl, if_pos rfl]
  have h := mLess_1 N m r s hN hm hr hs 1 1 μ hrw
  rw [one64] at h
  exact h
theorem mLr_L (N m col : Nat) (hN : m + 1 < N) (hm : m ≤ 12) (hc : col < 26) (lt : Int32) : ∀ (j r n : Nat) (b : Option Nat) (μ : MS), m_rw μ = nI m → r + j = m → j < n → (∀ q, b = some q → q < m) →
    ∃ (μ2 : MS) (n2 : Nat), sM μ μ2 ∧ f_X4_does_L72 N n lt (nI col) (oI b) (nI r) μ = f_X4_does_L72 N (n2 + 1) lt (nI col) (oI (lr (fun r => (wt (m_st μ) (tG (m_tb μ)) col r).toInt) (fun r s => lsB (gI (tG (m_tb μ))) (wt (m_st μ) (tG (m_tb μ)) col r).toInt (wt (m_st μ) (tG (m_tb μ)) col s).toInt m r s) j r b)) (nI m) μ2 := by
  intro j
  induction j with
  | zero =>
    intro r n b μ hrw hk hn hb
    obtain ⟨n, rfl, hn⟩ := suc_of hn
    have e : r = m := by omega
    subst e
    exact ⟨μ, n, sM_rf μ, by rw [lr]⟩
  | succ j ih =>
    intro r n b μ hrw hk hn hb
    obtain ⟨n, rfl, hn⟩ := suc_of hn
    have go : ∀ (b2 : Option Nat) (μ2 : MS), sM μ μ2 → (∀ q, b2 = some q → q < m) → (lr (fun r => (wt (m_st μ) (tG (m_tb μ)) col r).toInt) (fun r s => lsB (gI (tG (m_tb μ))) (wt (m_st μ) (tG (m_tb μ)) col r).toInt (wt (m_st μ) (tG (m_tb μ)) col s).toInt m r s) (j + 1) r b = lr (fun r => (wt (m_st μ) (tG (m_tb μ)) col r).toInt) (fun r s => lsB (gI (tG (m_tb μ))) (wt (m_st μ) (tG (m_tb μ)) col r).toInt (wt (m_st μ) (tG (m_tb μ)) col s).toInt m r s) j (r + 1) b2) →
        ∃ (μ3 : MS) (n2 : Nat), sM μ μ3 ∧ f_X4_does_L72 N n lt (nI col) (oI b2) (nI r + (1 : Int32)) μ2 = f_X4_does_L72 N (n2 + 1) lt (nI col) (oI (lr (fun r => (wt (m_st μ) (tG (m_tb μ)) col r).toInt) (fun r s => lsB (gI (tG (m_tb μ))) (wt (m_st μ) (tG (m_tb μ)) col r).toInt (wt (m_st μ) (tG (m_tb μ)) col s).toInt m r s) (j + 1) r b)) (nI m) μ3 := by
      intro b2 μ2 h1 h2 h3
      obtain ⟨μ3, n2, g1, g2⟩ := ih (r + 1) n b2 μ2 (by rw [sM_rw h1]; exact hrw) (by omega) (by omega) h2
      rw [sM_st h1, sM_tb h1] at g2
      exact ⟨μ3, n2, sM_tr h1 g1, by rw [nI_1, g2, h3]⟩
    rw [f_X4_does_L72, hrw, if_neg (nI_ge (by omega) (by omega))]
    by_cases hst : m_st μ = 0
    · have hw : ∀ q, wt (m_st μ) (tG (m_tb μ)) col q = 1 := fun q => if_pos hst
      rw [if_pos hst]
      cases b with
      | none =>
        rw [show oI none = (-1 : Int32) from rfl, if_pos rfl, lt_d]
        exact go (some r) μ (sM_rf μ) (fun q h => by cases h; omega) (by rw [lr, lp_no (by rw [hw]; decide)])
      | some q =>
        have hq := hb q rfl
        rw [show oI (some q) = nI q from rfl, if_neg (nI_nm1 (by omega)), if_pos hst]
        obtain ⟨p, hp, h1, h2⟩ := mLess0 N m r q hN hm (by omega) hq μ hrw
        rw [hp, bs_d, h1]
        by_cases hl : lsB (gI (tG (m_tb μ))) 1 1 m r q = true
        · rw [if_neg (fun z => (b01_0 _).mp z hl), lt_d]
          exact go (some r) p.2 h2 (fun q h => by cases h; omega) (by rw [lr, lp_t (by rw [hw]; decide) (by rw [hw, hw, one64]; exact hl)])
        · rw [if_pos ((b01_0 _).mpr hl), lt_d]
          exact go (some q) p.2 h2 (fun q h => by cases h; omega) (by rw [lr, lp_f (by rw [hw]; decide) (by rw [hw, hw, one64]; exact hl)])
    · have hw : ∀ q, wt (m_st μ) (tG (m_tb μ)) col q = tG (m_tb μ) q col := fun q => if_neg hst
      rw [if_neg hst, ix26, gd_n (by omega) (by decide), nI_clamp (n := 26 * r + col) (by omega), show m_tb μ (26 * r + col) = tG (m_tb μ) r col from rfl]
      by_cases hw0 : (tG (m_tb μ) r col).toInt ≤ 0
      · rw [if_pos ((i64_le0 _).mpr hw0), lt_d]
        exact go b μ (sM_rf μ) hb (by rw [lr, lp_le (by rw [hw]; exact hw0)])
      · rw [if_neg (fun z => hw0 ((i64_le0 _).mp z))]
        cases b with
        | none =>
          rw [show oI none = (-1 : Int32) from rfl, if_pos rfl, lt_d]
          exact go (some r) μ (sM_rf μ) (fun q h => by cases h; omega) (by rw [lr, lp_no (by rw [hw]; exact hw0)])
        | some q =>
          have hq := hb q rfl
          rw [show oI (some q) = nI q from rfl, if_neg (nI_nm1 (by omega)), if_neg hst]
          obtain ⟨p, hp, h1, h2⟩ := mLess N m r q col hN hm (by omega) hq hc μ hrw
          rw [hp, bs_d, h1]
          by_cases hl : lsB (gI (tG (m_tb μ))) (gI (tG (m_tb μ)) r col) (gI (tG (m_tb μ)) q col) m r q = true
          · rw [if_neg (fun z => (b01_0 _).mp z hl), lt_d]
            have hl2 : lsB (gI (tG (m_tb μ))) (tG (m_tb μ) r col).toInt (tG (m_tb μ) q col).toInt m r q = true := hl
            exact go (some r) p.2 h2 (fun q h => by cases h; omega) (by rw [lr, lp_t (by rw [hw]; exact hw0) (by rw [hw, hw]; exact hl2)])
          · rw [if_pos ((b01_0 _).mpr hl), lt_d]
            have hl2 : ¬ lsB (gI (tG (m_tb μ))) (tG (m_tb μ) r col).toInt (tG (m_tb μ) q col).toInt m r q = true := hl
            exact go (some q) p.2 h2 (fun q h => by cases h; omega) (by rw [lr, lp_f (by rw [hw]; exact hw0) (by rw [hw, hw]; exact hl2)])

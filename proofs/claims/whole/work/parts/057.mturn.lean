/-! the reference: divided, turned -/
theorem msh_L (N : Nat) (μ : MS) : ∀ (e t n k : Nat), e < n → 2 ^ e * (2 * k + 1) < 2 ^ 63 → ∃ n2, f_X4_shared_L5 N n (nI t) (lN (2 ^ e * (2 * k + 1))) μ = f_X4_shared_L5 N (n2 + 1) (nI (t + e)) (lN (2 * k + 1)) μ := by
  intro e
  induction e with
  | zero =>
    intro t n k hn hlt
    obtain ⟨n, rfl, hn⟩ := suc_of hn
    exact ⟨n, by rw [Nat.pow_zero, Nat.one_mul]; rfl⟩
  | succ e ih =>
    intro t n k hn hlt
    obtain ⟨n, rfl, hn⟩ := suc_of hn
    have h2 : 2 ^ (e + 1) * (2 * k + 1) = 2 * (2 ^ e * (2 * k + 1)) := by rw [Nat.pow_succ, Nat.mul_comm (2 ^ e) 2, Nat.mul_assoc]
    have hb : 2 ^ e * (2 * k + 1) < 2 ^ 63 := by omega
    obtain ⟨n2, g⟩ := ih (t + 1) n k (by omega) hb
    refine ⟨n2, ?_⟩
    have hs : lN (2 ^ (e + 1) * (2 * k + 1)) >>> ((1 : Int32).toInt64 &&& 63) = lN (2 ^ e * (2 * k + 1)) := by
      apply Int64.toInt_inj.mp
      have q := sh_r (lN (2 ^ (e + 1) * (2 * k + 1))) (k := 1) (by decide)
      rw [show (1 : Int32) = nI 1 from rfl, q, pk_lT (by omega), pk_lT (by omega), h2]
      omega
    have hz : lN (2 ^ (e + 1) * (2 * k + 1)) &&& (1 : Int64) = 0 := by
      rw [wb_a1 (by omega), h2, Nat.mul_mod_right]
      rfl
    rw [f_X4_shared_L5, if_pos (by rw [hz]; decide), lt_d, lt_d, hs, nI_1, g, Nat.add_assoc, Nat.add_comm 1 e]
theorem mSh {N : Nat} (hN : 70 < N) {S : Nat} (hS0 : 0 < S) (hS : S < 2 ^ 63) (X Z : Int) (hX : X = S * Z) (μ : MS) (hhi : m_hi μ = Int64.ofInt (X / 18446744073709551616)) (hlo : m_lo μ = Int64.ofInt X) : f_X4_shared N (lN S) μ = some (Int64.ofInt Z) := by
  obtain ⟨e, k, hk⟩ := two_odd S hS0
  have he := two_lt hk hS
  obtain ⟨n2, g⟩ := msh_L N μ e 0 N k (by omega) (by rw [← hk]; exact hS)
  rw [← hk, Nat.zero_add, nI_0] at g
  have hko : 2 * k + 1 < 2 ^ 63 := by
    have h2 : 1 * (2 * k + 1) ≤ 2 ^ e * (2 * k + 1) := Nat.mul_le_mul_right _ (Nat.pow_pos (by decide))
    omega
  have ho : lN (2 * k + 1) = Int64.ofInt (2 * (k : Int) + 1) := by rw [lN_oi]; congr 1
  have hodd : ¬ lg_cmp (lN (2 * k + 1) &&& (1 : Int64)) (0 : Int64) = 0 := by
    rw [wb_a1 (by omega), show (2 * k + 1) % 2 = 1 by omega]
    decide
  obtain ⟨w, hw1, hw2⟩ := minv_L N (lN (2 * k + 1)) (Int64.ofInt (X / 2 ^ e)) μ 6 N (lN (2 * k + 1)) 0 3 rfl (by omega) (by rw [ho]; exact near_odd k)
  have hw3 := near_one (by decide) hw2
  rw [ho] at hw3
  have hX2 : X = 2 ^ e * ((2 * (k : Int) + 1) * Z) := by
    rw [hX, hk]
    push_cast
    rw [Int.mul_assoc]
  rw [cellZ hw3 hX2, nI_0] at hw1
  have hsl := shl_s X (e := e) (by omega)
  rw [f_X2_shiftedLow] at hsl
  rw [f_X4_shared, g, f_X4_shared_L5, if_neg hodd, hhi, hlo]
  by_cases h0 : nI e = 0
  · rw [if_pos h0] at hsl ⊢
    rw [lt_d, sm_e hsl.symm, hw1]
  · rw [if_neg h0] at hsl ⊢
    rw [lt_d, sm_e hsl.symm, hw1]
def sT (μ μ2 : MS) : Prop := ∃ (tb : Nat → Int64) (x y : Int64), μ2 = n_lo (n_hi (n_tb μ tb) x) y
theorem n_tlh (ν : MS) (x y : Int64) (tb : Nat → Int64) : n_tb (n_lo (n_hi ν x) y) tb = n_lo (n_hi (n_tb ν tb) x) y := match ν with
  | (_, _, _, _, _, _, _, _, _, _, _, _, _, _, _, _, _, _, _, _) => by simp only [n_lo, n_hi, n_tb]
theorem n_t3 (ν : MS) (x y z w : Int64) (t1 t2 : Nat → Int64) : n_lo (n_hi (n_tb (n_lo (n_hi (n_tb ν t1) x) y) t2) z) w = n_lo (n_hi (n_tb ν t2) z) w := match ν with
  | (_, _, _, _, _, _, _, _, _, _, _, _, _, _, _, _, _, _, _, _) => by simp only [n_lo, n_hi, n_tb]
theorem n_tself (ν : MS) : ν = n_lo (n_hi (n_tb ν (m_tb ν)) (m_hi ν)) (m_lo ν) := match ν with
  | (_, _, _, _, _, _, _, _, _, _, _, _, _, _, _, _, _, _, _, _) => rfl
theorem sT_rf (μ : MS) : sT μ μ := ⟨_, _, _, n_tself μ⟩
theorem sT_tr {μ ν ξ : MS} (h1 : sT μ ν) (h2 : sT ν ξ) : sT μ ξ := by
  obtain ⟨t1, x, y, rfl⟩ := h1
  obtain ⟨t2, z, w, rfl⟩ := h2
  exact ⟨t2, z, w, n_t3 μ x y z w t1 t2⟩
theorem sT_of {μ ν : MS} (h : sM μ ν) (tb : Nat → Int64) : sT μ (n_tb ν tb) := by
  obtain ⟨x, y, rfl⟩ := h
  exact ⟨tb, x, y, n_tlh μ x y tb⟩
theorem sT_pt {μ ν : MS} (h : sT μ ν) : m_pt ν = m_pt μ := by
  obtain ⟨t, x, y, rfl⟩ := h
  rw [mn_pt_lo, mn_pt_hi, mn_pt_tb]
theorem sT_dg {μ ν : MS} (h : sT μ ν) : m_dg ν = m_dg μ := by
  obtain ⟨t, x, y, rfl⟩ := h
  rw [mn_dg_lo, mn_dg_hi, mn_dg_tb]
theorem sT_bA {μ ν : MS} (h : sT μ ν) : m_bA ν = m_bA μ := by
  obtain ⟨t, x, y, rfl⟩ := h
  rw [mn_bA_lo, mn_bA_hi, mn_bA_tb]
theorem sT_bB {μ ν : MS} (h : sT μ ν) : m_bB ν = m_bB μ := by
  obtain ⟨t, x, y, rfl⟩ := h
  rw [mn_bB_lo, mn_bB_hi, mn_bB_tb]
theorem sT_px {μ ν : MS} (h : sT μ ν) : m_px ν = m_px μ := by
  obtain ⟨t, x, y, rfl⟩ := h
  rw [mn_px_lo, mn_px_hi, mn_px_tb]
theorem sT_py {μ ν : MS} (h : sT μ ν) : m_py ν = m_py μ := by
  obtain ⟨t, x, y, rfl⟩ := h
  rw [mn_py_lo, mn_py_hi, mn_py_tb]
theorem sT_lb {μ ν : MS} (h : sT μ ν) : m_lb ν = m_lb μ := by
  obtain ⟨t, x, y, rfl⟩ := h
  rw [mn_lb_lo, mn_lb_hi, mn_lb_tb]
theorem sT_bg {μ ν : MS} (h : sT μ ν) : m_bg ν = m_bg μ := by
  obtain ⟨t, x, y, rfl⟩ := h
  rw [mn_bg_lo, mn_bg_hi, mn_bg_tb]
theorem sT_dn {μ ν : MS} (h : sT μ ν) : m_dn ν = m_dn μ := by
  obtain ⟨t, x, y, rfl⟩ := h
  rw [mn_dn_lo, mn_dn_hi, mn_dn_tb]
theorem sT_ry {μ ν : MS} (h : sT μ ν) : m_ry ν = m_ry μ := by
  obtain ⟨t, x, y, rfl⟩ := h
  rw [mn_ry_lo, mn_ry_hi, mn_ry_tb]
theorem sT_rw {μ ν : MS} (h : sT μ ν) : m_rw ν = m_rw μ := by
  obtain ⟨t, x, y, rfl⟩ := h
  rw [mn_rw_lo, mn_rw_hi, mn_rw_tb]
theorem sT_bl {μ ν : MS} (h : sT μ ν) : m_bl ν = m_bl μ := by
  obtain ⟨t, x, y, rfl⟩ := h
  rw [mn_bl_lo, mn_bl_hi, mn_bl_tb]
theorem sT_tl {μ ν : MS} (h : sT μ ν) : m_tl ν = m_tl μ := by
  obtain ⟨t, x, y, rfl⟩ := h
  rw [mn_tl_lo, mn_tl_hi, mn_tl_tb]
theorem sT_st {μ ν : MS} (h : sT μ ν) : m_st ν = m_st μ := by
  obtain ⟨t, x, y, rfl⟩ := h
  rw [mn_st_lo, mn_st_hi, mn_st_tb]
theorem sT_en {μ ν : MS} (h : sT μ ν) : m_en ν = m_en μ := by
  obtain ⟨t, x, y, rfl⟩ := h
  rw [mn_en_lo, mn_en_hi, mn_en_tb]
theorem sT_lf {μ ν : MS} (h : sT μ ν) : m_lf ν = m_lf μ := by
  obtain ⟨t, x, y, rfl⟩ := h
  rw [mn_lf_lo, mn_lf_hi, mn_lf_tb]
theorem sT_la {μ ν : MS} (h : sT μ ν) : m_la ν = m_la μ := by
  obtain ⟨t, x, y, rfl⟩ := h
  rw [mn_la_lo, mn_la_hi, mn_la_tb]
theorem mcr_e (a b c d : Int64) (μ : MS) : ∃ ν : MS, f_X4_cross a b c d μ = some ν ∧ m_hi ν = hiX a b c d ∧ m_lo ν = a * b - c * d ∧ sM μ ν := by
  obtain ⟨a0, a1, a2, a3, a4, a5, a6, a7, a8, a9, a10, a11, a12, a13, a14, a15, a16, a17, a18, a19⟩ := μ
  exact ⟨_, mcross a b c d a0 a1 a2 a3 a4 a5 a6 a7 a8 a9 a10 a11 a12 a13 a14 a15 a16 a17 a18 a19, rfl, rfl, hiX a b c d, a * b - c * d, rfl⟩
theorem tG_upd (tb : Nat → Int64) {r k : Nat} (x : Int64) (hk : k < 26) {r2 c : Nat} (hc : c < 26) : tG (vp_updL tb (26 * r + k) x) r2 c = upG (tG tb) r k x r2 c := by
  by_cases h : r2 = r ∧ c = k
  · obtain ⟨rfl, rfl⟩ := h
    rw [upG_s]
    exact if_pos rfl
  · rw [upG_n _ _ _ _ (by omega)]
    exact if_neg (fun q => h (by omega))
/-- the same table, where rows and columns are -/
def sameG (G G2 : Nat → Nat → Int64) : Prop := ∀ r c, c < 26 → G r c = G2 r c
theorem sameG_rw {G G2 : Nat → Nat → Int64} (h : sameG G G2) (r : Nat) (f : Nat → Int64) (lo hi : Nat) : sameG (rwS G r f lo hi) (rwS G2 r f lo hi) := fun r2 c hc => by
  unfold rwS
  by_cases q : r2 = r ∧ lo ≤ c ∧ c < hi
  · rw [if_pos q, if_pos q]
  · rw [if_neg q, if_neg q, h r2 c hc]
theorem sameG_tn {G G2 : Nat → Nat → Int64} (h : sameG G G2) (row m lo : Nat) (Z : Nat → Nat → Int) : sameG (tnS G row m lo Z) (tnS G2 row m lo Z) := fun r2 c hc => by
  unfold tnS
  by_cases q : lo ≤ r2 ∧ r2 < m ∧ r2 ≠ row ∧ c < 2 * m + 2
  · rw [if_pos q, if_pos q]
  · rw [if_neg q, if_neg q, h r2 c hc]
theorem sameG_tr {G G2 G3 : Nat → Nat → Int64} (h : sameG G G2) (h2 : sameG G2 G3) : sameG G G3 := fun r c hc => (h r c hc).trans (h2 r c hc)
theorem mTk_L (N m : Nat) (hN : 70 < N) (hm : m ≤ 12) (r row col : Nat) (hr : r < m) (hrow : row < m) (hne : r ≠ row) (by_ f : Int64) (S : Nat) (hS0 : 0 < S) (hS : S < 2 ^ 63) (Z : Nat → Int) : ∀ (j k n : Nat) (μ : MS), m_rw μ = nI m → m_bl μ = lN S → k + j = 2 * m + 2 → j < n → (∀ c, k ≤ c → c < 2 * m + 2 → by_.toInt * gI (tG (m_tb μ)) r c - f.toInt * gI (tG (m_tb μ)) row c = S * Z c) →
    ∃ ν, f_X4_turn_L41 N n (nI row) (nI col) by_ (nI r) f (nI k) μ = some ν ∧ sT μ ν ∧ sameG (tG (m_tb ν)) (rwS (tG (m_tb μ)) r (fun c => Int64.ofInt (Z c)) k (2 * m + 2)) := by
  intro j
  induction j with
  | zero =>
    intro k n μ hrw hbl hk hn hZ
    obtain ⟨n, rfl, hn⟩ := suc_of hn
    rw [f_X4_turn_L41, mQs hrw, bs_d, if_pos (nI_lt (by omega) (by omega)), rwS_0 _ _ _ (by omega)]
    exact ⟨μ, rfl, sT_rf μ, fun _ _ _ => rfl⟩
  | succ j ih =>
    intro k n μ hrw hbl hk hn hZ
    obtain ⟨n, rfl, hn⟩ := suc_of hn
    have hz : by_.toInt * (m_tb μ (26 * r + k)).toInt - f.toInt * (m_tb μ (26 * row + k)).toInt = S * Z k := hZ k (Nat.le_refl k) (by omega)
    rw [f_X4_turn_L41, mQs hrw, bs_d, if_neg (nI_nlt (by omega) (by omega)), if_neg (fun z => hne ((nI_eq (by omega) (by omega)).mp z)), ix26, ix26, gd_n (by omega) (by decide), gd_n (by omega) (by decide), nI_clamp (n := 26 * r + k) (by omega), nI_clamp (n := 26 * row + k) (by omega)]
    obtain ⟨ν, h1, h2, h3, h4⟩ := mcr_e (m_tb μ (26 * r + k)) by_ f (m_tb μ (26 * row + k)) μ
    have hsh : f_X4_shared N (m_bl ν) ν = some (Int64.ofInt (Z k)) := by
      rw [sM_bl h4, hbl]
      refine mSh hN hS0 hS (by_.toInt * (m_tb μ (26 * r + k)).toInt - f.toInt * (m_tb μ (26 * row + k)).toInt) (Z k) hz ν ?_ ?_
      · rw [h2, hiX, Int.mul_comm (m_tb μ (26 * r + k)).toInt]
      · rw [h3, lowX, Int.mul_comm (m_tb μ (26 * r + k)).toInt]
    rw [h1, bs_d, hsh, bs_d, gd_n (by omega) (by decide), lt_d, lt_d, nI_1, sM_tb h4]
    have h5 : sT μ (n_tb ν (vp_updL (m_tb μ) (26 * r + k) (Int64.ofInt (Z k)))) := sT_of h4 _
    have h6 : m_tb (n_tb ν (vp_updL (m_tb μ) (26 * r + k) (Int64.ofInt (Z k)))) = vp_updL (m_tb μ) (26 * r + k) (Int64.ofInt (Z k)) := mn_tb_tb _ _
    have h7 : sameG (tG (vp_updL (m_tb μ) (26 * r + k) (Int64.ofInt (Z k)))) (upG (tG (m_tb μ)) r k (Int64.ofInt (Z k))) := fun r2 c hc => tG_upd _ _ (by omega) hc
    obtain ⟨ξ, g1, g2, g3⟩ := ih (k + 1) n (n_tb ν (vp_updL (m_tb μ) (26 * r + k) (Int64.ofInt (Z k)))) (by rw [sT_rw h5]; exact hrw) (by rw [sT_bl h5]; exact hbl) (by omega) (by omega) (fun c h8 h9 => by
      rw [h6]
      unfold gI
      rw [h7 r c (by omega), h7 row c (by omega), upG_n _ _ _ _ (Or.inr (by omega)), upG_n _ _ _ _ (Or.inl (Ne.symm hne))]
      exact hZ c (by omega) h9)
    refine ⟨ξ, g1, sT_tr h5 g2, ?_⟩
    rw [h6] at g3
    have g4 := sameG_tr g3 (sameG_rw h7 r (fun c => Int64.ofInt (Z c)) (k + 1) (2 * m + 2))
    rw [rwS_s (tG (m_tb μ)) r (fun c => Int64.ofInt (Z c)) (by omega) rfl] at g4
    exact g4
theorem mTk_row (N m : Nat) (hN : 0 < N) (hm : m ≤ 12) (row col : Nat) (hrow : row < m) (by_ f : Int64) (μ : MS) (hrw : m_rw μ = nI m) : f_X4_turn_L41 N N (nI row) (nI col) by_ (nI row) f (0 : Int32) μ = some μ := by
  obtain ⟨N2, hN2⟩ : ∃ q, N = q + 1 := ⟨N - 1, by omega⟩
  have hu : ∀ M, N = M + 1 → f_X4_turn_L41 N N (nI row) (nI col) by_ (nI row) f (0 : Int32) μ = f_X4_turn_L41 N (M + 1) (nI row) (nI col) by_ (nI row) f (nI 0) μ := fun M h => by rw [← h, nI_0]
  rw [hu N2 hN2, f_X4_turn_L41, mQs hrw, bs_d, if_neg (nI_nlt (by omega) (by omega)), if_pos rfl]
/-- the reference's rows turned, up to its sign -/
theorem mTn_L (N m : Nat) (hN : 70 < N) (hm : m ≤ 12) (row col : Nat) (hrow : row < m) (hcol : col < 26) (by_ : Int64) (S : Nat) (hS0 : 0 < S) (hS : S < 2 ^ 63) (Z : Nat → Nat → Int) : ∀ (j lo n : Nat) (μ : MS), m_rw μ = nI m → m_bl μ = lN S → lo + j = m → j < n → (∀ r, lo ≤ r → r < m → r ≠ row → ∀ c, c < 2 * m + 2 → by_.toInt * gI (tG (m_tb μ)) r c - gI (tG (m_tb μ)) r col * gI (tG (m_tb μ)) row c = S * Z r c) →
    ∃ (ν : MS) (n2 : Nat), f_X4_turn_L15 N n (nI row) (nI col) by_ (nI lo) μ = f_X4_turn_L15 N (n2 + 1) (nI row) (nI col) by_ (nI m) ν ∧ sT μ ν ∧ sameG (tG (m_tb ν)) (tnS (tG (m_tb μ)) row m lo Z) := by
  intro j
  induction j with
  | zero =>
    intro lo n μ hrw hbl hk hn hZ
    obtain ⟨n, rfl, hn⟩ := suc_of hn
    have e : lo = m := by omega
    subst e
    exact ⟨μ, n, rfl, sT_rf μ, by rw [tnS_0]; exact fun _ _ _ => rfl⟩
  | succ j ih =>
    intro lo n μ hrw hbl hk hn hZ
    obtain ⟨n, rfl, hn⟩ := suc_of hn
    rw [f_X4_turn_L15, hrw, if_neg (nI_ge (by omega) (by omega)), ix26, gd_n (by omega) (by decide), lt_d, nI_clamp (n := 26 * lo + col) (by omega)]
    by_cases hq : lo = row
    · subst hq
      rw [mTk_row N m (by omega) hm lo col hrow by_ _ μ hrw, bs_d, lt_d, nI_1]
      obtain ⟨ν, n2, g1, g2, g3⟩ := ih (lo + 1) n μ hrw hbl (by omega) (by omega) (fun r h1 => hZ r (by omega))
      rw [tnS_n] at g3
      exact ⟨ν, n2, g1, g2, g3⟩
    · obtain ⟨ν, h1, h2, h3⟩ := mTk_L N m hN hm lo row col (by omega) hrow hq by_ (m_tb μ (26 * lo + col)) S hS0 hS (Z lo) (2 * m + 2) 0 N μ hrw hbl (by omega) (by omega) (fun c _ h => hZ lo (Nat.le_refl _) (by omega) hq c h)
      rw [nI_0] at h1
      rw [h1, bs_d, lt_d, nI_1]
      have hG : ∀ r c, r ≠ lo → c < 26 → tG (m_tb ν) r c = tG (m_tb μ) r c := fun r c h hc => by
        rw [h3 r c hc]
        exact if_neg (fun z => h z.1)
      obtain ⟨ξ, n2, g1, g2, g3⟩ := ih (lo + 1) n ν (by rw [sT_rw h2]; exact hrw) (by rw [sT_bl h2]; exact hbl) (by omega) (by omega) (fun r h4 h5 h6 c hc => by
        unfold gI
        rw [hG r c (by omega) (by omega), hG r col (by omega) hcol, hG row c (Ne.symm hq) (by omega)]
        exact hZ r (by omega) h5 h6 c hc)
      refine ⟨ξ, n2, g1, sT_tr h2 g2, ?_⟩
      have g4 := sameG_tr g3 (sameG_tn h3 row m (lo + 1) Z)
      rw [tnS_s _ _ (by omega) hq] at g4
      exact g4
theorem mTn {N m : Nat} (hN : 70 < N) (hm : m ≤ 12) {row col : Nat} (hrow : row < m) (hcol : col < 26) {μ : MS} (hrw : m_rw μ = nI m) (hp : 0 ≤ gI (tG (m_tb μ)) row col) (hs : 0 < (m_bl μ).toInt) (Z : Nat → Nat → Int)
    (hZ : ∀ r, r < m → r ≠ row → ∀ c, c < 2 * m + 2 → gI (tG (m_tb μ)) row col * gI (tG (m_tb μ)) r c - gI (tG (m_tb μ)) r col * gI (tG (m_tb μ)) row c = (m_bl μ).toInt * Z r c) :
    ∃ ν, f_X4_turn N (nI row) (nI col) μ = some (n_bl ν (tG (m_tb μ) row col)) ∧ sT μ ν ∧ sameG (tG (m_tb ν)) (tnS (tG (m_tb μ)) row m 0 Z) := by
  have hrng := fb_rngL (m_bl μ)
  obtain ⟨S, hS⟩ : ∃ S : Nat, (m_bl μ).toInt = S := ⟨(m_bl μ).toInt.toNat, by omega⟩
  have hsc : m_bl μ = lN S := by rw [lN_oi, ← hS, oi_t]
  obtain ⟨ν, n2, g1, g2, g3⟩ := mTn_L N m hN hm row col hrow hcol (m_tb μ (26 * row + col)) S (by omega) (by omega) Z m 0 N μ hrw hsc (by omega) (by omega) (fun r _ h2 h3 c hc => by rw [← hS]; exact hZ r h2 h3 c hc)
  rw [nI_0] at g1
  have hge : 0 ≤ lg_cmp (m_tb μ (26 * row + col)) (0 : Int64) := by
    rw [lc_ge, Int64.le_iff_toInt_le]; exact hp
  refine ⟨ν, ?_, g2, g3⟩
  rw [f_X4_turn, ix26, gd_n (by omega) (by decide), lt_d, nI_clamp (n := 26 * row + col) (by omega), g1, f_X4_turn_L15, sT_rw g2, hrw, if_pos (nI_le (Nat.le_refl _) (by omega)), lt_d, if_pos hge]
  rfl
/-! the whole table negated -/
def ngS (G : Nat → Nat → Int64) (lo m : Nat) : Nat → Nat → Int64 := fun r c => if lo ≤ r ∧ r < m ∧ c < 2 * m + 2 then - G r c else G r c
theorem mNg_L (N m r col2 : Nat) (hm : m ≤ 12) (hr : r < m) : ∀ (j k n : Nat) (μ : MS), m_rw μ = nI m → k + j = 2 * m + 2 → j < n →
    ∃ ν, f_X4_turn_L153 N n (nI r) (nI k) μ = some ν ∧ sT μ ν ∧ sameG (tG (m_tb ν)) (rwS (tG (m_tb μ)) r (fun c => - tG (m_tb μ) r c) k (2 * m + 2)) := by
  intro j
  induction j with
  | zero =>
    intro k n μ hrw hk hn
    obtain ⟨n, rfl, hn⟩ := suc_of hn
    rw [f_X4_turn_L153, mQs hrw, bs_d, if_pos (nI_lt (by omega) (by omega)), rwS_0 _ _ _ (by omega)]
    exact ⟨μ, rfl, sT_rf μ, fun _ _ _ => rfl⟩
  | succ j ih =>
    intro k n μ hrw hk hn
    obtain ⟨n, rfl, hn⟩ := suc_of hn
    rw [f_X4_turn_L153, mQs hrw, bs_d, if_neg (nI_nlt (by omega) (by omega)), ix26, gd_n (by omega) (by decide), gd_n (by omega) (by decide), nI_clamp (n := 26 * r + k) (by omega), lt_d, lt_d, nI_1]
    have h5 : sT μ (n_tb μ (vp_updL (m_tb μ) (26 * r + k) (-(m_tb μ (26 * r + k))))) := sT_of (sM_rf μ) _
    have h6 : m_tb (n_tb μ (vp_updL (m_tb μ) (26 * r + k) (-(m_tb μ (26 * r + k))))) = vp_updL (m_tb μ) (26 * r + k) (-(m_tb μ (26 * r + k))) := mn_tb_tb _ _
    have h7 : sameG (tG (vp_updL (m_tb μ) (26 * r + k) (-(m_tb μ (26 * r + k))))) (upG (tG (m_tb μ)) r k (-(tG (m_tb μ) r k))) := fun r2 c hc => tG_upd _ _ (by omega) hc
    obtain ⟨ξ, g1, g2, g3⟩ := ih (k + 1) n (n_tb μ (vp_updL (m_tb μ) (26 * r + k) (-(m_tb μ (26 * r + k))))) (by rw [sT_rw h5]; exact hrw) (by omega) (by omega)
    refine ⟨ξ, g1, sT_tr h5 g2, fun r2 c hc => ?_⟩
    rw [g3 r2 c hc, h6]
    unfold rwS
    by_cases q : r2 = r ∧ k + 1 ≤ c ∧ c < 2 * m + 2
    · rw [if_pos q, if_pos ⟨q.1, by omega, q.2.2⟩]
      exact congrArg (fun t => -t) ((h7 r c hc).trans (upG_n _ _ _ _ (Or.inr (by omega))))
    · rw [if_neg q, h7 r2 c hc]
      by_cases q2 : r2 = r ∧ k ≤ c ∧ c < 2 * m + 2
      · have ec : c = k := by omega
        rw [if_pos q2, q2.1, ec, upG_s]
      · rw [if_neg q2, upG_n]
        rcases Nat.decEq r2 r with z | z
        · exact Or.inl z
        · exact Or.inr (fun y => q2 ⟨z, by omega, by omega⟩)
theorem mNgA_L (N m : Nat) (hN : 2 * m + 2 < N) (hm : m ≤ 12) : ∀ (j lo n : Nat) (μ : MS), m_rw μ = nI m → lo + j = m → j < n →
    ∃ ν, f_X4_turn_L141 N n (nI lo) μ = some ν ∧ sT μ ν ∧ sameG (tG (m_tb ν)) (ngS (tG (m_tb μ)) lo m) := by
  intro j
  induction j with
  | zero =>
    intro lo n μ hrw hk hn
    obtain ⟨n, rfl, hn⟩ := suc_of hn
    rw [f_X4_turn_L141, hrw, if_pos (nI_le (by omega) (by omega))]
    exact ⟨μ, rfl, sT_rf μ, fun r c hc => (if_neg (fun q => by omega)).symm⟩
  | succ j ih =>
    intro lo n μ hrw hk hn
    obtain ⟨n, rfl, hn⟩ := suc_of hn
    rw [f_X4_turn_L141, hrw, if_neg (nI_ge (by omega) (by omega))]
    obtain ⟨ν, h1, h2, h3⟩ := mNg_L N m lo 0 hm (by omega) (2 * m + 2) 0 N μ hrw (by omega) hN
    rw [nI_0] at h1
    rw [h1, bs_d, lt_d, nI_1]
    obtain ⟨ξ, g1, g2, g3⟩ := ih (lo + 1) n ν (by rw [sT_rw h2]; exact hrw) (by omega) (by omega)
    refine ⟨ξ, g1, sT_tr h2 g2, fun r c hc => ?_⟩
    rw [g3 r c hc]
    unfold ngS
    by_cases q : lo + 1 ≤ r ∧ r < m ∧ c < 2 * m + 2
    · rw [if_pos q, if_pos ⟨by omega, q.2⟩, h3 r c hc]
      unfold rwS
      rw [if_neg (fun z => by omega)]
    · rw [if_neg q, h3 r c hc]
      unfold rwS
      by_cases q2 : lo ≤ r ∧ r < m ∧ c < 2 * m + 2
      · have er : r = lo := by omega
        rw [if_pos q2, if_pos ⟨er, by omega, q2.2.2⟩, er]
      · rw [if_neg q2, if_neg (fun z => q2 ⟨by omega, by omega, z.2.2⟩)]
theorem mTn0 {N m : Nat} (hN : 70 < N) (hm : m ≤ 12) {row col : Nat} (hrow : row < m) (hcol : col < 26) {μ : MS} (hrw : m_rw μ = nI m) (hp : gI (tG (m_tb μ)) row col < 0) (hs : 0 < (m_bl μ).toInt) (Z : Nat → Nat → Int)
    (hZ : ∀ r, r < m → r ≠ row → ∀ c, c < 2 * m + 2 → gI (tG (m_tb μ)) row col * gI (tG (m_tb μ)) r c - gI (tG (m_tb μ)) r col * gI (tG (m_tb μ)) row c = (m_bl μ).toInt * Z r c) :
    ∃ ν, f_X4_turn N (nI row) (nI col) μ = some ν ∧ sT (n_bl μ (-(tG (m_tb μ) row col))) ν ∧ sameG (tG (m_tb ν)) (ngS (tnS (tG (m_tb μ)) row m 0 Z) 0 m) := by
  have hrng := fb_rngL (m_bl μ)
  obtain ⟨S, hS⟩ : ∃ S : Nat, (m_bl μ).toInt = S := ⟨(m_bl μ).toInt.toNat, by omega⟩
  have hsc : m_bl μ = lN S := by rw [lN_oi, ← hS, oi_t]
  obtain ⟨ν, n2, g1, g2, g3⟩ := mTn_L N m hN hm row col hrow hcol (m_tb μ (26 * row + col)) S (by omega) (by omega) Z m 0 N μ hrw hsc (by omega) (by omega) (fun r _ h2 h3 c hc => by rw [← hS]; exact hZ r h2 h3 c hc)
  rw [nI_0] at g1
  have hge : ¬ 0 ≤ lg_cmp (m_tb μ (26 * row + col)) (0 : Int64) := by
    rw [lc_ge, Int64.le_iff_toInt_le]
    intro q
    have q2 : 0 ≤ gI (tG (m_tb μ)) row col := q
    omega
  obtain ⟨t, x, y, rfl⟩ := g2
  have e1 : n_bl (n_bl (n_lo (n_hi (n_tb μ t) x) y) (m_tb μ (26 * row + col))) (-(m_tb μ (26 * row + col))) = n_lo (n_hi (n_tb (n_bl μ (-(m_tb μ (26 * row + col)))) t) x) y := match μ with
    | (_, _, _, _, _, _, _, _, _, _, _, _, _, _, _, _, _, _, _, _) => by simp only [n_lo, n_hi, n_tb, n_bl, m_tb]
  have e2 : sT (n_bl μ (-(m_tb μ (26 * row + col)))) (n_lo (n_hi (n_tb (n_bl μ (-(m_tb μ (26 * row + col)))) t) x) y) := ⟨t, x, y, rfl⟩
  obtain ⟨ξ, k1, k2, k3⟩ := mNgA_L N m (by omega) hm m 0 N (n_lo (n_hi (n_tb (n_bl μ (-(m_tb μ (26 * row + col)))) t) x) y) (by rw [sT_rw e2, mn_rw_bl]; exact hrw) (by omega) (by omega)
  rw [nI_0] at k1
  have e3 : m_tb (n_lo (n_hi (n_tb μ t) x) y) = t := by rw [mn_tb_lo, mn_tb_hi, mn_tb_tb]
  have e4 : m_tb (n_lo (n_hi (n_tb (n_bl μ (-(m_tb μ (26 * row + col)))) t) x) y) = t := by rw [mn_tb_lo, mn_tb_hi, mn_tb_tb]
  refine ⟨ξ, ?_, sT_tr e2 k2, fun r c hc => ?_⟩
  · rw [f_X4_turn, ix26, gd_n (by omega) (by decide), lt_d, nI_clamp (n := 26 * row + col) (by omega), g1, f_X4_turn_L15, mn_rw_lo, mn_rw_hi, mn_rw_tb, hrw, if_pos (nI_le (Nat.le_refl _) (by omega)), lt_d, if_neg hge, lt_d, e1, k1]
  · rw [k3 r c hc, e4]
    rw [e3] at g3
    unfold ngS
    by_cases q : 0 ≤ r ∧ r < m ∧ c < 2 * m + 2
    · rw [if_pos q, if_pos q, g3 r c hc]
    · rw [if_neg q, if_neg q, g3 r c hc]

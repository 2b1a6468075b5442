/-! points and their products, of both -/
def krn (pw : Int32) (xx yy : Nat → Int32) (i : Nat) (x y : Int32) : Int32 := if pw = 1 then (xx i * x + yy i * y + 1) else (xx i * x + yy i * y + 1) * (xx i * x + yy i * y + 1)
def prd (pw : Int32) (xx yy lb : Nat → Int32) (i k : Nat) : Int32 := lb i * lb k * krn pw xx yy i (xx k) (yy k)
theorem cKr {i : Nat} (hi : i < 6) (x y : Int32) (σ : CS) : f_X0_kernel (nI i) x y σ = some (krn (c_pw σ) (c_xx σ) (c_yy σ) i x y) := by
  rw [f_X0_kernel, gd_n hi (by decide), gd_n hi (by decide), nI_clamp (by omega), lt_d, krn]
  by_cases h : c_pw σ = 1
  · rw [if_pos h, if_pos h]
  · rw [if_neg h, if_neg h]
theorem cPr {i k : Nat} (hi : i < 6) (hk : k < 6) (σ : CS) : f_X0_product (nI i) (nI k) σ = some (prd (c_pw σ) (c_xx σ) (c_yy σ) (c_lb σ) i k) := by
  rw [f_X0_product, gd_n hi (by decide), gd_n hk (by decide), gd_n hk (by decide), gd_n hk (by decide), nI_clamp (n := k) (by omega), nI_clamp (n := i) (by omega), cKr hi, bs_d]
  rfl
theorem mKr {i : Nat} (hi : i < 6) (x y : Int32) (μ : MS) : f_X4_kernel (nI i) x y μ = some (krn (m_dg μ) (m_px μ) (m_py μ) i x y) := by
  rw [f_X4_kernel, gd_n hi (by decide), gd_n hi (by decide), nI_clamp (by omega), lt_d, krn]
  by_cases h : m_dg μ = 1
  · rw [if_pos h, if_pos h]
  · rw [if_neg h, if_neg h]
theorem mPr {i k : Nat} (hi : i < 6) (hk : k < 6) (μ : MS) : f_X4_qOf (nI i) (nI k) μ = some (prd (m_dg μ) (m_px μ) (m_py μ) (m_lb μ) i k) := by
  rw [f_X4_qOf, gd_n hi (by decide), gd_n hk (by decide), gd_n hk (by decide), gd_n hk (by decide), nI_clamp (n := k) (by omega), nI_clamp (n := i) (by omega), mKr hi, bs_d]
  rfl
/-- the rows of M, of both -/
def mtx (n : Nat) (pw : Int32) (xx yy lb : Nat → Int32) (r k : Nat) : Int32 := if r < n ∧ k < n then prd pw xx yy lb r k else if k = n + r then 1 else if r = n + k then -1 else 0
theorem cMx {n r k : Nat} (hn : n ≤ 6) (hr : r < 2 * n) (hk : k < 2 * n) (σ : CS) (hs : c_sz σ = nI n) : f_X1_matrix (nI r) (nI k) σ = some (mtx n (c_pw σ) (c_xx σ) (c_yy σ) (c_lb σ) r k) := by
  have tail : (if nI k = nI n + nI r then some (1 : Int32) else if nI r = nI n + nI k then some (-1 : Int32) else some (0 : Int32)) = some (if k = n + r then 1 else if r = n + k then -1 else 0) := by
    rw [nI_add, nI_add]
    by_cases h1 : k = n + r
    · rw [if_pos h1, if_pos (by rw [h1])]
    · rw [if_neg h1, if_neg (fun z => h1 ((nI_eq (by omega) (by omega)).mp z))]
      by_cases h2 : r = n + k
      · rw [if_pos h2, if_pos (by rw [h2])]
      · rw [if_neg h2, if_neg (fun z => h2 ((nI_eq (by omega) (by omega)).mp z))]
  rw [f_X1_matrix, lt_d, hs, mtx]
  by_cases hr2 : r < n
  · rw [if_neg (nI_ge hr2 (by omega))]
    by_cases hk2 : k < n
    · rw [if_neg (nI_ge hk2 (by omega)), if_pos ⟨hr2, hk2⟩, cPr (by omega) (by omega), bs_d]
    · rw [if_pos (nI_le (by omega) (by omega)), tail, if_neg (show ¬ (r < n ∧ k < n) from fun z => hk2 z.2)]
  · rw [if_pos (nI_le (by omega) (by omega)), tail, if_neg (show ¬ (r < n ∧ k < n) from fun z => hr2 z.1)]
theorem mMx {n r k : Nat} (hn : n ≤ 6) (hr : r < 2 * n) (hk : k < 2 * n) (μ : MS) (hs : m_pt μ = nI n) : f_X4_m (nI r) (nI k) μ = some (mtx n (m_dg μ) (m_px μ) (m_py μ) (m_lb μ) r k).toInt64 := by
  have tail : (if nI k = nI n + nI r then some (1 : Int64) else if nI r = nI n + nI k then some (-1 : Int64) else some (0 : Int64)) = some (if k = n + r then (1 : Int32) else if r = n + k then -1 else 0).toInt64 := by
    rw [nI_add, nI_add]
    by_cases h1 : k = n + r
    · rw [if_pos h1, if_pos (by rw [h1])]; rfl
    · rw [if_neg h1, if_neg (fun z => h1 ((nI_eq (by omega) (by omega)).mp z))]
      by_cases h2 : r = n + k
      · rw [if_pos h2, if_pos (by rw [h2])]; rfl
      · rw [if_neg h2, if_neg (fun z => h2 ((nI_eq (by omega) (by omega)).mp z))]; rfl
  rw [f_X4_m, hs, mtx]
  by_cases hr2 : r < n
  · rw [if_neg (nI_ge hr2 (by omega))]
    by_cases hk2 : k < n
    · rw [if_neg (nI_ge hk2 (by omega)), if_pos ⟨hr2, hk2⟩, mPr (by omega) (by omega), bs_d]
    · rw [if_pos (nI_le (by omega) (by omega)), tail, if_neg (show ¬ (r < n ∧ k < n) from fun z => hk2 z.2)]
  · rw [if_pos (nI_le (by omega) (by omega)), tail, if_neg (show ¬ (r < n ∧ k < n) from fun z => hr2 z.1)]
/-! a point's place -/
theorem place_eq (x y : Int32) : f_X4_isPlace x y = f_X0_isPlace x y := by
  rw [f_X4_isPlace, f_X0_isPlace, f_X4_in]
  by_cases h1 : x < (-4 : Int32)
  · rw [if_pos h1, if_pos h1, bs_d, if_pos rfl]
  · rw [if_neg h1, if_neg h1]
    by_cases h2 : (4 : Int32) < x
    · rw [if_pos h2, if_pos h2, bs_d, if_pos rfl]
    · rw [if_neg h2, if_neg h2, bs_d, if_neg (by decide), f_X4_in]
      by_cases h3 : y < (-4 : Int32)
      · simp only [h3, if_true]; rfl
      · simp only [h3, if_false]
        by_cases h4 : (4 : Int32) < y
        · simp only [h4, if_true]; rfl
        · simp only [h4, if_false]; rfl
/-- 'is it a point', of both: a number below n -/
theorem has_eq {n : Nat} (hn : n ≤ 6) (i : Int32) (σ : CS) (μ : MS) (h1 : c_sz σ = nI n) (h2 : m_pt μ = nI n) : (∃ k, k < n ∧ i = nI k ∧ f_X0_has i σ = some 1 ∧ f_X4_isPoint i μ = some 1) ∨ (f_X0_has i σ = some 0 ∧ f_X4_isPoint i μ = some 0) := by
  have hm : (nI n - (1 : Int32)).toInt = (n : Int) - 1 := by
    rw [show (1 : Int32) = nI 1 from rfl]
    exact pk_sub_toInt (by omega) (by decide)
  rcases pk_ix i (n := n) (by omega) with h | h | ⟨k, hk, rfl⟩
  · refine Or.inr ⟨by rw [f_X0_has, if_pos h], ?_⟩
    rw [f_X4_isPoint, f_X4_in, if_pos h, bs_d]; rfl
  · refine Or.inr ⟨?_, ?_⟩
    · have h0 : ¬ i < 0 := by
        rw [Int32.lt_iff_toInt_lt]
        rw [Int32.le_iff_toInt_le, nI_toInt (by omega)] at h
        have e : (0 : Int32).toInt = 0 := rfl
        omega
      rw [f_X0_has, if_neg h0, h1, if_pos h]
    · rw [Int32.le_iff_toInt_le, nI_toInt (by omega)] at h
      have h0 : ¬ i < 0 := by
        rw [Int32.lt_iff_toInt_lt]
        have e : (0 : Int32).toInt = 0 := rfl
        omega
      have h3 : nI n - (1 : Int32) < i := by
        rw [Int32.lt_iff_toInt_lt, hm]; omega
      rw [f_X4_isPoint, f_X4_in, if_neg h0, h2, if_pos h3, bs_d]; rfl
  · refine Or.inl ⟨k, hk, rfl, ?_, ?_⟩
    · rw [f_X0_has, if_neg (nI_pos (by omega)), h1, if_neg (nI_ge hk (by omega))]
    · have h3 : ¬ nI n - (1 : Int32) < nI k := by
        rw [Int32.lt_iff_toInt_lt, hm, nI_toInt (by omega)]; omega
      rw [f_X4_isPoint, f_X4_in, if_neg (nI_pos (by omega)), h2, if_neg h3, bs_d]; rfl

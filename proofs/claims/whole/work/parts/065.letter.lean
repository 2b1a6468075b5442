/-! columns and letters -/
def letr (m c : Nat) : Nat := if c < m then c else if c < 2 * m then 100 + c - m else 200
def cmpl (m c : Nat) : Nat := if c < m then c + m else c - m
theorem cLet {m c : Nat} (hm : m ≤ 12) (hc : c ≤ 2 * m) {σ : CS} (hrw : c_rw σ = nI m) : f_X1_letter (nI c) σ = some (nI (letr m c)) := by
  rw [f_X1_letter, hrw, letr]
  by_cases h1 : c < m
  · rw [if_neg (nI_ge h1 (by omega)), if_pos h1]
  · rw [if_pos (nI_le (by omega) (by omega)), if_neg h1, cYs hrw, bs_d]
    by_cases h2 : c < 2 * m
    · rw [if_neg (nI_ge h2 (by omega)), if_pos h2, show (100 : Int32) = nI 100 from rfl, nI_add, pk_sub (by omega)]
    · rw [if_pos (nI_le (by omega) (by omega)), if_neg h2]; rfl
theorem cCmp {m c : Nat} (hm : m ≤ 12) (hc : c < 2 * m) {σ : CS} (hrw : c_rw σ = nI m) : f_X1_complement (nI c) σ = some (nI (cmpl m c)) := by
  rw [f_X1_complement, hrw, cmpl]
  by_cases h1 : c < m
  · rw [if_neg (nI_ge h1 (by omega)), if_pos h1, nI_add]
  · rw [if_pos (nI_le (by omega) (by omega)), if_neg h1, pk_sub (by omega)]
theorem mCol {m c : Nat} (hm : m ≤ 12) (hc : c ≤ 2 * m) {μ : MS} (hrw : m_rw μ = nI m) : f_X4_columnOf (nI (letr m c)) μ = some (nI c) := by
  rw [f_X4_columnOf, hrw, letr, show (200 : Int32) = nI 200 from rfl, show (100 : Int32) = nI 100 from rfl]
  by_cases h1 : c < m
  · rw [if_pos h1, if_neg (fun z => by have := (nI_eq (by omega) (by decide)).mp z; omega), if_pos (nI_lt (by omega) (by decide))]
  · rw [if_neg h1]
    by_cases h2 : c < 2 * m
    · rw [if_pos h2, if_neg (fun z => by have := (nI_eq (by omega) (by decide)).mp z; omega), if_neg (nI_nlt (by omega) (by omega)), nI_add, pk_sub (by omega)]
      congr 2
      omega
    · rw [if_neg h2, if_pos rfl, nI_2]
      congr 2
      omega
theorem cmpl_lt {m c : Nat} (h : c < 2 * m) : cmpl m c < 2 * m := by
  unfold cmpl
  by_cases q : c < m
  · rw [if_pos q]; omega
  · rw [if_neg q]; omega

/-! the rows compared -/
def fz (f : Nat → Int) : Nat → Nat → Int
  | 0, _ => 0
  | n + 1, k => if f k = 0 then fz f n (k + 1) else f k
/-- below 0: row r is LESS than row s -/
def lsz (g : Nat → Nat → Int) (wr ws : Int) (m r s : Nat) : Int := if g r (2 * m + 1) * ws - g s (2 * m + 1) * wr = 0 then fz (fun c => g r c * ws - g s c * wr) m 0 else g r (2 * m + 1) * ws - g s (2 * m + 1) * wr
def gI (G : Nat → Nat → Int64) : Nat → Nat → Int := fun r c => (G r c).toInt
theorem sgI_0 (z : Int) : sgI z = 0 ↔ z = 0 := by
  unfold sgI
  by_cases h : z < 0
  · rw [if_pos h]; exact ⟨fun q => absurd q (by decide), fun q => by omega⟩
  · rw [if_neg h]
    by_cases e : z = 0
    · rw [if_pos e]; exact ⟨fun _ => e, fun _ => rfl⟩
    · rw [if_neg e]; exact ⟨fun q => absurd q (by decide), fun q => absurd q e⟩
theorem sgI_ge (z : Int) : 0 ≤ sgI z ↔ ¬ z < 0 := by
  unfold sgI
  by_cases h : z < 0
  · rw [if_pos h]; exact ⟨fun q => absurd q (by decide), fun q => absurd h q⟩
  · rw [if_neg h]
    by_cases e : z = 0
    · rw [if_pos e]; exact ⟨fun _ => h, fun _ => by decide⟩
    · rw [if_neg e]; exact ⟨fun _ => h, fun _ => by decide⟩
theorem suc_of {n j : Nat} (h : j < n) : ∃ q, n = q + 1 ∧ j ≤ q := ⟨n - 1, by omega, by omega⟩
theorem cLess_L (N m r s : Nat) (hm : m ≤ 12) (hr : r < m) (hs : s < m) (wr ws : Int64) (σ : CS) (hrw : c_rw σ = nI m) : ∀ (j k n : Nat) (z : Int), k + j = m → j < n →
    f_X1_isLess_L50 N n (nI r) (nI s) wr ws (sgI z) (nI k) σ = some (if (if z = 0 then fz (fun c => gI (c_gg σ) r c * ws.toInt - gI (c_gg σ) s c * wr.toInt) j k else z) < 0 then 1 else 0) := by
  intro j
  induction j with
  | zero =>
    intro k n z hk hn
    obtain ⟨n, rfl, hn⟩ := suc_of hn
    rw [f_X1_isLess_L50, hrw, if_pos (nI_le (by omega) (by omega))]
    by_cases hz : z < 0
    · rw [if_neg (fun q => (sgI_ge z).mp q hz), if_neg (show ¬ z = 0 by omega), if_pos hz]
    · rw [if_pos ((sgI_ge z).mpr hz)]
      by_cases e : z = 0
      · rw [if_pos e, if_neg (by simp [fz])]
      · rw [if_neg e, if_neg hz]
  | succ j ih =>
    intro k n z hk hn
    obtain ⟨n, rfl, hn⟩ := suc_of hn
    rw [f_X1_isLess_L50, hrw, if_neg (nI_ge (by omega) (by omega))]
    by_cases e : z = 0
    · rw [if_pos ((sgI_0 z).mpr e), gd_n (by omega) (by decide), gd_n (by omega) (by decide), gd_n (by omega) (by decide), gd_n (by omega) (by decide), gd_n (by omega) (by decide), gd_n (by omega) (by decide)]
      rw [nI_clamp (n := r) (by omega), nI_clamp (n := s) (by omega), nI_clamp (n := k) (by omega), crS, bs_d, lt_d, nI_1, ih (k + 1) n _ (by omega) (by omega), if_pos e, fz]
      rfl
    · rw [if_neg (fun q => e ((sgI_0 z).mp q)), if_neg e]
      by_cases hz : z < 0
      · rw [if_neg (fun q => (sgI_ge z).mp q hz), if_pos hz]
      · rw [if_pos ((sgI_ge z).mpr hz), if_neg hz]
theorem cQs {m : Nat} {σ : CS} (hrw : c_rw σ = nI m) : f_X1_columnOfQ σ = some (nI (2 * m + 1)) := by
  rw [f_X1_columnOfQ, hrw, nI_2, nI_1]
theorem cYs {m : Nat} {σ : CS} (hrw : c_rw σ = nI m) : f_X1_columnOfY σ = some (nI (2 * m)) := by
  rw [f_X1_columnOfY, hrw, nI_2]
/-- the weight of row r for a column: 1 at the first step -/
def wt (st : Int32) (G : Nat → Nat → Int64) (col r : Nat) : Int64 := if st = 0 then 1 else G r col
theorem cWt {r col : Nat} (hr : r < 12) (hc : col < 26) (σ : CS) : f_X1_weight (nI r) (nI col) σ = some (wt (c_st σ) (c_gg σ) col r) := by
  rw [f_X1_weight, wt]
  by_cases h : c_st σ = 0
  · rw [if_pos h, if_pos h]
  · rw [if_neg h, if_neg h, gd_n hr (by decide), gd_n hr (by decide), gd_n hc (by decide), nI_clamp (by omega), nI_clamp (by omega)]
def b01 (b : Bool) : Int32 := if b = true then 1 else 0
def lsB (g : Nat → Nat → Int) (wr ws : Int) (m r s : Nat) : Bool := decide (lsz g wr ws m r s < 0)
theorem cLess (N m r s col : Nat) (hN : m < N) (hm : m ≤ 12) (hr : r < m) (hs : s < m) (hc : col < 26) (σ : CS) (hrw : c_rw σ = nI m) :
    f_X1_isLess N (nI r) (nI s) (nI col) σ = some (b01 (lsB (gI (c_gg σ)) (wt (c_st σ) (c_gg σ) col r).toInt (wt (c_st σ) (c_gg σ) col s).toInt m r s)) := by
  rw [f_X1_isLess, cWt (by omega) hc, bs_d, cWt (by omega) hc, bs_d, gd_n (by omega) (by decide), cQs hrw, bs_d, gd_n (by omega) (by decide), gd_n (by omega) (by decide), gd_n (by omega) (by decide), bs_d, gd_n (by omega) (by decide), gd_n (by omega) (by decide)]
  rw [nI_clamp (n := r) (by omega), nI_clamp (n := s) (by omega), nI_clamp (n := 2 * m + 1) (by omega), crS, bs_d]
  have h := cLess_L N m r s hm hr hs (wt (c_st σ) (c_gg σ) col r) (wt (c_st σ) (c_gg σ) col s) σ hrw m 0 N ((c_gg σ r (2 * m + 1)).toInt * (wt (c_st σ) (c_gg σ) col s).toInt - (c_gg σ s (2 * m + 1)).toInt * (wt (c_st σ) (c_gg σ) col r).toInt) (by omega) hN
  rw [nI_0] at h
  rw [h]
  unfold b01 lsB lsz
  simp only [decide_eq_true_eq]
  rfl
/-! the least row -/
def lp (w : Nat → Int) (ls : Nat → Nat → Bool) (r : Nat) (b : Option Nat) : Option Nat := if w r ≤ 0 then b else match b with
  | none => some r
  | some q => if ls r q = true then some r else some q
theorem lp_le {w : Nat → Int} {ls : Nat → Nat → Bool} {r : Nat} {b : Option Nat} (h : w r ≤ 0) : lp w ls r b = b := if_pos h
theorem lp_no {w : Nat → Int} {ls : Nat → Nat → Bool} {r : Nat} (h : ¬ w r ≤ 0) : lp w ls r none = some r := if_neg h
theorem lp_t {w : Nat → Int} {ls : Nat → Nat → Bool} {r q : Nat} (h : ¬ w r ≤ 0) (hl : ls r q = true) : lp w ls r (some q) = some r := by
  unfold lp
  rw [if_neg h]
  exact if_pos hl
theorem lp_f {w : Nat → Int} {ls : Nat → Nat → Bool} {r q : Nat} (h : ¬ w r ≤ 0) (hl : ¬ ls r q = true) : lp w ls r (some q) = some q := by
  unfold lp
  rw [if_neg h]
  exact if_neg hl
def lr (w : Nat → Int) (ls : Nat → Nat → Bool) : Nat → Nat → Option Nat → Option Nat
  | 0, _, b => b
  | n + 1, r, b => lr w ls n (r + 1) (lp w ls r b)
def oI (b : Option Nat) : Int32 := match b with
  | none => -1
  | some r => nI r
theorem nI_nm1 {k : Nat} (h : k < 2 ^ 31) : ¬ nI k = (-1 : Int32) := fun q => by
  have := nI_pos h
  rw [q] at this
  exact this (by decide)
theorem i64_le0 (x : Int64) : lg_cmp x (0 : Int64) ≤ 0 ↔ x.toInt ≤ 0 := by
  rw [lc_le, Int64.le_iff_toInt_le]
  exact Iff.rfl
theorem b01_0 (b : Bool) : b01 b = 0 ↔ ¬ b = true := by
  unfold b01
  cases b <;> simp
theorem cLr_L (N m col : Nat) (hN : m < N) (hm : m ≤ 12) (hc : col < 26) (σ : CS) (hrw : c_rw σ = nI m) : ∀ (j r n : Nat) (b : Option Nat), r + j = m → j < n → (∀ q, b = some q → q < m) →
    f_X1_leastRow_L4 N n (nI col) (oI b) (nI r) σ = some (oI (lr (fun r => (wt (c_st σ) (c_gg σ) col r).toInt) (fun r s => lsB (gI (c_gg σ)) (wt (c_st σ) (c_gg σ) col r).toInt (wt (c_st σ) (c_gg σ) col s).toInt m r s) j r b)) := by
  intro j
  induction j with
  | zero =>
    intro r n b hk hn hb
    obtain ⟨n, rfl, hn⟩ := suc_of hn
    rw [f_X1_leastRow_L4, hrw, if_pos (nI_le (by omega) (by omega)), lr]
  | succ j ih =>
    intro r n b hk hn hb
    obtain ⟨n, rfl, hn⟩ := suc_of hn
    rw [f_X1_leastRow_L4, hrw, if_neg (nI_ge (by omega) (by omega)), cWt (by omega) hc, bs_d, lr]
    by_cases hw : (wt (c_st σ) (c_gg σ) col r).toInt ≤ 0
    · rw [if_pos ((i64_le0 _).mpr hw), lp_le (by exact hw), lt_d, nI_1, ih (r + 1) n b (by omega) (by omega) hb]
    · rw [if_neg (fun q => hw ((i64_le0 _).mp q))]
      cases b with
      | none =>
        have e : oI none = (-1 : Int32) := rfl
        rw [e, if_pos rfl, lt_d, nI_1, lp_no (by exact hw)]
        exact ih (r + 1) n (some r) (by omega) (by omega) (fun q h => by cases h; omega)
      | some q =>
        have hq := hb q rfl
        have e : oI (some q) = nI q := rfl
        rw [e, if_neg (nI_nm1 (by omega)), cLess N m r q col hN hm (by omega) hq hc σ hrw, bs_d]
        by_cases hl : lsB (gI (c_gg σ)) (wt (c_st σ) (c_gg σ) col r).toInt (wt (c_st σ) (c_gg σ) col q).toInt m r q = true
        · rw [if_neg (fun z => (b01_0 _).mp z hl), lt_d, nI_1, lp_t (by exact hw) (by exact hl)]
          exact ih (r + 1) n (some r) (by omega) (by omega) (fun q h => by cases h; omega)
        · rw [if_pos ((b01_0 _).mpr hl), lt_d, nI_1, lp_f (by exact hw) (by exact hl)]
          exact ih (r + 1) n (some q) (by omega) (by omega) (fun q h => by cases h; omega)
theorem cLr (N m col : Nat) (hN : m < N) (hm : m ≤ 12) (hc : col < 26) (σ : CS) (hrw : c_rw σ = nI m) :
    f_X1_leastRow N (nI col) σ = some (oI (lr (fun r => (wt (c_st σ) (c_gg σ) col r).toInt) (fun r s => lsB (gI (c_gg σ)) (wt (c_st σ) (c_gg σ) col r).toInt (wt (c_st σ) (c_gg σ) col s).toInt m r s) m 0 none)) := by
  rw [f_X1_leastRow]
  exact cLr_L N m col hN hm hc σ hrw m 0 N none (by omega) hN (fun q h => by cases h)

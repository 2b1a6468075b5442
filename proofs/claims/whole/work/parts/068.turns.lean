/-! a turn of both, where the invariant holds -/
theorem oi_ng (x : Int64) : -x = Int64.ofInt (-x.toInt) := by rw [Int64.ofInt_neg, oi_t]
theorem TI_cg {m : Nat} {A : Nat → Nat → Int} {t : Nat → Nat} {g g2 : Nat → Nat → Int} {s e : Int} (h : TI m A t g s e) (hg : ∀ r c, r < m → c ≤ 2 * m + 1 → g2 r c = g r c) : TI m A t g2 s e := by
  obtain ⟨h1, h2, h3, h4, h5⟩ := h
  refine ⟨h1, h2, h3, fun r c hr hc => ?_, fun c i hc hi => ?_⟩
  · rw [hg r c hr hc, h4 r c hr hc]
  · rw [h5 c i hc hi]
    exact sm_congr (fun r hr => by rw [hg r c hr hc])
def sn1 (p : Int) : Int := if 0 < p then 1 else -1
theorem TI_turn {m : Nat} {A : Nat → Nat → Int} {t : Nat → Nat} {g : Nat → Nat → Int} {s e : Int} (h : TI m A t g s e) {row col : Nat} (hrow : row < m) (hcol : col ≤ 2 * m + 1) (hp : g row col ≠ 0) : TI m A (t1 t row col) (fun r c => sn1 (g row col) * zZ m A t e row col r c) (sn1 (g row col) * g row col) (sn1 (g row col) * e) := by
  unfold sn1
  by_cases q : 0 < g row col
  · rw [if_pos q, Int.one_mul, Int.one_mul]
    exact TI_pos h hrow hcol q (fun r c _ _ => Int.one_mul _)
  · rw [if_neg q]
    have e1 : (-1 : Int) * g row col = - g row col := by omega
    have e2 : (-1 : Int) * e = -e := by omega
    rw [e1, e2]
    exact TI_neg h hrow hcol (by omega) (fun r c _ _ => by omega)
theorem t1_le {n : Nat} {t : Nat → Nat} {row col : Nat} (ht : ∀ r, r < 2 * n → t r ≤ 4 * n) (hcol : col ≤ 4 * n) : ∀ r, r < 2 * n → t1 t row col r ≤ 4 * n := fun r hr => by
  unfold t1
  by_cases q : r = row
  · rw [if_pos q]; exact hcol
  · rw [if_neg q]; exact ht r hr
theorem cTurn {N n q : Nat} (hN : 600 < N) (hok : okNQ n q) {A : Nat → Nat → Int} (hA : ∀ c, kdOk n q (kd n c) (A c)) {t : Nat → Nat} {σ : CS} {e : Int} (hrw : c_rw σ = nI (2 * n)) (h : TI (2 * n) A t (gI (c_gg σ)) (c_sc σ).toInt e) (ht : ∀ r, r < 2 * n → t r ≤ 4 * n) {row col : Nat} (hrow : row < 2 * n) (hcol : col ≤ 4 * n) (hp : gI (c_gg σ) row col ≠ 0) :
    ∃ G2, f_X1_turn N (nI row) (nI col) σ = some (s_sc (s_gg σ G2) (Int64.ofInt (sn1 (gI (c_gg σ) row col) * gI (c_gg σ) row col))) ∧ ∀ r c, r < 2 * n → c ≤ 2 * (2 * n) + 1 → G2 r c = Int64.ofInt (sn1 (gI (c_gg σ) row col) * zZ (2 * n) A t e row col r c) := by
  have hn6 : n ≤ 6 := by
    rcases hok.2 with ⟨_, h2⟩ | ⟨_, h2⟩ <;> omega
  have hs := h.2.1
  have hZ : ∀ r, r < 2 * n → r ≠ row → ∀ c, c < 2 * (2 * n) + 2 → gI (c_gg σ) row col * gI (c_gg σ) r c - gI (c_gg σ) r col * gI (c_gg σ) row c = (c_sc σ).toInt * zZ (2 * n) A t e row col r c := fun r hr hne c hc => TI_z h hrow (by omega) hr (by omega) hne
  have hR : ∀ c, c ≤ 2 * (2 * n) + 1 → zZ (2 * n) A t e row col row c = gI (c_gg σ) row c := fun c hc => TI_row h hrow hc
  by_cases hq : 0 < gI (c_gg σ) row col
  · refine ⟨tnS (c_gg σ) row (2 * n) 0 (zZ (2 * n) A t e row col), ?_, fun r c hr hc => ?_⟩
    · rw [cTn (m := 2 * n) (by omega) (by omega) hrow (by omega) hrw (by omega) hs (zZ (2 * n) A t e row col) hZ, sn1, if_pos hq, Int.one_mul]
      congr 2
      exact (oi_t _).symm
    · rw [sn1, if_pos hq, Int.one_mul]
      unfold tnS
      by_cases er : r = row
      · rw [if_neg (fun z => z.2.2.1 er), er, hR c hc]
        exact (oi_t _).symm
      · rw [if_pos ⟨by omega, hr, er, by omega⟩]
  · have hb : ∀ c, c ≤ 2 * (2 * n) + 1 → (-(c_gg σ row c)).toInt = - gI (c_gg σ) row c := fun c hc => by
      have b := TI_bd hok hA h ht hrow hc
      have b : (c_gg σ row c).toInt.natAbs ≤ 43520000000000000 := b
      rw [oi_ng]
      exact oi_in (by omega) (by omega)
    have hG1 : ∀ c, c ≤ 2 * (2 * n) + 1 → rwS (c_gg σ) row (fun c => - c_gg σ row c) 0 (2 * (2 * n) + 2) row c = - c_gg σ row c := fun c hc => if_pos ⟨rfl, by omega, by omega⟩
    have hG2 : ∀ r c, r ≠ row → rwS (c_gg σ) row (fun c => - c_gg σ row c) 0 (2 * (2 * n) + 2) r c = c_gg σ r c := fun r c hr => if_neg (fun z => hr z.1)
    have g1 : ∀ c, c ≤ 2 * (2 * n) + 1 → gI (rwS (c_gg σ) row (fun c => - c_gg σ row c) 0 (2 * (2 * n) + 2)) row c = - gI (c_gg σ) row c := fun c hc => by
      unfold gI
      rw [hG1 c hc]
      exact hb c hc
    have g2 : ∀ r c, r ≠ row → gI (rwS (c_gg σ) row (fun c => - c_gg σ row c) 0 (2 * (2 * n) + 2)) r c = gI (c_gg σ) r c := fun r c hr => by
      unfold gI
      rw [hG2 r c hr]
    have hlt : ¬ 0 ≤ lg_cmp (c_gg σ row col) (0 : Int64) := by
      rw [lc_ge, Int64.le_iff_toInt_le]
      intro z
      have z : 0 ≤ gI (c_gg σ) row col := z
      omega
    have hge : 0 ≤ lg_cmp (c_gg (s_gg σ (rwS (c_gg σ) row (fun c => - c_gg σ row c) 0 (2 * (2 * n) + 2))) row col) (0 : Int64) := by
      rw [lc_ge, Int64.le_iff_toInt_le, cs_gg_gg, hG1 col (by omega), hb col (by omega), show (0 : Int64).toInt = 0 from rfl]
      omega
    have e1 : f_X1_turn N (nI row) (nI col) σ = f_X1_turn N (nI row) (nI col) (s_gg σ (rwS (c_gg σ) row (fun c => - c_gg σ row c) 0 (2 * (2 * n) + 2))) := by
      rw [f_X1_turn, gd_n (by omega) (by decide), gd_n (by omega) (by decide), gd_n (by omega) (by decide), nI_clamp (n := row) (by omega), nI_clamp (n := col) (by omega), if_neg hlt, cNg (m := 2 * n) (by omega) (by omega) hrow hrw, bs_d]
      rw [f_X1_turn, gd_n (by omega) (by decide), gd_n (by omega) (by decide), gd_n (by omega) (by decide), nI_clamp (n := row) (by omega), nI_clamp (n := col) (by omega), if_pos hge]
    have tt := cTn (N := N) (m := 2 * n) (by omega) (by omega) hrow (col := col) (by omega) (σ := s_gg σ (rwS (c_gg σ) row (fun c => - c_gg σ row c) 0 (2 * (2 * n) + 2))) (by rw [cs_rw_gg]; exact hrw) (by rw [cs_gg_gg, g1 col (by omega)]; omega) (by rw [cs_sc_gg]; exact hs) (fun r c => - zZ (2 * n) A t e row col r c) (fun r hr hne c hc => by
      rw [cs_gg_gg, cs_sc_gg, g1 col (by omega), g2 r c hne, g2 r col hne, g1 c (by omega)]
      have z := hZ r hr hne c hc
      rw [Int.neg_mul, Int.mul_neg, Int.mul_neg, ← z]
      omega)
    rw [cs_gg_gg, ss_gg] at tt
    refine ⟨tnS (rwS (c_gg σ) row (fun c => - c_gg σ row c) 0 (2 * (2 * n) + 2)) row (2 * n) 0 (fun r c => - zZ (2 * n) A t e row col r c), ?_, fun r c hr hc => ?_⟩
    · rw [e1, tt, sn1, if_neg hq, hG1 col (by omega), oi_ng]
      congr 3
      show - gI (c_gg σ) row col = _
      omega
    · rw [sn1, if_neg hq]
      unfold tnS
      by_cases er : r = row
      · rw [if_neg (fun z => z.2.2.1 er), er, hR c hc, hG1 c hc, oi_ng]
        congr 1
        show - gI (c_gg σ) row c = _
        omega
      · rw [if_pos ⟨by omega, hr, er, by omega⟩]
        congr 1
        show - zZ (2 * n) A t e row col r c = _
        omega
theorem sT_bl2 {μ ν : MS} (h : sT μ ν) (x : Int64) : sT (n_bl μ x) (n_bl ν x) := by
  obtain ⟨t, a, b, rfl⟩ := h
  refine ⟨t, a, b, ?_⟩
  exact match μ with
  | (_, _, _, _, _, _, _, _, _, _, _, _, _, _, _, _, _, _, _, _) => by simp only [n_lo, n_hi, n_tb, n_bl]
theorem mTurn {N n q : Nat} (hN : 600 < N) (hok : okNQ n q) {A : Nat → Nat → Int} (hA : ∀ c, kdOk n q (kd n c) (A c)) {t : Nat → Nat} {μ : MS} {e : Int} (hrw : m_rw μ = nI (2 * n)) (h : TI (2 * n) A t (gI (tG (m_tb μ))) (m_bl μ).toInt e) (ht : ∀ r, r < 2 * n → t r ≤ 4 * n) {row col : Nat} (hrow : row < 2 * n) (hcol : col ≤ 4 * n) (hp : gI (tG (m_tb μ)) row col ≠ 0) :
    ∃ ν, f_X4_turn N (nI row) (nI col) μ = some ν ∧ sT (n_bl μ (Int64.ofInt (sn1 (gI (tG (m_tb μ)) row col) * gI (tG (m_tb μ)) row col))) ν ∧ ∀ r c, r < 2 * n → c ≤ 2 * (2 * n) + 1 → tG (m_tb ν) r c = Int64.ofInt (sn1 (gI (tG (m_tb μ)) row col) * zZ (2 * n) A t e row col r c) := by
  have hn6 : n ≤ 6 := by
    rcases hok.2 with ⟨_, h2⟩ | ⟨_, h2⟩ <;> omega
  have hs := h.2.1
  have hZ : ∀ r, r < 2 * n → r ≠ row → ∀ c, c < 2 * (2 * n) + 2 → gI (tG (m_tb μ)) row col * gI (tG (m_tb μ)) r c - gI (tG (m_tb μ)) r col * gI (tG (m_tb μ)) row c = (m_bl μ).toInt * zZ (2 * n) A t e row col r c := fun r hr hne c hc => TI_z h hrow (by omega) hr (by omega) hne
  have hR : ∀ c, c ≤ 2 * (2 * n) + 1 → zZ (2 * n) A t e row col row c = gI (tG (m_tb μ)) row c := fun c hc => TI_row h hrow hc
  by_cases hq : 0 < gI (tG (m_tb μ)) row col
  · obtain ⟨ν, h1, h2, h3⟩ := mTn (N := N) (m := 2 * n) (by omega) (by omega) hrow (col := col) (by omega) hrw (by omega) hs (zZ (2 * n) A t e row col) hZ
    have e1 : Int64.ofInt (sn1 (gI (tG (m_tb μ)) row col) * gI (tG (m_tb μ)) row col) = tG (m_tb μ) row col := by
      rw [sn1, if_pos hq, Int.one_mul]
      exact oi_t _
    rw [e1]
    refine ⟨_, h1, sT_bl2 h2 _, fun r c hr hc => ?_⟩
    rw [mn_tb_bl, h3 r c (by omega), sn1, if_pos hq, Int.one_mul]
    unfold tnS
    by_cases er : r = row
    · rw [if_neg (fun z => z.2.2.1 er), er, hR c hc]
      exact (oi_t _).symm
    · rw [if_pos ⟨by omega, hr, er, by omega⟩]
  · obtain ⟨ν, h1, h2, h3⟩ := mTn0 (N := N) (m := 2 * n) (by omega) (by omega) hrow (col := col) (by omega) hrw (by omega) hs (zZ (2 * n) A t e row col) hZ
    have e1 : Int64.ofInt (sn1 (gI (tG (m_tb μ)) row col) * gI (tG (m_tb μ)) row col) = -(tG (m_tb μ) row col) := by
      rw [sn1, if_neg hq, oi_ng]
      congr 1
      show _ = - gI (tG (m_tb μ)) row col
      omega
    rw [e1]
    refine ⟨_, h1, h2, fun r c hr hc => ?_⟩
    rw [h3 r c (by omega), sn1, if_neg hq]
    unfold ngS
    rw [if_pos ⟨by omega, hr, by omega⟩]
    unfold tnS
    by_cases er : r = row
    · rw [if_neg (fun z => z.2.2.1 er), er, hR c hc, oi_ng]
      congr 1
      show - gI (tG (m_tb μ)) row c = _
      omega
    · rw [if_pos ⟨by omega, hr, er, by omega⟩, ← Int64.ofInt_neg]
      congr 1
      omega
/-! the least row hangs on what stands in the table alone -/
theorem fz_cg {f f2 : Nat → Int} : ∀ (n k : Nat), (∀ c, k ≤ c → c < k + n → f c = f2 c) → fz f n k = fz f2 n k := by
  intro n
  induction n with
  | zero => intro k _; rfl
  | succ n ih =>
    intro k h
    rw [fz, fz, h k (Nat.le_refl k) (by omega), ih (k + 1) (fun c h1 h2 => h c (by omega) (by omega))]
theorem lsB_cg {g g2 : Nat → Nat → Int} {wr ws : Int} {m r s : Nat} (hr : ∀ c, c ≤ 2 * m + 1 → g r c = g2 r c) (hs : ∀ c, c ≤ 2 * m + 1 → g s c = g2 s c) : lsB g wr ws m r s = lsB g2 wr ws m r s := by
  unfold lsB lsz
  rw [hr (2 * m + 1) (Nat.le_refl _), hs (2 * m + 1) (Nat.le_refl _), fz_cg m 0 (f := fun c => g r c * ws - g s c * wr) (f2 := fun c => g2 r c * ws - g2 s c * wr) (fun c _ h => by rw [hr c (by omega), hs c (by omega)])]
theorem lr_cg {w w2 : Nat → Int} {ls ls2 : Nat → Nat → Bool} {m : Nat} (hw : ∀ r, r < m → w r = w2 r) (hl : ∀ r s, r < m → s < m → ls r s = ls2 r s) : ∀ (j r : Nat) (b : Option Nat), r + j = m → (∀ q, b = some q → q < m) → lr w ls j r b = lr w2 ls2 j r b := by
  intro j
  induction j with
  | zero => intro r b _ _; rfl
  | succ j ih =>
    intro r b hr hb
    have e : lp w ls r b = lp w2 ls2 r b := by
      unfold lp
      rw [hw r (by omega)]
      by_cases h : w2 r ≤ 0
      · rw [if_pos h, if_pos h]
      · rw [if_neg h, if_neg h]
        cases b with
        | none => rfl
        | some q =>
          show (if ls r q = true then some r else some q) = (if ls2 r q = true then some r else some q)
          rw [hl r q (by omega) (hb q rfl)]
    rw [lr, lr, e]
    refine ih (r + 1) _ (by omega) (fun q hq => ?_)
    unfold lp at hq
    by_cases h : w2 r ≤ 0
    · rw [if_pos h] at hq; exact hb q hq
    · rw [if_neg h] at hq
      cases b with
      | none =>
        have hq : some r = some q := hq
        cases hq; omega
      | some x =>
        have hq : (if ls2 r x = true then some r else some x) = some q := hq
        have hx := hb x rfl
        by_cases h2 : ls2 r x = true
        · rw [if_pos h2] at hq; cases hq; omega
        · rw [if_neg h2] at hq; cases hq; omega

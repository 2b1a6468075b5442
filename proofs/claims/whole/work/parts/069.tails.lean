def cTail (N : Nat) (r38 : Int32) (σ : CS) : Option CS := (f_X1_leastRow N r38 σ).bind (fun r40 => if r40 = (-1 : Int32) then lt_ (s_sa σ (2 : Int32)) (fun σ71 => some σ71) else gd (inB (c_st σ) 200) (lt_ (s_en σ (upd (c_en σ) (c_st σ).toNatClampNeg r38)) (fun σ44 => gd (inB r40 12) (gd (inB (c_st σ44) 200) (lt_ (s_lf σ44 (upd (c_lf σ44) (c_st σ44).toNatClampNeg (c_tl σ44 r40.toNatClampNeg))) (fun σ48 => gd (inB (c_st σ48) 200) (lt_ (s_ta σ48 (upd (c_ta σ48) (c_st σ48).toNatClampNeg r40)) (fun σ51 => lt_ (s_st σ51 ((c_st σ51) + (1 : Int32))) (fun σ53 => gd (inB r40 12) ((f_X1_columnOfY σ53).bind (fun r56 => if (c_tl σ53 r40.toNatClampNeg) = r56 then lt_ (s_sa σ53 (1 : Int32)) (fun σ64 => (f_X1_turn N r40 r38 σ64).bind (fun r66 => gd (inB r40 12) (lt_ (s_tl r66 (upd (c_tl r66) r40.toNatClampNeg r38)) (fun σ69 => some σ69)))) else (f_X1_turn N r40 r38 σ53).bind (fun r59 => gd (inB r40 12) (lt_ (s_tl r59 (upd (c_tl r59) r40.toNatClampNeg r38)) (fun σ62 => some σ62))))))))))))))
theorem sa_self (σ : CS) : s_sa σ (c_sa σ) = σ := match σ with
  | (_, _, _, _, _, _, _, _, _, _, _, _, _, _, _, _) => rfl
theorem cTail_none {N : Nat} {col : Nat} {σ : CS} (h : f_X1_leastRow N (nI col) σ = some (-1)) : cTail N (nI col) σ = some (s_sa σ 2) := by
  rw [cTail, h, bs_d, if_pos rfl, lt_d]
/-- where y leaves: DONE -/
def dnY (n t : Nat) : Int32 := if t = 4 * n then 1 else 0
theorem cTail_some {N n q : Nat} (hN : 600 < N) (hok : okNQ n q) {A : Nat → Nat → Int} (hA : ∀ c, kdOk n q (kd n c) (A c)) {t : Nat → Nat} {σ : CS} {e : Int} (hrw : c_rw σ = nI (2 * n)) (h : TI (2 * n) A t (gI (c_gg σ)) (c_sc σ).toInt e) (ht : ∀ r, r < 2 * n → t r ≤ 4 * n) {row col : Nat} (hrow : row < 2 * n) (hcol : col ≤ 4 * n) (hp : gI (c_gg σ) row col ≠ 0) {st : Nat} (hst : c_st σ = nI st) (hlt : st < 200) (hsa : c_sa σ = 0) (htl : c_tl σ row = nI (t row)) (hl : f_X1_leastRow N (nI col) σ = some (nI row)) :
    ∃ G2, cTail N (nI col) σ = some (s_tl (s_sc (s_gg (s_sa (s_st (s_ta (s_lf (s_en σ (upd (c_en σ) st (nI col))) (upd (c_lf σ) st (c_tl σ row))) (upd (c_ta σ) st (nI row))) (nI (st + 1))) (dnY n (t row))) G2) (Int64.ofInt (sn1 (gI (c_gg σ) row col) * gI (c_gg σ) row col))) (upd (c_tl σ) row (nI col))) ∧ ∀ r c, r < 2 * n → c ≤ 2 * (2 * n) + 1 → G2 r c = Int64.ofInt (sn1 (gI (c_gg σ) row col) * zZ (2 * n) A t e row col r c) := by
  have hn6 : n ≤ 6 := by
    rcases hok.2 with ⟨_, h2⟩ | ⟨_, h2⟩ <;> omega
  have htr := ht row hrow
  have hsa1 : c_sa (s_st (s_ta (s_lf (s_en σ (upd (c_en σ) st (nI col))) (upd (c_lf σ) st (c_tl σ row))) (upd (c_ta σ) st (nI row))) (nI (st + 1))) = 0 := by rw [cs_sa_st, cs_sa_ta, cs_sa_lf, cs_sa_en]; exact hsa
  have e0 : (s_st (s_ta (s_lf (s_en σ (upd (c_en σ) st (nI col))) (upd (c_lf σ) st (c_tl σ row))) (upd (c_ta σ) st (nI row))) (nI (st + 1))) = s_sa (s_st (s_ta (s_lf (s_en σ (upd (c_en σ) st (nI col))) (upd (c_lf σ) st (c_tl σ row))) (upd (c_ta σ) st (nI row))) (nI (st + 1))) 0 := by
    have z := sa_self (s_st (s_ta (s_lf (s_en σ (upd (c_en σ) st (nI col))) (upd (c_lf σ) st (c_tl σ row))) (upd (c_ta σ) st (nI row))) (nI (st + 1)))
    rw [hsa1] at z
    exact z.symm
  obtain ⟨G2, g1, g2⟩ := cTurn (N := N) hN hok hA (t := t) (σ := s_sa (s_st (s_ta (s_lf (s_en σ (upd (c_en σ) st (nI col))) (upd (c_lf σ) st (c_tl σ row))) (upd (c_ta σ) st (nI row))) (nI (st + 1))) (dnY n (t row))) (e := e) (by rw [cs_rw_sa, cs_rw_st, cs_rw_ta, cs_rw_lf, cs_rw_en]; exact hrw) (by rw [cs_gg_sa, cs_gg_st, cs_gg_ta, cs_gg_lf, cs_gg_en, cs_sc_sa, cs_sc_st, cs_sc_ta, cs_sc_lf, cs_sc_en]; exact h) ht hrow hcol (by rw [cs_gg_sa, cs_gg_st, cs_gg_ta, cs_gg_lf, cs_gg_en]; exact hp)
  rw [cs_gg_sa, cs_gg_st, cs_gg_ta, cs_gg_lf, cs_gg_en] at g1 g2
  refine ⟨G2, ?_, g2⟩
  rw [cTail, hl, bs_d, if_neg (nI_nm1 (by omega)), hst, gd_n (by omega) (by decide), lt_d, nI_clamp (n := st) (by omega), gd_n (by omega) (by decide), cs_st_en, hst, gd_n (by omega) (by decide), lt_d, nI_clamp (n := st) (by omega), nI_clamp (n := row) (by omega), cs_lf_en, cs_tl_en, cs_st_lf, cs_st_en, hst, gd_n (by omega) (by decide), lt_d, nI_clamp (n := st) (by omega), cs_ta_lf, cs_ta_en, lt_d, cs_st_ta, cs_st_lf, cs_st_en, hst, nI_1, gd_n (by omega) (by decide), cYs (m := 2 * n) (by rw [cs_rw_st, cs_rw_ta, cs_rw_lf, cs_rw_en]; exact hrw), bs_d, cs_tl_st, cs_tl_ta, cs_tl_lf, cs_tl_en, htl]
  by_cases hd : t row = 4 * n
  · have ed : dnY n (t row) = 1 := if_pos hd
    rw [ed] at g1
    rw [htl] at g1
    rw [if_pos (by rw [hd, show 2 * (2 * n) = 4 * n by omega]), lt_d, g1, bs_d, gd_n (by omega) (by decide), lt_d, cs_tl_sc, cs_tl_gg, cs_tl_sa, cs_tl_st, cs_tl_ta, cs_tl_lf, cs_tl_en, ed]
  · have ed : dnY n (t row) = 0 := if_neg hd
    rw [ed, ← e0] at g1
    rw [htl] at g1
    rw [if_neg (fun z => hd (by have := (nI_eq (by omega) (by omega)).mp z; omega)), g1, bs_d, gd_n (by omega) (by decide), lt_d, cs_tl_sc, cs_tl_gg, cs_tl_st, cs_tl_ta, cs_tl_lf, cs_tl_en, ed]
    rw [htl] at e0
    rw [← e0]
theorem letr_200 {m c : Nat} (hm : m ≤ 12) (hc : c ≤ 2 * m) : letr m c < 2 ^ 31 ∧ (letr m c = 200 ↔ c = 2 * m) := by
  unfold letr
  by_cases h1 : c < m
  · rw [if_pos h1]; exact ⟨by omega, by omega⟩
  · rw [if_neg h1]
    by_cases h2 : c < 2 * m
    · rw [if_pos h2]; exact ⟨by omega, by omega⟩
    · rw [if_neg h2]; exact ⟨by omega, by omega⟩
theorem sM_sT {μ ν : MS} (h : sM μ ν) : sT μ ν := by
  have z := sT_of h (m_tb ν)
  rw [m_self] at z
  exact z
theorem mTail_none {N n2 : Nat} {lt : Int32} {col m : Nat} {μ : MS} (hrw : m_rw μ = nI m) (hm : m ≤ 12) : f_X4_does_L72 N (n2 + 1) lt (nI col) (-1) (nI m) μ = some (n_ry μ 1) := by
  rw [f_X4_does_L72, hrw, if_pos (nI_le (Nat.le_refl _) (by omega)), if_pos rfl, gd_t _ (by decide), lt_d]
theorem mTail_some {N n q : Nat} (hN : 600 < N) (hok : okNQ n q) {A : Nat → Nat → Int} (hA : ∀ c, kdOk n q (kd n c) (A c)) {t : Nat → Nat} {μ μ2 : MS} (hM : sM μ μ2) {e : Int} (hrw : m_rw μ = nI (2 * n)) (h : TI (2 * n) A t (gI (tG (m_tb μ))) (m_bl μ).toInt e) (ht : ∀ r, r < 2 * n → t r ≤ 4 * n) {row col : Nat} (hrow : row < 2 * n) (hcol : col ≤ 4 * n) (hp : gI (tG (m_tb μ)) row col ≠ 0) {st n2 : Nat} (hst : m_st μ = nI st) (hlt : st < 200) (htl : m_tl μ row = nI (letr (2 * n) (t row))) :
    ∃ ν, f_X4_does_L72 N (n2 + 1) (nI (letr (2 * n) col)) (nI col) (nI row) (nI (2 * n)) μ2 = some (n_st (n_dn (n_tl (n_la (n_lf (n_en ν (upd (m_en μ) st (nI (letr (2 * n) col)))) (upd (m_lf μ) st (m_tl μ row))) (upd (m_la μ) st (nI row))) (upd (m_tl μ) row (nI (letr (2 * n) col)))) (dnY n (t row))) (nI (st + 1))) ∧ sT (n_bl μ (Int64.ofInt (sn1 (gI (tG (m_tb μ)) row col) * gI (tG (m_tb μ)) row col))) ν ∧ ∀ r c, r < 2 * n → c ≤ 2 * (2 * n) + 1 → tG (m_tb ν) r c = Int64.ofInt (sn1 (gI (tG (m_tb μ)) row col) * zZ (2 * n) A t e row col r c) := by
  have hn6 : n ≤ 6 := by
    rcases hok.2 with ⟨_, h2⟩ | ⟨_, h2⟩ <;> omega
  have htr := ht row hrow
  obtain ⟨ν, g1, g2, g3⟩ := mTurn (N := N) hN hok hA (t := t) (μ := μ2) (e := e) (by rw [sM_rw hM]; exact hrw) (by rw [sM_tb hM, sM_bl hM]; exact h) ht hrow hcol (by rw [sM_tb hM]; exact hp)
  rw [sM_tb hM] at g2 g3
  have g4 := sT_tr (sT_bl2 (sM_sT hM) (Int64.ofInt (sn1 (gI (tG (m_tb μ)) row col) * gI (tG (m_tb μ)) row col))) g2
  have vst : m_st ν = nI st := by rw [sT_st g4, mn_st_bl]; exact hst
  have ven : m_en ν = m_en μ := by rw [sT_en g4, mn_en_bl]
  have vlf : m_lf ν = m_lf μ := by rw [sT_lf g4, mn_lf_bl]
  have vla : m_la ν = m_la μ := by rw [sT_la g4, mn_la_bl]
  have vtl : m_tl ν = m_tl μ := by rw [sT_tl g4, mn_tl_bl]
  refine ⟨ν, ?_, g4, g3⟩
  have hl2 := letr_200 (m := 2 * n) (c := t row) (by omega) (by omega)
  rw [f_X4_does_L72, sM_rw hM, hrw, if_pos (nI_le (Nat.le_refl _) (by omega)), if_neg (nI_nm1 (by omega)), g1, bs_d, vst, gd_n (by omega) (by decide), lt_d, nI_clamp (n := st) (by omega), ven, gd_n (by omega) (by decide), mn_st_en, vst, gd_n (by omega) (by decide), lt_d, nI_clamp (n := st) (by omega), nI_clamp (n := row) (by omega), mn_lf_en, vlf, mn_tl_en, vtl, mn_st_lf, mn_st_en, vst, gd_n (by omega) (by decide), lt_d, nI_clamp (n := st) (by omega), mn_la_lf, mn_la_en, vla, gd_n (by omega) (by decide), lt_d, mn_tl_la, mn_tl_lf, mn_tl_en, vtl, mn_st_tl, mn_st_la, mn_st_lf, mn_st_en, vst, gd_n (by omega) (by decide), nI_clamp (n := st) (by omega), mn_lf_tl, mn_lf_la, mn_lf_lf, up_i, if_pos rfl, htl]
  by_cases hd : t row = 4 * n
  · have ed : dnY n (t row) = 1 := if_pos hd
    rw [if_pos (by rw [hl2.2.mpr (by omega)]; rfl), gd_t _ (by decide), lt_d, lt_d, mn_st_dn, mn_st_tl, mn_st_la, mn_st_lf, mn_st_en, vst, nI_1, ed]
  · have ed : dnY n (t row) = 0 := if_neg hd
    rw [if_neg (fun z => hd (by rw [show (200 : Int32) = nI 200 from rfl] at z; have := hl2.2.mp ((nI_eq hl2.1 (by decide)).mp z); omega)), gd_t _ (by decide), lt_d, lt_d, mn_st_dn, mn_st_tl, mn_st_la, mn_st_lf, mn_st_en, vst, nI_1, ed]

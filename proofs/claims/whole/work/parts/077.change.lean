/-! CHANGE -/
theorem Rel_sM {σ : CS} {μ μ2 : MS} (h : Rel σ μ) (hM : sM μ μ2) : Rel σ μ2 := by
  obtain ⟨n, hp, hh⟩ := h
  refine ⟨n, ptR_cg hp ⟨rfl, rfl, rfl, rfl, rfl, rfl, rfl⟩ (sM_P hM), ?_⟩
  rcases hh with ⟨a1, a2, a3, a4, a5, a6, a7⟩ | ⟨t, E, F, st, e, ht⟩
  · exact Or.inl ⟨by rw [sM_bg hM]; exact a1, by rw [sM_dn hM]; exact a2, by rw [sM_ry hM]; exact a3, by rw [sM_st hM]; exact a4, a5, a6, a7⟩
  · obtain ⟨b1, b2, b3, b4, b5, b6, b7, b8, b9, b10, b11, b12, b13, b14, b15⟩ := ht
    exact Or.inr ⟨t, E, F, st, e, b1, by rw [sM_bg hM]; exact b2, b3, by rw [sM_rw hM]; exact b4, b5, by rw [sM_st hM]; exact b6, b7, by rw [sM_bl hM]; exact b8, by rw [sM_tb hM]; exact b9, by rw [sM_tl hM]; exact b10, by rw [sM_en hM, sM_lf hM, sM_la hM]; exact b11, b12, b13, b14, by rw [sM_dn hM, sM_ry hM]; exact b15⟩
theorem sg_mul (d X : Int) : sgI d * sgI X = if d ≤ 0 then (if 0 ≤ d then 0 else - sgI X) else sgI X := by
  have hX : sgI X = -1 ∨ sgI X = 0 ∨ sgI X = 1 := by
    unfold sgI
    by_cases a : X < 0
    · rw [if_pos a]; exact Or.inl rfl
    · rw [if_neg a]
      by_cases b : X = 0
      · rw [if_pos b]; exact Or.inr (Or.inl rfl)
      · rw [if_neg b]; exact Or.inr (Or.inr rfl)
  by_cases a : d ≤ 0
  · rw [if_pos a]
    by_cases b : 0 ≤ d
    · have e : sgI d = 0 := by unfold sgI; rw [if_neg (by omega), if_pos (by omega)]
      rw [if_pos b, e, Int32.zero_mul]
    · have e : sgI d = -1 := by unfold sgI; rw [if_pos (by omega)]
      rw [if_neg b, e]
      rcases hX with z | z | z <;> (rw [z]; decide)
  · have e : sgI d = 1 := by unfold sgI; rw [if_neg (by omega), if_neg (by omega)]
    rw [if_neg a, e, Int32.one_mul]
theorem change_R {N : Nat} (hN : 600 < N) {σ : CS} {μ : MS} (h : Rel σ μ) (i x y : Int32) : ∃ v μ2, f_X3_change N i x y σ = some v ∧ f_X4_change N i x y μ = some (v, μ2) ∧ Rel σ μ2 := by
  obtain ⟨n, hp, hh⟩ := rel_done hN h
  have hp0 := hp
  obtain ⟨p1, p2, p3, p4, p5, p6, p7, p8, p9, p10, p11⟩ := hp
  have hn6 := pt_6 p9
  rw [f_X3_change, f_X4_change]
  rcases has_eq hn6 i σ μ p1 p2 with ⟨a, ha, rfl, a1, a2⟩ | ⟨a1, a2⟩
  · rw [a1, a2, bs_d, bs_d, if_neg n10, if_neg n10, f_X3_isInBox]
    by_cases x0 : x < 0
    · refine ⟨-2, μ, by rw [if_pos x0, bs_d, if_pos rfl], ?_, h⟩
      rw [in_s, bs_d, if_pos x0]
      by_cases q : (if y < 1 then (0 : Int32) else if 6 < y then 0 else 1) = 0
      · rw [if_pos q]
      · rw [if_neg q]
    · rw [if_neg x0]
      by_cases y1 : y < 1
      · rw [if_pos y1, bs_d, if_pos rfl, in_0 (Or.inl y1), bs_d, if_pos rfl]
        exact ⟨_, _, rfl, rfl, h⟩
      · rw [if_neg y1]
        by_cases y2 : y ≤ 6
        · rw [if_pos y2, in_1 y1 (nlt_i y2), bs_d, if_neg n10, if_neg x0, p7, p8]
          by_cases q : lg_cmp (x.toInt64 * (c_bB σ).toInt64) ((c_bA σ).toInt64 * y.toInt64) ≤ 0
          · rw [if_neg (nlt_i q), if_pos q, bs_d, if_neg n10]
            rcases hh with ⟨s, sh, hd, hs, k1, k2⟩ | ⟨k1, k2⟩
            · obtain ⟨s1, s2, s3⟩ := slope_s hN hp0 hd hs ha
              have bb := base_s hp0 hd
              have hsb := sh_b hp0 hd ha
              have hss := dn_s hp0 hd
              have h0 := hd.2.2.2.1
              rw [Int32.lt_iff_toInt_lt] at x0 y1
              rw [Int32.le_iff_toInt_le] at y2
              have e0 : (0 : Int32).toInt = 0 := rfl
              have e1 : (1 : Int32).toInt = 1 := rfl
              have e6 : (6 : Int32).toInt = 6 := rfl
              have hbB := p11
              have hbA := p10
              have hxr := fb_rng x
              -- the box holds it
              have hq : x.toInt * (c_bB σ).toInt ≤ (c_bA σ).toInt * y.toInt := by
                rw [lc_le, Int64.le_iff_toInt_le, pl_64 x, pl_64 (c_bB σ), pl_64 (c_bA σ), pl_64 y, ← Int64.ofInt_mul, ← Int64.ofInt_mul] at q
                have m1 : x.toInt * (c_bB σ).toInt ≤ 2147483648 * 6 := Int.mul_le_mul (by omega) (by omega) (by omega) (by omega)
                have m2 : 0 ≤ x.toInt * (c_bB σ).toInt := Int.mul_nonneg (by omega) (by omega)
                have m3 : (c_bA σ).toInt * y.toInt ≤ 20 * 6 := Int.mul_le_mul (by omega) (by omega) (by omega) (by omega)
                have m4 : 0 ≤ (c_bA σ).toInt * y.toInt := Int.mul_nonneg (by omega) (by omega)
                rw [oi_in (by omega) (by omega), oi_in (by omega) (by omega)] at q
                exact q
              have hq120 : x.toInt * (c_bB σ).toInt ≤ 120 := by
                have m3 : (c_bA σ).toInt * y.toInt ≤ 20 * 6 := Int.mul_le_mul (by omega) (by omega) (by omega) (by omega)
                omega
              have hq0 : 0 ≤ x.toInt * (c_bB σ).toInt := Int.mul_nonneg (by omega) (by omega)
              have d1 : x.toInt64 * (c_sc σ * (c_bB σ).toInt64) - sh a * y.toInt64 = Int64.ofInt (x.toInt * (c_bB σ).toInt * s - (sh a).toInt * y.toInt) := by
                rw [bb.1, Int64.ofInt_sub, Int64.ofInt_mul (sh a).toInt, oi_t, ← pl_64 y, pl_64 x, ← Int64.ofInt_mul]
                congr 2
                rw [Int.mul_comm s, Int.mul_assoc]
              have d2 : x.toInt64 * c_sc σ * (c_bB σ).toInt64 - sh a * y.toInt64 = Int64.ofInt (x.toInt * (c_bB σ).toInt * s - (sh a).toInt * y.toInt) := by
                rw [Int64.mul_assoc]; exact d1
              have m5 : x.toInt * (c_bB σ).toInt * s ≤ 120 * s := Int.mul_le_mul hq120 (Int.le_refl s) (by omega) (by omega)
              have m6 : 0 ≤ x.toInt * (c_bB σ).toInt * s := Int.mul_nonneg hq0 (by omega)
              have m7 : (sh a).toInt * y.toInt ≤ (20 * s) * 6 := Int.mul_le_mul hsb.2 (by omega) (by omega) (by omega)
              have m8 : 0 ≤ (sh a).toInt * y.toInt := Int.mul_nonneg hsb.1 (by omega)
              have hdb : (x.toInt * (c_bB σ).toInt * s - (sh a).toInt * y.toInt).natAbs ≤ 4080000000000000 := by omega
              generalize x.toInt * (c_bB σ).toInt * s - (sh a).toInt * y.toInt = d at d1 d2 hdb
              have d3 : (Int64.ofInt d).toInt = d := oi_in (by omega) (by omega)
              have hQ := Nat.le_trans (prd_b p9 ha ha) (qB_le (c_pw σ))
              have y3 : ((2 : Int32) * y).toInt = 2 * y.toInt := by
                rw [fb_mulI (by rw [show (2 : Int32).toInt = 2 from rfl]; omega) (by rw [show (2 : Int32).toInt = 2 from rfl]; omega)]
                rfl
              have y4 : ((2 : Int64) * y.toInt64).toInt = 2 * y.toInt := by
                rw [fb_mulL (by rw [show (2 : Int64).toInt = 2 from rfl, Int32.toInt_toInt64]; omega) (by rw [show (2 : Int64).toInt = 2 from rfl, Int32.toInt_toInt64]; omega), Int32.toInt_toInt64]
                rfl
              have n1 : (2 * y.toInt * slN n σ s sh a).natAbs ≤ 12 * 5440000000000000 := na_mul (by omega) s3
              have n2 : (d * (prd (c_pw σ) (c_xx σ) (c_yy σ) (c_lb σ) a a).toInt).natAbs ≤ 4080000000000000 * 1089 := na_mul hdb hQ
              have d4 : ((2 : Int32) * y).toInt64 * Int64.ofInt (slN n σ s sh a) - Int64.ofInt d * (prd (c_pw σ) (c_xx σ) (c_yy σ) (c_lb σ) a a).toInt64 = Int64.ofInt (2 * y.toInt * slN n σ s sh a - d * (prd (c_pw σ) (c_xx σ) (c_yy σ) (c_lb σ) a a).toInt) := by
                rw [Int64.ofInt_sub, Int64.ofInt_mul d, ← pl_64, Int64.ofInt_mul (2 * y.toInt), ← y3, ← pl_64]
              have d5 : (Int64.ofInt (2 * y.toInt * slN n σ s sh a - d * (prd (c_pw σ) (c_xx σ) (c_yy σ) (c_lb σ) a a).toInt)).toInt = 2 * y.toInt * slN n σ s sh a - d * (prd (c_pw σ) (c_xx σ) (c_yy σ) (c_lb σ) a a).toInt := oi_in (by omega) (by omega)
              have s4 : (Int64.ofInt (slN n σ s sh a)).toInt = slN n σ s sh a := oi_in (by omega) (by omega)
              obtain ⟨pp, c1, c2, c3⟩ := mcrS_e (Int64.ofInt (slN n σ s sh a)) ((2 : Int64) * y.toInt64) (Int64.ofInt d) (prd (c_pw σ) (c_xx σ) (c_yy σ) (c_lb σ) a a).toInt64 μ
              rw [s4, y4, d3, Int32.toInt_toInt64, Int.mul_comm (slN n σ s sh a)] at c2
              refine ⟨sgI d * sgI (2 * y.toInt * slN n σ s sh a - d * (prd (c_pw σ) (c_xx σ) (c_yy σ) (c_lb σ) a a).toInt), pp.2, ?_, ?_, Rel_sM h c3⟩
              · rw [k1, bs_d, if_neg n10, f_X3_worthSign, f_X3_shareBase, bs_d, (hs a ha).1, bs_d, lt_d, d1, s1, bs_d, cPr (by omega) (by omega), bs_d, lt_d, d4, sgn63, bs_d, sgn63, bs_d, bs_d, d3, d5]
              · rw [if_neg k2, (hs a ha).2, bs_d, hd.2.1, lt_d, d2, s2, bs_d, mPr (by omega) (by omega), bs_d, p3, p4, p5, p6, c1, bs_d, sg_mul, c2]
                by_cases r1 : d ≤ 0
                · rw [if_pos ((i64_le0 _).mpr (by rw [d3]; exact r1)), if_pos r1]
                  by_cases r2 : 0 ≤ d
                  · rw [if_pos ((i64_ge0 _).mpr (by rw [d3]; exact r2)), if_pos r2]
                  · rw [if_neg (fun z => r2 (by rw [i64_ge0, d3] at z; exact z)), if_neg r2]
                · rw [if_neg (fun z => r1 (by rw [i64_le0, d3] at z; exact z)), if_neg r1]
            · rw [k1, bs_d, if_pos rfl, if_pos k2]
              exact ⟨_, _, rfl, rfl, h⟩
          · rw [if_pos (nle_i q), if_neg q, bs_d, if_pos rfl]
            exact ⟨_, _, rfl, rfl, h⟩
        · rw [if_neg y2, bs_d, if_pos rfl, in_0 (Or.inr (nle_i y2)), bs_d, if_pos rfl]
          exact ⟨_, _, rfl, rfl, h⟩
  · rw [a1, a2, bs_d, bs_d, if_pos rfl, if_pos rfl]
    exact ⟨_, _, rfl, rfl, h⟩
/-! DIGEST -/
theorem dg_4 {N : Nat} (hN : 600 < N) {σ : CS} {μ : MS} (h : Rel σ μ) {n : Nat} (hn6 : n ≤ 6) (p1 : c_sz σ = nI n) (p2 : m_pt μ = nI n) : ∀ (j k f : Nat) (v : Int64), k + j = n → j < f → ∃ w, f_X3_digest_L152 N f v (nI k) σ = some w ∧ f_X4_digest_L141 N f v (nI k) μ = some w := by
  intro j
  induction j with
  | zero =>
    intro k f v hk hf
    obtain ⟨f, rfl, hf⟩ := suc_of hf
    rw [f_X3_digest_L152, f_X4_digest_L141, p1, p2, if_pos (nI_le (by omega) (by omega)), if_pos (nI_le (by omega) (by omega))]
    exact ⟨_, rfl, rfl⟩
  | succ j ih =>
    intro k f v hk hf
    obtain ⟨f, rfl, hf⟩ := suc_of hf
    obtain ⟨a, a1, a2⟩ := mult_R hN h (nI k) 0
    obtain ⟨b, b1, b2⟩ := mult_R hN h (nI k) 1
    rw [f_X3_digest_L152, f_X4_digest_L141, p1, p2, if_neg (nI_ge (by omega) (by omega)), if_neg (nI_ge (by omega) (by omega)), a1, a2, b1, b2, bs_d, bs_d, bs_d, lt_d, bs_d, lt_d, lt_d, lt_d, lt_d, nI_1]
    exact ih (k + 1) f _ (by omega) (by omega)
theorem step_3 {σ : CS} {μ : MS} (h : Rel σ μ) {st k : Nat} (s2 : c_st σ = nI st) (s3 : m_st μ = nI st) (hst : st ≤ 200) (hk : k < st) : f_X3_step (nI k) 0 σ = some (m_en μ k) ∧ f_X3_step (nI k) 1 σ = some (m_lf μ k) ∧ f_X3_step (nI k) 2 σ = some (m_la μ k) := by
  have hm : (nI st - (1 : Int32)).toInt = (st : Int) - 1 := by
    rw [show (1 : Int32) = nI 1 from rfl]
    exact pk_sub_toInt (by omega) (by decide)
  have h3 : ¬ nI st - (1 : Int32) < nI k := by
    rw [Int32.lt_iff_toInt_lt, hm, nI_toInt (by omega)]; omega
  have e : ∀ w : Int32, ¬ w < 0 → ¬ 2 < w → f_X4_step (nI k) w μ = if w = 0 then some (m_en μ k) else if w = 1 then some (m_lf μ k) else some (m_la μ k) := fun w w0 w2 => by
    rw [f_X4_step, in_1 w0 w2, bs_d, if_neg n10, s3, in_1 (nI_pos (by omega)) h3, bs_d, if_neg n10, gd_n (n := 200) (k := k) (by omega) (by decide), gd_n (n := 200) (k := k) (by omega) (by decide), gd_n (n := 200) (k := k) (by omega) (by decide), nI_clamp (n := k) (by omega)]
  refine ⟨?_, ?_, ?_⟩
  · obtain ⟨v, v1, v2⟩ := stepc_R h (nI k) 0
    rw [v1, ← v2, e 0 (by decide) (by decide), if_pos rfl]
  · obtain ⟨v, v1, v2⟩ := stepc_R h (nI k) 1
    rw [v1, ← v2, e 1 (by decide) (by decide), if_neg n10, if_pos rfl]
  · obtain ⟨v, v1, v2⟩ := stepc_R h (nI k) 2
    rw [v1, ← v2, e 2 (by decide) (by decide), if_neg (by decide), if_neg (by decide)]
theorem dg_in {N : Nat} (hN : 600 < N) {σ : CS} {μ : MS} (h : Rel σ μ) {st k : Nat} (s2 : c_st σ = nI st) (s3 : m_st μ = nI st) (hst : st ≤ 200) (hk : k < st) (v : Int64) : f_X3_digest_L117 N N v (nI k) 0 σ = some ((31 : Int64) * ((31 : Int64) * ((31 : Int64) * v + (m_en μ k).toInt64) + (m_lf μ k).toInt64) + (m_la μ k).toInt64) := by
  obtain ⟨a0, a1, a2⟩ := step_3 h s2 s3 hst hk
  obtain ⟨M, hM⟩ : ∃ M, N = M + 1 + 1 + 1 + 1 := ⟨N - 4, by omega⟩
  have hu : ∀ M, N = M → f_X3_digest_L117 N N v (nI k) 0 σ = f_X3_digest_L117 N M v (nI k) 0 σ := fun M h => by rw [← h]
  rw [hu _ hM, f_X3_digest_L117, if_neg (by decide), a0, bs_d, lt_d, lt_d, show (0 : Int32) + 1 = 1 by decide, f_X3_digest_L117, if_neg (by decide), a1, bs_d, lt_d, lt_d, show (1 : Int32) + 1 = 2 by decide, f_X3_digest_L117, if_neg (by decide), a2, bs_d, lt_d, lt_d, show (2 : Int32) + 1 = 3 by decide, f_X3_digest_L117, if_pos (by decide)]
theorem dg_3 {N : Nat} (hN : 600 < N) {σ : CS} {μ : MS} (h : Rel σ μ) {n st : Nat} (hn6 : n ≤ 6) (p1 : c_sz σ = nI n) (p2 : m_pt μ = nI n) (s2 : c_st σ = nI st) (s3 : m_st μ = nI st) (hst : st ≤ 200) : ∀ (j k f : Nat) (v : Int64), k + j = st → j < f → ∃ w, f_X3_digest_L103 N f v (nI k) σ = some w ∧ f_X4_digest_L87 N f v (nI k) μ = some w := by
  intro j
  induction j with
  | zero =>
    intro k f v hk hf
    obtain ⟨f, rfl, hf⟩ := suc_of hf
    rw [f_X3_digest_L103, f_X4_digest_L87, s2, s3, if_pos (nI_le (by omega) (by omega)), if_pos (nI_le (by omega) (by omega)), ← nI_0]
    exact dg_4 hN h hn6 p1 p2 n 0 N v (by omega) (by omega)
  | succ j ih =>
    intro k f v hk hf
    obtain ⟨f, rfl, hf⟩ := suc_of hf
    rw [f_X3_digest_L103, f_X4_digest_L87, s2, s3, if_neg (nI_ge (by omega) (by omega)), if_neg (nI_ge (by omega) (by omega)), dg_in hN h s2 s3 hst (by omega), bs_d, gd_n (by omega) (by decide), gd_n (by omega) (by decide), gd_n (by omega) (by decide), lt_d, lt_d, lt_d, nI_clamp (n := k) (by omega), nI_1]
    exact ih (k + 1) f _ (by omega) (by omega)
theorem dg_2 {N : Nat} (hN : 600 < N) {σ : CS} {μ : MS} (h : Rel σ μ) {n st : Nat} (hn6 : n ≤ 6) (p1 : c_sz σ = nI n) (p2 : m_pt μ = nI n) (s2 : c_st σ = nI st) (s3 : m_st μ = nI st) (hst : st ≤ 200) (p4 : m_px μ = c_xx σ) (p5 : m_py μ = c_yy σ) (p6 : m_lb μ = c_lb σ) : ∀ (j k f : Nat) (v : Int64), k + j = n → j < f → ∃ w, f_X3_digest_L33 N f v (nI k) σ = some w ∧ f_X4_digest_L33 N f v (nI k) μ = some w := by
  intro j
  induction j with
  | zero =>
    intro k f v hk hf
    obtain ⟨f, rfl, hf⟩ := suc_of hf
    rw [f_X3_digest_L33, f_X4_digest_L33, p1, p2, if_pos (nI_le (by omega) (by omega)), if_pos (nI_le (by omega) (by omega)), ← nI_0]
    exact dg_3 hN h hn6 p1 p2 s2 s3 hst st 0 N v (by omega) (by omega)
  | succ j ih =>
    intro k f v hk hf
    obtain ⟨f, rfl, hf⟩ := suc_of hf
    rw [f_X3_digest_L33, f_X4_digest_L33, p1, p2, if_neg (nI_ge (by omega) (by omega)), if_neg (nI_ge (by omega) (by omega)), gd_n (n := 6) (k := k) (by omega) (by decide), lt_d, gd_n (n := 6) (k := k) (by omega) (by decide), lt_d, gd_n (n := 6) (k := k) (by omega) (by decide), lt_d, lt_d, gd_n (n := 6) (k := k) (by omega) (by decide), gd_n (n := 6) (k := k) (by omega) (by decide), gd_n (n := 6) (k := k) (by omega) (by decide), lt_d, lt_d, nI_clamp (n := k) (by omega), nI_1, p4, p5, p6]
    exact ih (k + 1) f _ (by omega) (by omega)
theorem dg_1 {N : Nat} (hN : 600 < N) {σ : CS} {μ : MS} (h : Rel σ μ) : ∀ (j k f : Nat) (v : Int64), k + j = 7 → j < f → ∃ w, f_X3_digest_L6 N f v (nI k) σ = some w ∧ f_X4_digest_L6 N f v (nI k) μ = some w := by
  intro j
  induction j with
  | zero =>
    intro k f v hk hf
    obtain ⟨f, rfl, hf⟩ := suc_of hf
    have hst : ∃ n st, ptR n σ μ ∧ c_st σ = nI st ∧ m_st μ = nI st ∧ st ≤ 200 := by
      obtain ⟨n, hp, hn | ⟨t, E, F, st, e, ht⟩⟩ := h
      · exact ⟨n, 0, hp, hn.2.2.2.2.1, hn.2.2.2.1, by omega⟩
      · exact ⟨n, st, hp, ht.2.2.2.2.1, ht.2.2.2.2.2.1, ht.2.2.2.2.2.2.1⟩
    obtain ⟨n, st, hp, s2, s3, s4⟩ := hst
    obtain ⟨p1, p2, p3, p4, p5, p6, p7, p8, p9, p10, p11⟩ := hp
    have hn6 := pt_6 p9
    rw [f_X3_digest_L6, f_X4_digest_L6, show (7 : Int32) = nI 7 from rfl, if_pos (nI_le (by omega) (by omega)), if_pos (nI_le (by omega) (by omega)), ← nI_0]
    exact dg_2 hN h hn6 p1 p2 s2 s3 s4 p4 p5 p6 n 0 N v (by omega) (by omega)
  | succ j ih =>
    intro k f v hk hf
    obtain ⟨f, rfl, hf⟩ := suc_of hf
    obtain ⟨a, a1, a2⟩ := count_R hN h (nI k)
    rw [f_X3_digest_L6, f_X4_digest_L6, show (7 : Int32) = nI 7 from rfl, if_neg (nI_ge (by omega) (by omega)), if_neg (nI_ge (by omega) (by omega)), a1, a2, bs_d, bs_d, lt_d, lt_d, lt_d, lt_d, nI_1]
    exact ih (k + 1) f _ (by omega) (by omega)
theorem digest_R {N : Nat} (hN : 600 < N) {σ : CS} {μ : MS} (h : Rel σ μ) : ∃ v, f_X3_digest N σ = some v ∧ f_X4_digest N μ = some v := by
  rw [f_X3_digest, f_X4_digest, ← nI_0]
  exact dg_1 hN h 7 0 N 73 (by omega) (by omega)

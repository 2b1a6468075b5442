/-! STEP, TOLD, AT -/
theorem le_ix {i : Int32} {n : Nat} (hn : n < 2 ^ 31) (h0 : ¬ i < 0) (h1 : ¬ nI n < i) : ∃ k, k ≤ n ∧ i = nI k := by
  rw [Int32.lt_iff_toInt_lt] at h0 h1
  rw [nI_toInt hn] at h1
  have e : (0 : Int32).toInt = 0 := rfl
  refine ⟨i.toInt.toNat, by omega, ?_⟩
  apply Int32.toInt_inj.mp
  rw [nI_toInt (by omega)]
  omega
theorem what3 {w : Int32} (h0 : ¬ w < 0) (h2 : ¬ 2 < w) : w = 0 ∨ w = 1 ∨ w = 2 := by
  obtain ⟨k, hk, rfl⟩ := le_ix (n := 2) (by decide) h0 h2
  rcases (show k = 0 ∨ k = 1 ∨ k = 2 by omega) with rfl | rfl | rfl
  · exact Or.inl rfl
  · exact Or.inr (Or.inl rfl)
  · exact Or.inr (Or.inr rfl)
theorem stepc_R {σ : CS} {μ : MS} (h : Rel σ μ) (i w : Int32) : ∃ v, f_X3_step i w σ = some v ∧ f_X4_step i w μ = some v := by
  have hh : ∃ st, st ≤ 200 ∧ c_st σ = nI st ∧ m_st μ = nI st ∧ ∀ k, k < st → (f_X1_letter (c_en σ k) σ = some (m_en μ k) ∧ f_X1_letter (c_lf σ k) σ = some (m_lf μ k) ∧ m_la μ k = c_ta σ k) := by
    obtain ⟨n, hp, hn | ⟨t, E, F, st, e, ht⟩⟩ := h
    · exact ⟨0, by omega, hn.2.2.2.2.1, hn.2.2.2.1, fun k hk => absurd hk (by omega)⟩
    · have hn6 := pt_6 hp.2.2.2.2.2.2.2.2.1
      obtain ⟨b1, b2, b3, b4, b5, b6, b7, b8, b9, b10, b11, b12, b13, b14, b15⟩ := ht
      refine ⟨st, b7, b5, b6, fun k hk => ?_⟩
      obtain ⟨z1, z2, z3, z4, z5, z6, z7⟩ := b11 k hk
      exact ⟨by rw [z1, z2, cLet (by omega) (by omega) b3], by rw [z4, z5, cLet (by omega) (by omega) b3], z7⟩
  obtain ⟨st, s1, s2, s3, s4⟩ := hh
  rw [f_X3_step, f_X4_step, s2, s3]
  by_cases w0 : w < 0
  · rw [if_pos w0, in_0 (Or.inl w0), bs_d, if_pos rfl]
    exact ⟨_, rfl, rfl⟩
  · rw [if_neg w0]
    by_cases w2 : w ≤ 2
    · rw [if_pos w2, in_1 w0 (nlt_i w2), bs_d, if_neg n10]
      rcases in_ix (n := st) (by omega) i with ⟨k, hk, rfl, k1, k2, k3⟩ | ⟨k3, k4⟩
      · obtain ⟨z1, z2, z3⟩ := s4 k hk
        rw [k3, bs_d, if_neg n10, if_neg k1, if_pos (nI_lt hk (by omega)), gd_n (n := 200) (k := k) (by omega) (by decide), gd_n (n := 200) (k := k) (by omega) (by decide), gd_n (n := 200) (k := k) (by omega) (by decide), gd_n (n := 200) (k := k) (by omega) (by decide), gd_n (n := 200) (k := k) (by omega) (by decide), gd_n (n := 200) (k := k) (by omega) (by decide), nI_clamp (n := k) (by omega), z1, z2, bs_d, bs_d, z3]
        rcases what3 w0 (nlt_i w2) with rfl | rfl | rfl
        · exact ⟨_, rfl, rfl⟩
        · exact ⟨_, rfl, rfl⟩
        · exact ⟨_, rfl, rfl⟩
      · rw [k3, bs_d, if_pos rfl]
        refine ⟨-1, ?_, rfl⟩
        rcases k4 with q | ⟨q1, q2⟩
        · rw [if_pos q]
        · rw [if_neg q1, if_neg (nlt_i q2)]
    · rw [if_neg w2, in_0 (Or.inr (nle_i w2)), bs_d, if_pos rfl]
      exact ⟨_, rfl, rfl⟩
theorem hasRow_0 {σ : CS} (h : c_rw σ = 0) (i : Int32) : f_X1_hasRow i σ = some 0 := by
  rw [f_X1_hasRow, h]
  by_cases h0 : i < 0
  · rw [if_pos h0]
  · rw [if_neg h0, if_pos (nlt_le h0)]
theorem row_eq {n : Nat} (hn : n ≤ 6) {σ : CS} (b3 : c_rw σ = nI (2 * n)) (i : Int32) : (∃ k, k < 2 * n ∧ i = nI k ∧ f_X1_hasRow i σ = some 1 ∧ f_X4_in i 0 (nI (2 * n) - 1) = some 1) ∨ (f_X1_hasRow i σ = some 0 ∧ f_X4_in i 0 (nI (2 * n) - 1) = some 0) := by
  rcases in_ix (n := 2 * n) (by omega) i with ⟨k, hk, rfl, k1, k2, k3⟩ | ⟨k3, k4⟩
  · exact Or.inl ⟨k, hk, rfl, by rw [f_X1_hasRow, if_neg k1, b3, if_neg k2], k3⟩
  · refine Or.inr ⟨?_, k3⟩
    rcases k4 with q | ⟨q1, q2⟩
    · rw [f_X1_hasRow, if_pos q]
    · rw [f_X1_hasRow, if_neg q1, b3, if_pos q2]
theorem told_R {σ : CS} {μ : MS} (h : Rel σ μ) (i : Int32) : ∃ v, f_X3_told i σ = some v ∧ f_X4_told i μ = some v := by
  obtain ⟨n, hp, hn | ⟨t, E, F, st, e, ht⟩⟩ := h
  · rw [f_X3_told, f_X4_told, hasRow_0 hn.2.2.2.2.2.1, bs_d, if_pos rfl, hn.1, if_pos rfl]
    exact ⟨_, rfl, rfl⟩
  · have hn6 := pt_6 hp.2.2.2.2.2.2.2.2.1
    obtain ⟨b1, b2, b3, b4, b5, b6, b7, b8, b9, b10, b11, b12, b13, b14, b15⟩ := ht
    rw [f_X3_told, f_X4_told, b2, if_neg n10, b4]
    rcases row_eq hn6 b3 i with ⟨k, hk, rfl, k1, k2⟩ | ⟨k1, k2⟩
    · obtain ⟨z1, z2, z3⟩ := b10 k hk
      rw [k1, k2, bs_d, bs_d, if_neg n10, if_neg n10, gd_n (by omega) (by decide), gd_n (by omega) (by decide), nI_clamp (n := k) (by omega), z1, z2, cLet (by omega) (by omega) b3, bs_d]
      exact ⟨_, rfl, rfl⟩
    · rw [k1, k2, bs_d, bs_d, if_pos rfl, if_pos rfl]
      exact ⟨_, rfl, rfl⟩
theorem isPart_1 {w : Int32} (h : w = 0 ∨ w = 1) : f_X3_isPart w = some 1 := by
  rw [f_X3_isPart]
  by_cases h0 : w = 0
  · rw [if_pos h0]
  · rw [if_neg h0, if_pos (h.resolve_left h0)]
theorem isPart_0 {w : Int32} (h : ¬ (w = 0 ∨ w = 1)) : f_X3_isPart w = some 0 := by
  rw [f_X3_isPart, if_neg (fun z => h (Or.inl z)), if_neg (fun z => h (Or.inr z))]
/-- a fraction told, of both -/
theorem part_R {N : Nat} (hN : 600 < N) {a b : Int64} (ha : a.toInt ≠ -9223372036854775808) (hb : 0 < b.toInt) (w : Int32) : ∃ v, ((f_X3_isPart w).bind (fun r => if r = 0 then some (0 : Int64) else f_X2_part N a b w)) = some v ∧ f_X4_lowest N a b w = some v := by
  have hr := fb_rngL b
  obtain ⟨B, hB⟩ : ∃ B : Nat, b.toInt = B := ⟨b.toInt.toNat, by omega⟩
  have e : b = lN B := by rw [lN_oi, ← hB, oi_t]
  rw [e]
  by_cases hw : w = 0 ∨ w = 1
  · rw [isPart_1 hw, bs_d, if_neg n10]
    exact part_s (by omega) ha (by omega) (by omega) w hw
  · rw [isPart_0 hw, bs_d, if_pos rfl, low_o (by omega) ha (by omega) (by omega) w (fun z => hw (Or.inl z)) (fun z => hw (Or.inr z))]
    exact ⟨_, rfl, rfl⟩
theorem bs_e {α : Type} (x : Option α) : x.bind (fun r => some r) = x := by cases x <;> rfl
theorem at_R {N : Nat} (hN : 600 < N) {σ : CS} {μ : MS} (h : Rel σ μ) (i c w : Int32) : ∃ v, f_X3_at N i c w σ = some v ∧ f_X4_at N i c w μ = some v := by
  obtain ⟨n, hp, hn | ⟨t, E, F, st, e, ht⟩⟩ := h
  · rw [f_X3_at, f_X4_at, hasRow_0 hn.2.2.2.2.2.1, bs_d, if_pos rfl, hn.1, if_pos rfl]
    exact ⟨_, rfl, rfl⟩
  · have hp9 := hp.2.2.2.2.2.2.2.2.1
    have hn6 := pt_6 hp9
    obtain ⟨b1, b2, b3, b4, b5, b6, b7, b8, b9, b10, b11, b12, b13, b14, b15⟩ := ht
    rw [f_X3_at, f_X4_at, b2, if_neg n10, b4]
    rcases row_eq hn6 b3 i with ⟨k, hk, rfl, k1, k2⟩ | ⟨k1, k2⟩
    · rw [k1, k2, bs_d, bs_d, if_neg n10, if_neg n10, mQs b4, bs_d, f_X1_hasColumn]
      by_cases c0 : c < 0
      · rw [if_pos c0, bs_d, if_pos rfl, in_0 (Or.inl c0), bs_d, if_pos rfl]
        exact ⟨_, rfl, rfl⟩
      · rw [if_neg c0, cQs b3, bs_d]
        by_cases c1 : nI (2 * (2 * n) + 1) < c
        · rw [if_pos c1, bs_d, if_pos rfl, in_0 (Or.inr c1), bs_d, if_pos rfl]
          exact ⟨_, rfl, rfl⟩
        · rw [if_neg c1, bs_d, if_neg n10, in_1 c0 c1, bs_d, if_neg n10]
          obtain ⟨x, hx, rfl⟩ := le_ix (by omega) c0 c1
          have hb := TI_bd (ok_pts hp9 b1) (aS_ok hp) b12 (fun r hr => (b10 r hr).2.2) hk (c := x) (by omega)
          have hb : (c_gg σ k x).toInt.natAbs ≤ 43520000000000000 := hb
          obtain ⟨v, v1, v2⟩ := part_R (N := N) hN (a := c_gg σ k x) (b := c_sc σ) (by omega) b12.2.1 w
          refine ⟨v, ?_, ?_⟩
          · rw [← v1]
            by_cases hw : w = 0 ∨ w = 1
            · rw [isPart_1 hw, bs_d, bs_d, if_neg n10, if_neg n10, gd_n (by omega) (by decide), gd_n (by omega) (by decide), gd_n (by omega) (by decide), nI_clamp (n := k) (by omega), nI_clamp (n := x) (by omega), bs_e]
            · rw [isPart_0 hw, bs_d, bs_d, if_pos rfl, if_pos rfl]
          · rw [← v2, ix26, gd_n (by omega) (by decide), nI_clamp (n := 26 * k + x) (by omega), bs_e, b8, show m_tb μ (26 * k + x) = tG (m_tb μ) k x from rfl, b9 k x hk (by omega)]
    · rw [k1, k2, bs_d, bs_d, if_pos rfl, if_pos rfl]
      exact ⟨_, rfl, rfl⟩

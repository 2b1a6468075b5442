/-! the law's loop answers 1 on every script -/
theorem gd_tt {α : Type} (x : Option α) : gd true x = x := rfl
theorem nI_p2 (k : Nat) : nI k + (2 : Int32) = nI (k + 2) := nI_add k 2
theorem nI_p3 (k : Nat) : nI k + (3 : Int32) = nI (k + 3) := nI_add k 3
theorem nI_p4 (k : Nat) : nI k + (4 : Int32) = nI (k + 4) := nI_add k 4
theorem law_1 {N L : Nat} (hN : 600 < N) (hL : L ≤ 2048) (xs : Nat → Int32) : ∀ (j k f : Nat) (σ : CS) (μ : MS), Rel σ μ → k ≤ 3000 → L < k + 4 + 4 * j → j < f → f_law N xs L f (nI k) σ μ = some 1 := by
  have hL4 : ∀ k, k ≤ 3000 → ((Int32.ofNat L - (4 : Int32) < nI k) ↔ L < k + 4) := fun k hk => by
    rw [Int32.lt_iff_toInt_lt, nI_toInt (by omega), show (4 : Int32) = nI 4 from rfl, show Int32.ofNat L = nI L from rfl, pk_sub_toInt (by omega) (by decide)]
    omega
  intro j
  induction j with
  | zero =>
    intro k f σ μ h hk hl hf
    obtain ⟨f, rfl, hf⟩ := suc_of hf
    rw [f_law, if_pos ((hL4 k hk).mpr (by omega))]
  | succ j ih =>
    intro k f σ μ h hk hl hf
    obtain ⟨f, rfl, hf⟩ := suc_of hf
    by_cases hq : L < k + 4
    · rw [f_law, if_pos ((hL4 k hk).mpr hq)]
    · have go : ∀ σ2 μ2, Rel σ2 μ2 → f_law N xs L f (nI (k + 4)) σ2 μ2 = some 1 := fun σ2 μ2 h2 => ih (k + 4) f σ2 μ2 h2 (by omega) (by omega) (by omega)
      have g0 : inB (nI k) L = true := inB_n (by omega) (by omega)
      have g1 : inB (nI (k + 1)) L = true := inB_n (by omega) (by omega)
      have g2 : inB (nI (k + 2)) L = true := inB_n (by omega) (by omega)
      have g3 : inB (nI (k + 3)) L = true := inB_n (by omega) (by omega)
      rw [f_law, if_neg (fun z => hq ((hL4 k hk).mp z)), g0, gd_tt, nI_clamp (n := k) (by omega), nI_1, nI_p2, nI_p3, nI_p4, nI_clamp (n := k + 1) (by omega), nI_clamp (n := k + 2) (by omega), nI_clamp (n := k + 3) (by omega), g1, g2, g3]
      generalize xs k &&& (31 : Int32) = op
      by_cases o0 : op = 0
      · obtain ⟨v, σ2, μ2, e1, e2, e3⟩ := point_R h (xs (k + 1)) (xs (k + 2)) (xs (k + 3))
        rw [if_pos o0, gd_tt, gd_tt, gd_tt, e1, bs_d, gd_tt, gd_tt, gd_tt, e2, bs_d, if_pos rfl, lt_d]
        exact go σ2 μ2 e3
      rw [if_neg o0]
      by_cases o1 : op = 1
      · obtain ⟨v, σ2, μ2, e1, e2, e3⟩ := drop_R h 
        rw [if_pos o1, e1, bs_d, e2, bs_d, if_pos rfl, lt_d]
        exact go σ2 μ2 e3
      rw [if_neg o1]
      by_cases o2 : op = 2
      · obtain ⟨v, σ2, μ2, e1, e2, e3⟩ := degree_R h (xs (k + 1))
        rw [if_pos o2, gd_tt, e1, bs_d, gd_tt, e2, bs_d, if_pos rfl, lt_d]
        exact go σ2 μ2 e3
      rw [if_neg o2]
      by_cases o3 : op = 3
      · obtain ⟨v, σ2, μ2, e1, e2, e3⟩ := box_R h (xs (k + 1)) (xs (k + 2))
        rw [if_pos o3, gd_tt, gd_tt, e1, bs_d, gd_tt, gd_tt, e2, bs_d, if_pos rfl, lt_d]
        exact go σ2 μ2 e3
      rw [if_neg o3]
      by_cases o4 : op = 4
      · obtain ⟨v, e1, e2⟩ := q_R h (xs (k + 1)) (xs (k + 2))
        rw [if_pos o4, gd_tt, gd_tt, e1, bs_d, gd_tt, gd_tt, e2, bs_d, if_pos rfl, lt_d]
        exact go σ μ h
      rw [if_neg o4]
      by_cases o5 : op = 5
      · obtain ⟨v, σ2, μ2, e1, e2, e3⟩ := begin_R hN h 
        rw [if_pos o5, e1, bs_d, e2, bs_d, if_pos rfl, lt_d]
        exact go σ2 μ2 e3
      rw [if_neg o5]
      by_cases o6 : op = 6
      · obtain ⟨v, σ2, μ2, e1, e2, e3⟩ := go_R hN h (xs (k + 1))
        rw [if_pos o6, gd_tt, e1, bs_d, gd_tt, e2, bs_d, if_pos rfl, lt_d]
        exact go σ2 μ2 e3
      rw [if_neg o6]
      by_cases o7 : op = 7
      · obtain ⟨v, e1, e2⟩ := stepc_R h (xs (k + 1)) (xs (k + 2))
        rw [if_pos o7, gd_tt, gd_tt, e1, bs_d, gd_tt, gd_tt, e2, bs_d, if_pos rfl, lt_d]
        exact go σ μ h
      rw [if_neg o7]
      by_cases o8 : op = 8
      · obtain ⟨v, e1, e2⟩ := told_R h (xs (k + 1))
        rw [if_pos o8, gd_tt, e1, bs_d, gd_tt, e2, bs_d, if_pos rfl, lt_d]
        exact go σ μ h
      rw [if_neg o8]
      by_cases o9 : op = 9
      · obtain ⟨v, e1, e2⟩ := at_R hN h (xs (k + 1)) (xs (k + 2)) (xs (k + 3))
        rw [if_pos o9, gd_tt, gd_tt, gd_tt, e1, bs_d, gd_tt, gd_tt, gd_tt, e2, bs_d, if_pos ((lc_eq v v).mpr rfl), lt_d]
        exact go σ μ h
      rw [if_neg o9]
      by_cases o10 : op = 10
      · obtain ⟨v, e1, e2⟩ := mult_R hN h (xs (k + 1)) (xs (k + 2))
        rw [if_pos o10, gd_tt, gd_tt, e1, bs_d, gd_tt, gd_tt, e2, bs_d, if_pos ((lc_eq v v).mpr rfl), lt_d]
        exact go σ μ h
      rw [if_neg o10]
      by_cases o11 : op = 11
      · obtain ⟨v, e1, e2⟩ := lies_R hN h (xs (k + 1))
        rw [if_pos o11, gd_tt, e1, bs_d, gd_tt, e2, bs_d, if_pos rfl, lt_d]
        exact go σ μ h
      rw [if_neg o11]
      by_cases o12 : op = 12
      · obtain ⟨v, e1, e2⟩ := slope_R hN h (xs (k + 1)) (xs (k + 2))
        rw [if_pos o12, gd_tt, gd_tt, e1, bs_d, gd_tt, gd_tt, e2, bs_d, if_pos ((lc_eq v v).mpr rfl), lt_d]
        exact go σ μ h
      rw [if_neg o12]
      by_cases o13 : op = 13
      · obtain ⟨v, e1, e2⟩ := check_R hN h 
        rw [if_pos o13, e1, bs_d, e2, bs_d, if_pos rfl, lt_d]
        exact go σ μ h
      rw [if_neg o13]
      by_cases o14 : op = 14
      · obtain ⟨v, μ2, e1, e2, e3⟩ := change_R hN h (xs (k + 1)) (xs (k + 2)) (xs (k + 3))
        rw [if_pos o14, gd_tt, gd_tt, gd_tt, e1, bs_d, gd_tt, gd_tt, gd_tt, e2, bs_d, if_pos rfl, lt_d]
        exact go σ μ2 e3
      rw [if_neg o14]
      by_cases o15 : op = 15
      · obtain ⟨v, e1, e2⟩ := decision_R hN h (xs (k + 1)) (xs (k + 2)) (xs (k + 3))
        rw [if_pos o15, gd_tt, gd_tt, gd_tt, e1, bs_d, gd_tt, gd_tt, gd_tt, e2, bs_d, if_pos ((lc_eq v v).mpr rfl), lt_d]
        exact go σ μ h
      rw [if_neg o15]
      by_cases o16 : op = 16
      · obtain ⟨v, e1, e2⟩ := predict_R hN h (xs (k + 1)) (xs (k + 2))
        rw [if_pos o16, gd_tt, gd_tt, e1, bs_d, gd_tt, gd_tt, e2, bs_d, if_pos rfl, lt_d]
        exact go σ μ h
      rw [if_neg o16]
      by_cases o17 : op = 17
      · obtain ⟨v, e1, e2⟩ := count_R hN h (xs (k + 1))
        rw [if_pos o17, gd_tt, e1, bs_d, gd_tt, e2, bs_d, if_pos rfl, lt_d]
        exact go σ μ h
      rw [if_neg o17]
      by_cases o18 : op = 18
      · obtain ⟨v, e1, e2⟩ := digest_R hN h 
        rw [if_pos o18, e1, bs_d, e2, bs_d, if_pos ((lc_eq v v).mpr rfl), lt_d]
        exact go σ μ h
      rw [if_neg o18]
      rw [lt_d]
      exact go σ μ h

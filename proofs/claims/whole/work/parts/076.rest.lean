/-! DECISION, PREDICT -/
def deN (σ : CS) (sh : Nat → Int64) (x y : Int32) (k : Nat) : Int := (sh k).toInt * (c_lb σ k).toInt * (krn (c_pw σ) (c_xx σ) (c_yy σ) k x y).toInt
theorem dec_L {N n : Nat} {σ : CS} {μ : MS} {sh : Nat → Int64} (hp : ptR n σ μ) (hs : ∀ i, i < n → f_X3_share N (nI i) σ = some (sh i) ∧ f_X4_worthOf N (nI i) μ = some (sh i)) (x y : Int32) : ∀ (j k f : Nat), k + j = n → j < f → f_X3_decisionShare_L5 N f x y (Int64.ofInt (sm k (deN σ sh x y))) (nI k) σ = some (Int64.ofInt (sm n (deN σ sh x y))) ∧ f_X4_decisionOf_L5 N f x y (Int64.ofInt (sm k (deN σ sh x y))) (nI k) μ = some (Int64.ofInt (sm n (deN σ sh x y))) := by
  obtain ⟨p1, p2, p3, p4, p5, p6, p7, p8, p9, p10, p11⟩ := hp
  have hn6 := pt_6 p9
  intro j
  induction j with
  | zero =>
    intro k f hk hf
    obtain ⟨f, rfl, hf⟩ := suc_of hf
    have e : k = n := by omega
    rw [f_X3_decisionShare_L5, f_X4_decisionOf_L5, p1, p2, if_pos (nI_le (by omega) (by omega)), if_pos (nI_le (by omega) (by omega)), e]
    exact ⟨rfl, rfl⟩
  | succ j ih =>
    intro k f hk hf
    obtain ⟨f, rfl, hf⟩ := suc_of hf
    have e : Int64.ofInt (sm k (deN σ sh x y)) + sh k * (c_lb σ k).toInt64 * (krn (c_pw σ) (c_xx σ) (c_yy σ) k x y).toInt64 = Int64.ofInt (sm (k + 1) (deN σ sh x y)) := by
      have e1 : sm (k + 1) (deN σ sh x y) = sm k (deN σ sh x y) + deN σ sh x y k := rfl
      rw [e1, Int64.ofInt_add, deN, Int64.ofInt_mul, Int64.ofInt_mul, oi_t, ← pl_64, ← pl_64]
    obtain ⟨g1, g2⟩ := ih (k + 1) f (by omega) (by omega)
    rw [f_X3_decisionShare_L5, f_X4_decisionOf_L5, p1, p2, if_neg (nI_ge (by omega) (by omega)), if_neg (nI_ge (by omega) (by omega)), (hs k (by omega)).1, (hs k (by omega)).2, bs_d, bs_d, gd_n (by omega) (by decide), gd_n (by omega) (by decide), cKr (by omega), mKr (by omega), bs_d, bs_d, lt_d, lt_d, lt_d, lt_d, nI_clamp (n := k) (by omega), p3, p4, p5, p6, e, nI_1]
    exact ⟨g1, g2⟩
theorem sm_bd {n : Nat} {f : Nat → Int} {B : Nat} (h : ∀ k, k < n → (f k).natAbs ≤ B) : (sm n f).natAbs ≤ n * B := by
  induction n with
  | zero => exact Nat.zero_le _
  | succ n ih =>
    have e : sm (n + 1) f = sm n f + f n := rfl
    have a := ih (fun k hk => h k (by omega))
    have b := h n (by omega)
    rw [e, Nat.succ_mul]
    omega
theorem dec_s {N n : Nat} (hN : 600 < N) {σ : CS} {μ : MS} {s : Int} {sh : Nat → Int64} (hp : ptR n σ μ) (hd : dnR n σ μ s sh) (hs : ∀ i, i < n → f_X3_share N (nI i) σ = some (sh i) ∧ f_X4_worthOf N (nI i) μ = some (sh i)) {x y : Int32} (hx : smI x 4) (hy : smI y 4) : ∃ v : Int64, f_X3_decisionShare N x y σ = some v ∧ f_X4_decisionOf N x y μ = some v ∧ v.toInt ≠ -9223372036854775808 := by
  have hp9 := hp.2.2.2.2.2.2.2.2.1
  have hn6 := pt_6 hp9
  obtain ⟨g1, g2⟩ := dec_L hp hs x y n 0 N (by omega) (by omega)
  have e0 : sm 0 (deN σ sh x y) = 0 := rfl
  rw [e0, nI_0] at g1 g2
  refine ⟨_, g1, g2, ?_⟩
  have hds := dn_s hp hd
  have h0 := hd.2.2.2.1
  have bd : ∀ k, k < n → (deN σ sh x y k).natAbs ≤ (20 * s.toNat) * 1 * qB (c_pw σ) := fun k hk => by
    unfold deN
    have a1 := sh_b hp hd hk
    have a2 : (c_lb σ k).toInt.natAbs ≤ 1 := by
      rcases (hp9.2 k hk).2.2 with z | z <;> (rw [z]; decide)
    exact na_mul (na_mul (by omega) a2) (krn_b hp9 hk hx hy)
  have hb := sm_bd bd
  have hlim : n * ((20 * s.toNat) * 1 * qB (c_pw σ)) ≤ 2963000000000000000 := by
    rcases hds.2 with ⟨q1, q2, q3⟩ | ⟨q1, q3⟩
    · rw [q1]
      have z : n * (20 * s.toNat * 1 * 33) ≤ 6 * (20 * 1200000000000 * 1 * 33) := Nat.mul_le_mul q3 (Nat.mul_le_mul_right _ (Nat.mul_le_mul_right _ (Nat.mul_le_mul_left _ (by omega))))
      omega
    · rw [q1]
      have z : n * (20 * s.toNat * 1 * 1089) ≤ 4 * (20 * 34000000000000 * 1 * 1089) := Nat.mul_le_mul q3 (Nat.mul_le_mul_right _ (Nat.mul_le_mul_right _ (Nat.mul_le_mul_left _ (by omega))))
      omega
  rw [oi_in (by omega) (by omega)]
  omega
theorem pl_1 {x y : Int32} (x1 : ¬ x < -4) (x2 : ¬ 4 < x) (y1 : ¬ y < -4) (y2 : ¬ 4 < y) : f_X0_isPlace x y = some 1 := by
  rw [f_X0_isPlace, if_neg x1, if_neg x2, if_neg y1, if_neg y2]
theorem pl_or (x y : Int32) : f_X0_isPlace x y = some 1 ∧ smI x 4 ∧ smI y 4 ∨ f_X0_isPlace x y = some 0 := by
  by_cases a : x < -4
  · exact Or.inr (pl_0 (Or.inl a))
  · by_cases b : 4 < x
    · exact Or.inr (pl_0 (Or.inr (Or.inl b)))
    · by_cases c : y < -4
      · exact Or.inr (pl_0 (Or.inr (Or.inr (Or.inl c))))
      · by_cases d : 4 < y
        · exact Or.inr (pl_0 (Or.inr (Or.inr (Or.inr d))))
        · exact Or.inl ⟨pl_1 a b c d, sm4 a b, sm4 c d⟩
theorem i64_ge0 (x : Int64) : 0 ≤ lg_cmp x (0 : Int64) ↔ 0 ≤ x.toInt := by
  rw [lc_ge, Int64.le_iff_toInt_le]
  exact Iff.rfl
theorem decision_R {N : Nat} (hN : 600 < N) {σ : CS} {μ : MS} (h : Rel σ μ) (x y w : Int32) : ∃ v, f_X3_decision N x y w σ = some v ∧ f_X4_decision N x y w μ = some v := by
  obtain ⟨n, hp, ⟨s, sh, hd, hs, k1, k2⟩ | ⟨k1, k2⟩⟩ := rel_done hN h
  · rw [f_X3_decision, f_X4_decision, k1, bs_d, if_neg n10, if_neg k2, place_eq]
    rcases pl_or x y with ⟨q, hx, hy⟩ | q
    · obtain ⟨v, v1, v2, v3⟩ := dec_s hN hp hd hs hx hy
      rw [q, bs_d, bs_d, if_neg n10, if_neg n10, v1, v2, bs_d, bs_d, f_X3_shareBase, bs_d, bs_e, bs_e, hd.2.1, hp.2.2.2.2.2.2.2.1]
      have bb := base_s hp hd
      exact part_R hN v3 (by rw [bb.2.2.2]; exact bb.2.1) w
    · rw [q, bs_d, bs_d, if_pos rfl, if_pos rfl]
      exact ⟨_, rfl, rfl⟩
  · rw [f_X3_decision, f_X4_decision, k1, bs_d, if_pos rfl, if_pos k2]
    exact ⟨_, rfl, rfl⟩
theorem predict_R {N : Nat} (hN : 600 < N) {σ : CS} {μ : MS} (h : Rel σ μ) (x y : Int32) : ∃ v, f_X3_predict N x y σ = some v ∧ f_X4_predict N x y μ = some v := by
  obtain ⟨n, hp, hh⟩ := rel_done hN h
  rw [f_X3_predict, f_X4_predict, place_eq]
  rcases pl_or x y with ⟨q, hx, hy⟩ | q
  · rw [q, bs_d, bs_d, if_neg n10, if_neg n10]
    rcases hh with ⟨s, sh, hd, hs, k1, k2⟩ | ⟨k1, k2⟩
    · obtain ⟨v, v1, v2, v3⟩ := dec_s hN hp hd hs hx hy
      rw [k1, bs_d, if_neg n10, if_neg k2, v1, v2, bs_d, bs_d, sgn63, bs_d]
      refine ⟨_, rfl, ?_⟩
      unfold sgI
      by_cases a : v.toInt ≤ 0
      · rw [if_pos ((i64_le0 v).mpr a)]
        by_cases b : 0 ≤ v.toInt
        · rw [if_pos ((i64_ge0 v).mpr b), if_neg (by omega), if_pos (by omega)]
        · rw [if_neg (fun z => b ((i64_ge0 v).mp z)), if_pos (by omega)]
      · rw [if_neg (fun z => a ((i64_le0 v).mp z)), if_neg (by omega), if_neg (by omega)]
    · rw [k1, bs_d, if_pos rfl, if_pos k2]
      exact ⟨_, rfl, rfl⟩
  · rw [q, bs_d, bs_d, if_pos rfl, if_pos rfl]
    exact ⟨_, rfl, rfl⟩
/-! COUNT -/
theorem sup_L {N n : Nat} {σ : CS} {μ : MS} {sh : Nat → Int64} (hp : ptR n σ μ) (hs : ∀ i, i < n → f_X3_share N (nI i) σ = some (sh i) ∧ f_X4_worthOf N (nI i) μ = some (sh i)) (hd : ¬ m_dn μ = 0) : ∀ (j k f : Nat) (c : Int32), k + j = n → j < f → ∃ v, f_X3_supporters_L4 N f c (nI k) σ = some v ∧ f_X4_count_L87 N f c (nI k) μ = some v := by
  have hn6 := pt_6 hp.2.2.2.2.2.2.2.2.1
  intro j
  induction j with
  | zero =>
    intro k f c hk hf
    obtain ⟨f, rfl, hf⟩ := suc_of hf
    rw [f_X3_supporters_L4, f_X4_count_L87, hp.1, hp.2.1, if_pos (nI_le (by omega) (by omega)), if_pos (nI_le (by omega) (by omega)), if_neg hd]
    exact ⟨_, rfl, rfl⟩
  | succ j ih =>
    intro k f c hk hf
    obtain ⟨f, rfl, hf⟩ := suc_of hf
    rw [f_X3_supporters_L4, f_X4_count_L87, hp.1, hp.2.1, if_neg (nI_ge (by omega) (by omega)), if_neg (nI_ge (by omega) (by omega)), if_neg hd, (hs k (by omega)).1, (hs k (by omega)).2, bs_d, bs_d]
    by_cases q : lg_cmp (sh k) 0 ≤ 0
    · rw [if_pos q, if_pos q, lt_d, lt_d, lt_d, nI_1, Int32.add_zero]
      exact ih (k + 1) f c (by omega) (by omega)
    · rw [if_neg q, if_neg q, lt_d, lt_d, lt_d, lt_d, nI_1]
      exact ih (k + 1) f (c + 1) (by omega) (by omega)
theorem count_R {N : Nat} (hN : 600 < N) {σ : CS} {μ : MS} (h : Rel σ μ) (w : Int32) : ∃ v, f_X3_count N w σ = some v ∧ f_X4_count N w μ = some v := by
  obtain ⟨n, hp, hh⟩ := rel_done hN h
  have hn6 := pt_6 hp.2.2.2.2.2.2.2.2.1
  rw [f_X3_count, f_X4_count]
  by_cases w0 : w = 0
  · rw [if_pos w0, if_pos w0, hp.1, hp.2.1]; exact ⟨_, rfl, rfl⟩
  · rw [if_neg w0, if_neg w0]
    by_cases w1 : w = 1
    · rw [if_pos w1, if_pos w1, hp.2.2.1]; exact ⟨_, rfl, rfl⟩
    · rw [if_neg w1, if_neg w1]
      by_cases w2 : w = 2
      · rw [if_pos w2, if_pos w2, hp.2.2.2.2.2.2.1]; exact ⟨_, rfl, rfl⟩
      · rw [if_neg w2, if_neg w2]
        by_cases w3 : w = 3
        · rw [if_pos w3, if_pos w3, hp.2.2.2.2.2.2.2.1]; exact ⟨_, rfl, rfl⟩
        · rw [if_neg w3, if_neg w3]
          by_cases w4 : w = 4
          · rw [if_pos w4, if_pos w4]
            obtain ⟨n2, hp2, hn | ⟨t, E, F, st, e, ht⟩⟩ := h
            · rw [hn.2.2.2.1, hn.2.2.2.2.1]; exact ⟨_, rfl, rfl⟩
            · rw [ht.2.2.2.2.1, ht.2.2.2.2.2.1]; exact ⟨_, rfl, rfl⟩
          · rw [if_neg w4, if_neg w4]
            by_cases w5 : w = 5
            · rw [if_pos w5, if_pos w5]
              obtain ⟨n2, hp2, hn | ⟨t, E, F, st, e, ht⟩⟩ := h
              · rw [hn.1, if_pos rfl, hn.2.2.2.2.2.2]; exact ⟨_, rfl, rfl⟩
              · rw [ht.2.1, if_neg n10, stands_R ht, bs_d]; exact ⟨_, rfl, rfl⟩
            · rw [if_neg w5, if_neg w5]
              by_cases w6 : w = 6
              · rw [if_pos w6, if_pos w6]
                rcases hh with ⟨s, sh, hd, hs, k1, k2⟩ | ⟨k1, k2⟩
                · rw [k1, bs_d, if_neg n10, bs_e, f_X3_supporters, ← nI_0]
                  exact sup_L hp hs k2 n 0 N (nI 0) (by omega) (by omega)
                · refine ⟨-1, by rw [k1, bs_d, if_pos rfl], ?_⟩
                  obtain ⟨M, hM, _⟩ := suc_of (show 0 < N by omega)
                  have hu : ∀ M, N = M + 1 → f_X4_count_L87 N N 0 0 μ = f_X4_count_L87 N (M + 1) 0 0 μ := fun M h => by rw [← h]
                  rw [hu M hM, f_X4_count_L87, if_pos k2, if_pos k2]
                  by_cases z : m_pt μ ≤ 0
                  · rw [if_pos z]
                  · rw [if_neg z]
              · rw [if_neg w6, if_neg w6]; exact ⟨_, rfl, rfl⟩

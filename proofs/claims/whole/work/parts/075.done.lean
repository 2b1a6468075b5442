/-! the calls that want DONE -/
theorem rel_done {N : Nat} (hN : 600 < N) {σ : CS} {μ : MS} (h : Rel σ μ) : ∃ n, ptR n σ μ ∧ ((∃ s sh, dnR n σ μ s sh ∧ (∀ i, i < n → f_X3_share N (nI i) σ = some (sh i) ∧ f_X4_worthOf N (nI i) μ = some (sh i)) ∧ f_X3_isDone σ = some 1 ∧ ¬ m_dn μ = 0) ∨ (f_X3_isDone σ = some 0 ∧ m_dn μ = 0)) := by
  obtain ⟨n, hp, hn | ⟨t, E, F, st, e, ht⟩⟩ := h
  · refine ⟨n, hp, Or.inr ⟨?_, hn.2.1⟩⟩
    rw [f_X3_isDone, hn.2.2.2.2.2.2, if_neg (by decide)]
  · have h0 := ht
    obtain ⟨b1, b2, b3, b4, b5, b6, b7, b8, b9, b10, b11, b12, b13, b14, b15⟩ := ht
    refine ⟨n, hp, ?_⟩
    rcases b15 with ⟨z1, z2, _⟩ | ⟨z1, z2, _⟩ | ⟨z1, z2, _⟩
    · exact Or.inr ⟨by rw [f_X3_isDone, z1, if_neg (by decide)], z2⟩
    · exact Or.inr ⟨by rw [f_X3_isDone, z1, if_neg (by decide)], z2⟩
    · obtain ⟨s, sh, d1, d2⟩ := done_R hN hp h0 z1
      exact Or.inl ⟨s, sh, d1, d2, by rw [f_X3_isDone, z1, if_pos rfl], by rw [z2]; decide⟩
theorem dn_s {n : Nat} {σ : CS} {μ : MS} {s : Int} {sh : Nat → Int64} (hp : ptR n σ μ) (h : dnR n σ μ s sh) : s ≤ 34000000000000 ∧ (qB (c_pw σ) = 33 ∧ s ≤ 1200000000000 ∧ n ≤ 6 ∨ qB (c_pw σ) = 1089 ∧ n ≤ 4) := by
  have hp9 := hp.2.2.2.2.2.2.2.2.1
  have hok := ok_pts hp9 h.1
  have a1 := ok_hb hok
  have a2 := h.2.2.2.2.1
  refine ⟨by omega, ?_⟩
  rcases hok.2 with ⟨e, hn⟩ | ⟨e, hn⟩
  · have a3 := (ok_33 hok e).1
    exact Or.inl ⟨e, by omega, hn⟩
  · exact Or.inr ⟨e, hn⟩
theorem base_s {n : Nat} {σ : CS} {μ : MS} {s : Int} {sh : Nat → Int64} (hp : ptR n σ μ) (h : dnR n σ μ s sh) : c_sc σ * (c_bB σ).toInt64 = Int64.ofInt (s * (c_bB σ).toInt) ∧ 0 < s * (c_bB σ).toInt ∧ s * (c_bB σ).toInt ≤ 204000000000000 ∧ (c_sc σ * (c_bB σ).toInt64).toInt = s * (c_bB σ).toInt := by
  have hb := hp.2.2.2.2.2.2.2.2.2.2
  have hs := dn_s hp h
  have h0 := h.2.2.2.1
  have e1 : c_sc σ * (c_bB σ).toInt64 = Int64.ofInt (s * (c_bB σ).toInt) := by
    rw [Int64.ofInt_mul, ← h.2.2.1, oi_t, ← pl_64]
  have p : 0 < s * (c_bB σ).toInt := Int.mul_pos h0 (by omega)
  have q : s * (c_bB σ).toInt ≤ 34000000000000 * 6 := Int.mul_le_mul hs.1 hb.2 (by omega) (by omega)
  refine ⟨e1, p, by omega, ?_⟩
  rw [e1]
  exact oi_in (by omega) (by omega)
theorem sh_b {n : Nat} {σ : CS} {μ : MS} {s : Int} {sh : Nat → Int64} (hp : ptR n σ μ) (h : dnR n σ μ s sh) {i : Nat} (hi : i < n) : 0 ≤ (sh i).toInt ∧ (sh i).toInt ≤ 20 * s := by
  have a := h.2.2.2.2.2.1 i hi
  have hb := hp.2.2.2.2.2.2.2.2.2.1
  have h0 := h.2.2.2.1
  have q : s * (c_bA σ).toInt ≤ s * 20 := Int.mul_le_mul (Int.le_refl s) hb.2 (by omega) (by omega)
  exact ⟨a.1, by omega⟩
theorem mult_R {N : Nat} (hN : 600 < N) {σ : CS} {μ : MS} (h : Rel σ μ) (i w : Int32) : ∃ v, f_X3_multiplier N i w σ = some v ∧ f_X4_multiplier N i w μ = some v := by
  obtain ⟨n, hp, ⟨s, sh, hd, hs, k1, k2⟩ | ⟨k1, k2⟩⟩ := rel_done hN h
  · have hn6 := pt_6 hp.2.2.2.2.2.2.2.2.1
    rw [f_X3_multiplier, f_X4_multiplier, k1, bs_d, if_neg n10, if_neg k2]
    rcases has_eq hn6 i σ μ hp.1 hp.2.1 with ⟨a, ha, rfl, a1, a2⟩ | ⟨a1, a2⟩
    · rw [a1, a2, bs_d, bs_d, if_neg n10, if_neg n10, (hs a ha).1, (hs a ha).2, bs_d, bs_d, f_X3_shareBase, bs_d, bs_e, bs_e, hd.2.1, hp.2.2.2.2.2.2.2.1]
      have b := sh_b hp hd ha
      have c := dn_s hp hd
      have bb := base_s hp hd
      exact part_R hN (by omega) (by rw [bb.2.2.2]; exact bb.2.1) w
    · rw [a1, a2, bs_d, bs_d, if_pos rfl, if_pos rfl]
      exact ⟨_, rfl, rfl⟩
  · rw [f_X3_multiplier, f_X4_multiplier, k1, bs_d, if_pos rfl, if_pos k2]
    exact ⟨_, rfl, rfl⟩
/-! the slope -/
def slN (n : Nat) (σ : CS) (s : Int) (sh : Nat → Int64) (i : Nat) : Int := s * (c_bB σ).toInt - sm n (fun k => (prd (c_pw σ) (c_xx σ) (c_yy σ) (c_lb σ) i k).toInt * (sh k).toInt)
theorem slope_L {N n : Nat} {σ : CS} {μ : MS} {sh : Nat → Int64} (hp : ptR n σ μ) (hs : ∀ i, i < n → f_X3_share N (nI i) σ = some (sh i) ∧ f_X4_worthOf N (nI i) μ = some (sh i)) {i : Nat} (hi : i < n) (z : Int) : ∀ (j k f : Nat), k + j = n → j < f → f_X3_slopeShare_L8 N f (nI i) (Int64.ofInt (z - sm k (fun k => (prd (c_pw σ) (c_xx σ) (c_yy σ) (c_lb σ) i k).toInt * (sh k).toInt))) (nI k) σ = some (Int64.ofInt (z - sm n (fun k => (prd (c_pw σ) (c_xx σ) (c_yy σ) (c_lb σ) i k).toInt * (sh k).toInt))) ∧ f_X4_slopeOf_L14 N f (nI i) (Int64.ofInt (z - sm k (fun k => (prd (c_pw σ) (c_xx σ) (c_yy σ) (c_lb σ) i k).toInt * (sh k).toInt))) (nI k) μ = some (Int64.ofInt (z - sm n (fun k => (prd (c_pw σ) (c_xx σ) (c_yy σ) (c_lb σ) i k).toInt * (sh k).toInt))) := by
  obtain ⟨p1, p2, p3, p4, p5, p6, p7, p8, p9, p10, p11⟩ := hp
  have hn6 := pt_6 p9
  intro j
  induction j with
  | zero =>
    intro k f hk hf
    obtain ⟨f, rfl, hf⟩ := suc_of hf
    have e : k = n := by omega
    rw [f_X3_slopeShare_L8, f_X4_slopeOf_L14, p1, p2, if_pos (nI_le (by omega) (by omega)), if_pos (nI_le (by omega) (by omega)), e]
    exact ⟨rfl, rfl⟩
  | succ j ih =>
    intro k f hk hf
    obtain ⟨f, rfl, hf⟩ := suc_of hf
    have e : Int64.ofInt (z - sm k (fun k => (prd (c_pw σ) (c_xx σ) (c_yy σ) (c_lb σ) i k).toInt * (sh k).toInt)) - (prd (c_pw σ) (c_xx σ) (c_yy σ) (c_lb σ) i k).toInt64 * sh k = Int64.ofInt (z - sm (k + 1) (fun k => (prd (c_pw σ) (c_xx σ) (c_yy σ) (c_lb σ) i k).toInt * (sh k).toInt)) := by
      have e1 : sm (k + 1) (fun k => (prd (c_pw σ) (c_xx σ) (c_yy σ) (c_lb σ) i k).toInt * (sh k).toInt) = sm k (fun k => (prd (c_pw σ) (c_xx σ) (c_yy σ) (c_lb σ) i k).toInt * (sh k).toInt) + (prd (c_pw σ) (c_xx σ) (c_yy σ) (c_lb σ) i k).toInt * (sh k).toInt := rfl
      rw [e1, ← Int.sub_sub, Int64.ofInt_sub (z - _), Int64.ofInt_mul, oi_t, ← pl_64]
    obtain ⟨g1, g2⟩ := ih (k + 1) f (by omega) (by omega)
    rw [f_X3_slopeShare_L8, f_X4_slopeOf_L14, p1, p2, if_neg (nI_ge (by omega) (by omega)), if_neg (nI_ge (by omega) (by omega)), cPr (by omega) (by omega), mPr (by omega) (by omega), bs_d, bs_d, (hs k (by omega)).1, (hs k (by omega)).2, bs_d, bs_d, lt_d, lt_d, lt_d, lt_d, p3, p4, p5, p6, e, nI_1]
    exact ⟨g1, g2⟩
theorem slope_s {N n : Nat} (hN : 600 < N) {σ : CS} {μ : MS} {s : Int} {sh : Nat → Int64} (hp : ptR n σ μ) (hd : dnR n σ μ s sh) (hs : ∀ i, i < n → f_X3_share N (nI i) σ = some (sh i) ∧ f_X4_worthOf N (nI i) μ = some (sh i)) {i : Nat} (hi : i < n) : f_X3_slopeShare N (nI i) σ = some (Int64.ofInt (slN n σ s sh i)) ∧ f_X4_slopeOf N (nI i) μ = some (Int64.ofInt (slN n σ s sh i)) ∧ (slN n σ s sh i).natAbs ≤ 5440000000000000 := by
  have hn6 := pt_6 hp.2.2.2.2.2.2.2.2.1
  obtain ⟨g1, g2⟩ := slope_L hp hs hi (s * (c_bB σ).toInt) n 0 N (by omega) (by omega)
  have e0 : sm 0 (fun k => (prd (c_pw σ) (c_xx σ) (c_yy σ) (c_lb σ) i k).toInt * (sh k).toInt) = 0 := rfl
  rw [e0, Int.sub_zero, nI_0] at g1 g2
  have bb := base_s hp hd
  refine ⟨?_, ?_, hd.2.2.2.2.2.2 i hi⟩
  · rw [f_X3_slopeShare, f_X3_shareBase, bs_d, bb.1]
    exact g1
  · rw [f_X4_slopeOf, lt_d, hd.2.1, hp.2.2.2.2.2.2.2.1, bb.1]
    exact g2
theorem slope_R {N : Nat} (hN : 600 < N) {σ : CS} {μ : MS} (h : Rel σ μ) (i w : Int32) : ∃ v, f_X3_slope N i w σ = some v ∧ f_X4_slope N i w μ = some v := by
  obtain ⟨n, hp, ⟨s, sh, hd, hs, k1, k2⟩ | ⟨k1, k2⟩⟩ := rel_done hN h
  · have hn6 := pt_6 hp.2.2.2.2.2.2.2.2.1
    rw [f_X3_slope, f_X4_slope, k1, bs_d, if_neg n10, if_neg k2]
    rcases has_eq hn6 i σ μ hp.1 hp.2.1 with ⟨a, ha, rfl, a1, a2⟩ | ⟨a1, a2⟩
    · obtain ⟨s1, s2, s3⟩ := slope_s hN hp hd hs ha
      rw [a1, a2, bs_d, bs_d, if_neg n10, if_neg n10, s1, s2, bs_d, bs_d, f_X3_shareBase, bs_d, bs_e, bs_e, hd.2.1, hp.2.2.2.2.2.2.2.1]
      have bb := base_s hp hd
      have e : (Int64.ofInt (slN n σ s sh a)).toInt = slN n σ s sh a := oi_in (by omega) (by omega)
      exact part_R hN (by rw [e]; omega) (by rw [bb.2.2.2]; exact bb.2.1) w
    · rw [a1, a2, bs_d, bs_d, if_pos rfl, if_pos rfl]
      exact ⟨_, rfl, rfl⟩
  · rw [f_X3_slope, f_X4_slope, k1, bs_d, if_pos rfl, if_pos k2]
    exact ⟨_, rfl, rfl⟩
/-! LIES, CHECK -/
theorem lies_s {N n : Nat} {σ : CS} {μ : MS} {s : Int} {sh : Nat → Int64} (hp : ptR n σ μ) (hd : dnR n σ μ s sh) (hs : ∀ i, i < n → f_X3_share N (nI i) σ = some (sh i) ∧ f_X4_worthOf N (nI i) μ = some (sh i)) {i : Nat} (hi : i < n) : ∃ w : Int32, (w = 0 ∨ w = 1 ∨ w = 2) ∧ f_X3_placeInBox N (nI i) σ = some w ∧ f_X4_liesOf N (nI i) μ = some w := by
  rw [f_X3_placeInBox, f_X4_liesOf, (hs i hi).1, (hs i hi).2, bs_d, bs_d, f_X3_fullShare, bs_d, hd.2.1, hp.2.2.2.2.2.2.1, Int64.mul_comm (c_bA σ).toInt64]
  by_cases a : lg_cmp (sh i) 0 = 0
  · rw [if_pos a]
    exact ⟨0, Or.inl rfl, rfl, rfl⟩
  · rw [if_neg a]
    by_cases b : lg_cmp (sh i) (c_sc σ * (c_bA σ).toInt64) = 0
    · rw [if_pos b]
      exact ⟨2, Or.inr (Or.inr rfl), rfl, rfl⟩
    · rw [if_neg b]
      exact ⟨1, Or.inr (Or.inl rfl), rfl, rfl⟩
theorem lies_R {N : Nat} (hN : 600 < N) {σ : CS} {μ : MS} (h : Rel σ μ) (i : Int32) : ∃ v, f_X3_lies N i σ = some v ∧ f_X4_lies N i μ = some v := by
  obtain ⟨n, hp, hh⟩ := rel_done hN h
  have hn6 := pt_6 hp.2.2.2.2.2.2.2.2.1
  rw [f_X3_lies, f_X4_lies]
  rcases has_eq hn6 i σ μ hp.1 hp.2.1 with ⟨a, ha, rfl, a1, a2⟩ | ⟨a1, a2⟩
  · rw [a1, a2, bs_d, bs_d, if_neg n10, if_neg n10]
    rcases hh with ⟨s, sh, hd, hs, k1, k2⟩ | ⟨k1, k2⟩
    · obtain ⟨w, _, w1, w2⟩ := lies_s hp hd hs ha
      rw [k1, bs_d, if_neg n10, if_neg k2, w1, w2, bs_d]
      exact ⟨_, rfl, rfl⟩
    · rw [k1, bs_d, if_pos rfl, if_pos k2]
      exact ⟨_, rfl, rfl⟩
  · rw [a1, a2, bs_d, bs_d, if_pos rfl, if_pos rfl]
    exact ⟨_, rfl, rfl⟩
theorem check_L {N n : Nat} (hN : 600 < N) {σ : CS} {μ : MS} {s : Int} {sh : Nat → Int64} (hp : ptR n σ μ) (hd : dnR n σ μ s sh) (hs : ∀ i, i < n → f_X3_share N (nI i) σ = some (sh i) ∧ f_X4_worthOf N (nI i) μ = some (sh i)) : ∀ (j k f : Nat), k + j = n → j < f → ∃ v, f_X3_check_L12 N f (nI k) σ = some v ∧ f_X4_check_L12 N f (nI k) μ = some v := by
  have hn6 := pt_6 hp.2.2.2.2.2.2.2.2.1
  intro j
  induction j with
  | zero =>
    intro k f hk hf
    obtain ⟨f, rfl, hf⟩ := suc_of hf
    rw [f_X3_check_L12, f_X4_check_L12, hp.1, hp.2.1, if_pos (nI_le (by omega) (by omega)), if_pos (nI_le (by omega) (by omega))]
    exact ⟨_, rfl, rfl⟩
  | succ j ih =>
    intro k f hk hf
    obtain ⟨f, rfl, hf⟩ := suc_of hf
    have ihk := ih (k + 1) f (by omega) (by omega)
    obtain ⟨w, hw, w1, w2⟩ := lies_s hp hd hs (i := k) (by omega)
    obtain ⟨s1, s2, s3⟩ := slope_s hN hp hd hs (i := k) (by omega)
    rw [f_X3_check_L12, f_X4_check_L12, hp.1, hp.2.1, if_neg (nI_ge (by omega) (by omega)), if_neg (nI_ge (by omega) (by omega)), f_X3_holdsCondition, s1, s2, w1, w2, bs_d, bs_d, bs_d, bs_d]
    generalize Int64.ofInt (slN n σ s sh k) = v
    rcases hw with rfl | rfl | rfl
    · rw [if_pos rfl, if_pos rfl]
      by_cases q : lg_cmp v 0 ≤ 0
      · rw [if_neg (nlt_i q), if_pos q, bs_d, if_neg n10, lt_d, lt_d, nI_1]
        exact ihk
      · rw [if_pos (nle_i q), if_neg q, bs_d, if_pos rfl]
        exact ⟨_, rfl, rfl⟩
    · rw [if_neg n10, if_neg n10, if_neg (show ¬ (1 : Int32) = 2 by decide), if_neg (show ¬ (1 : Int32) = 2 by decide)]
      by_cases q : lg_cmp v 0 = 0
      · rw [if_pos q, if_pos q, bs_d, if_neg n10, lt_d, lt_d, nI_1]
        exact ihk
      · rw [if_neg q, if_neg q, bs_d, if_pos rfl]
        exact ⟨_, rfl, rfl⟩
    · rw [if_neg (show ¬ (2 : Int32) = 0 by decide), if_neg (show ¬ (2 : Int32) = 0 by decide), if_pos rfl, if_pos rfl]
      by_cases q : 0 ≤ lg_cmp v 0
      · rw [if_neg (nlt_i q), if_pos q, bs_d, if_neg n10, lt_d, lt_d, nI_1]
        exact ihk
      · rw [if_pos (nle_i q), if_neg q, bs_d, if_pos rfl]
        exact ⟨_, rfl, rfl⟩
theorem check_R {N : Nat} (hN : 600 < N) {σ : CS} {μ : MS} (h : Rel σ μ) : ∃ v, f_X3_check N σ = some v ∧ f_X4_check N μ = some v := by
  obtain ⟨n, hp, ⟨s, sh, hd, hs, k1, k2⟩ | ⟨k1, k2⟩⟩ := rel_done hN h
  · have hn6 := pt_6 hp.2.2.2.2.2.2.2.2.1
    rw [f_X3_check, f_X4_check, k1, bs_d, if_neg n10, if_neg k2, ← nI_0]
    exact check_L hN hp hd hs n 0 N (by omega) (by omega)
  · rw [f_X3_check, f_X4_check, k1, bs_d, if_pos rfl, if_pos k2]
    exact ⟨_, rfl, rfl⟩

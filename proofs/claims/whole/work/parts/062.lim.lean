/-! the limits in numbers -/
/-- points and what their products are at most -/
def okNQ (n q : Nat) : Prop := 1 ≤ n ∧ ((q = 33 ∧ n ≤ 6) ∨ (q = 1089 ∧ n ≤ 4))
theorem hb_nn (q : Nat) {n k : Nat} (h : n ≤ k) : hb q n n ≤ hb q k k := Nat.le_trans (hb_a q h n) (hb_h q k h)
theorem hb_33 : hb 33 6 6 ≤ 1200000000000 := by decide +kernel
theorem hb_1089 : hb 1089 4 4 ≤ 34000000000000 := by decide +kernel
theorem ok_hb {n q : Nat} (h : okNQ n q) : hb q n n ≤ 34000000000000 := by
  rcases h.2 with ⟨rfl, hn⟩ | ⟨rfl, hn⟩
  · exact Nat.le_trans (hb_nn 33 hn) (Nat.le_trans hb_33 (by decide))
  · exact Nat.le_trans (hb_nn 1089 hn) hb_1089
theorem ok_33 {n q : Nat} (h : okNQ n q) (hq : q = 33) : hb q n n ≤ 1200000000000 ∧ n ≤ 6 := by
  rcases h.2 with ⟨rfl, hn⟩ | ⟨rfl, hn⟩
  · exact ⟨Nat.le_trans (hb_nn 33 hn) hb_33, hn⟩
  · exact absurd hq (by decide)
theorem ok_all {n q : Nat} (h : okNQ n q) : (2 * n) * ((40 * n) * hb q n n) ≤ 43520000000000000 := by
  rcases h.2 with ⟨rfl, hn⟩ | ⟨rfl, hn⟩
  · have h1 := Nat.le_trans (hb_nn 33 hn) hb_33
    have h2 : (2 * n) * ((40 * n) * hb 33 n n) ≤ 12 * (240 * 1200000000000) := Nat.mul_le_mul (by omega) (Nat.mul_le_mul (by omega) h1)
    omega
  · have h1 := Nat.le_trans (hb_nn 1089 hn) hb_1089
    have h2 : (2 * n) * ((40 * n) * hb 1089 n n) ≤ 8 * (160 * 34000000000000) := Nat.mul_le_mul (by omega) (Nat.mul_le_mul (by omega) h1)
    omega
theorem ok_noy {n q : Nat} (h : okNQ n q) : (40 * n) * hb q n n ≤ 5440000000000000 := by
  rcases h.2 with ⟨rfl, hn⟩ | ⟨rfl, hn⟩
  · have h1 := Nat.le_trans (hb_nn 33 hn) hb_33
    have h2 : (40 * n) * hb 33 n n ≤ 240 * 1200000000000 := Nat.mul_le_mul (by omega) h1
    omega
  · have h1 := Nat.le_trans (hb_nn 1089 hn) hb_1089
    have h2 : (40 * n) * hb 1089 n n ≤ 160 * 34000000000000 := Nat.mul_le_mul (by omega) h1
    omega
theorem bs_map (A : Nat → Nat → Int) (m : Nat) (t : Nat → Nat) (r c : Nat) : (bs A m t).set r (A c) = (((List.range m).map t).set r c).map A := by
  rw [List.map_set, List.map_map]
  rfl
theorem bs_map0 (A : Nat → Nat → Int) (m : Nat) (t : Nat → Nat) : bs A m t = ((List.range m).map t).map A := by
  rw [List.map_map]
  rfl
theorem mem_rs {m : Nat} {t : Nat → Nat} {r c x : Nat} (h : x ∈ ((List.range m).map t).set r c) : x = c ∨ ∃ k, k < m ∧ x = t k := by
  rcases List.mem_or_eq_of_mem_set h with q | q
  · obtain ⟨k, hk, rfl⟩ := List.mem_map.mp q
    exact Or.inr ⟨k, List.mem_range.mp hk, rfl⟩
  · exact Or.inl q
theorem e_abs {e x : Int} (h : e = 1 ∨ e = -1) : (e * x).natAbs = x.natAbs := by
  rcases h with rfl | rfl
  · rw [Int.one_mul]
  · rw [Int.neg_mul, Int.one_mul, Int.natAbs_neg]
/-- every cell, and the scale -/
theorem TI_bd {n q : Nat} (hok : okNQ n q) {A : Nat → Nat → Int} (hA : ∀ c, kdOk n q (kd n c) (A c)) {t : Nat → Nat} {g : Nat → Nat → Int} {s e : Int} (h : TI (2 * n) A t g s e) (ht : ∀ r, r < 2 * n → t r ≤ 4 * n) {r c : Nat} (hr : r < 2 * n) (hc : c ≤ 2 * (2 * n) + 1) : (g r c).natAbs ≤ 43520000000000000 := by
  rw [h.2.2.2.1 r c hr hc, e_abs h.1, bs_map]
  refine Nat.le_trans (dt_cells hok.1 hA _ (fun x hx => ?_)).1 (ok_all hok)
  rcases mem_rs hx with q | ⟨k, hk, q⟩
  · omega
  · have := ht k hk; omega
theorem TI_bdq {n q : Nat} (hok : okNQ n q) {A : Nat → Nat → Int} (hA : ∀ c, kdOk n q (kd n c) (A c)) {t : Nat → Nat} {g : Nat → Nat → Int} {s e : Int} (h : TI (2 * n) A t g s e) (ht : ∀ r, r < 2 * n → t r < 4 * n) {r c : Nat} (hr : r < 2 * n) (hc : c ≤ 2 * (2 * n) + 1) (hy : c ≠ 4 * n) : (g r c).natAbs ≤ 5440000000000000 := by
  rw [h.2.2.2.1 r c hr hc, e_abs h.1, bs_map]
  refine Nat.le_trans ((dt_cells hok.1 hA _ (fun x hx => ?_)).2.1 (fun x hx => ?_)) (ok_noy hok)
  · rcases mem_rs hx with q | ⟨k, hk, q⟩
    · omega
    · have := ht k hk; omega
  · rcases mem_rs hx with q | ⟨k, hk, q⟩
    · omega
    · have := ht k hk; omega
theorem TI_bds {n q : Nat} (hok : okNQ n q) {A : Nat → Nat → Int} (hA : ∀ c, kdOk n q (kd n c) (A c)) {t : Nat → Nat} {g : Nat → Nat → Int} {s e : Int} (h : TI (2 * n) A t g s e) (ht : ∀ r, r < 2 * n → t r < 4 * n) : s.natAbs ≤ hb q n n := by
  rw [h.2.2.1, e_abs h.1, bs_map0]
  refine (dt_cells hok.1 hA _ (fun x hx => ?_)).2.2 (fun x hx => ?_)
  · obtain ⟨k, hk, rfl⟩ := List.mem_map.mp hx
    have := ht k (List.mem_range.mp hk); omega
  · obtain ⟨k, hk, rfl⟩ := List.mem_map.mp hx
    exact ht k (List.mem_range.mp hk)
/-- what rows tell is apart -/
theorem TI_ap {m : Nat} {A : Nat → Nat → Int} {t : Nat → Nat} {g : Nat → Nat → Int} {s e : Int} (h : TI m A t g s e) {i j : Nat} (hi : i < m) (hj : j < m) (hne : i ≠ j) : t i ≠ t j := fun q => by
  have z : dt m (bs A m t) full = 0 := by
    have g1 := bs_get A t hi
    have g2 := bs_get A t hj
    rw [← q] at g2
    rcases Nat.lt_or_gt_of_ne hne with k | k
    · exact dt_dup m _ g1 g2 k full
    · exact dt_dup m _ g2 g1 k full
  have h1 := h.2.1
  rw [h.2.2.1, z, Int.mul_zero] at h1
  omega

/-! the first table keeps the invariant -/
def uE (c i : Nat) : Int := if i = c then 1 else 0
theorem sg_1 {S : Nat → Bool} {k : Nat} (h : ∀ i, i < k → ¬ S i = true) : sg S k = 1 := by
  induction k with
  | zero => rfl
  | succ k ih => rw [sg, if_neg (h k (by omega)), ih (fun i hi => h i (by omega))]
theorem dt_unit (m : Nat) : ∀ (j k : Nat) (S : Nat → Bool), k + j = m → (∀ i, i < m → (S i = true ↔ k ≤ i)) → dt m ((List.range' k j).map uE) S = 1 := by
  intro j
  induction j with
  | zero => intro k S _ _; rfl
  | succ j ih =>
    intro k S hk hS
    rw [List.range'_succ, List.map_cons]
    show wd m (uE k) (dt m ((List.range' (k + 1) j).map uE)) S = 1
    unfold wd
    have hkm : k < m := by omega
    rw [sm_one hkm (fun i hi hne => by
      unfold uE
      rw [if_neg hne, Int.mul_zero, Int.zero_mul, ite_self]), if_pos ((hS k hkm).mpr (Nat.le_refl k)), sg_1 (fun i hi q => by have := (hS i (by omega)).mp q; omega)]
    rw [ih (k + 1) (rmv S k) (by omega) (fun i hi => by
      unfold rmv
      by_cases e : i = k
      · rw [if_pos e]
        constructor
        · intro q; exact absurd q (by decide)
        · intro q; omega
      · rw [if_neg e, hS i hi]
        omega)]
    unfold uE
    rw [if_pos rfl]; rfl
theorem dt_id (m : Nat) : dt m ((List.range m).map uE) full = 1 := by
  rw [List.range_eq_range']
  exact dt_unit m m 0 full (by omega) (fun i _ => ⟨fun _ => Nat.zero_le _, fun _ => rfl⟩)
theorem dt_id_set (m : Nat) (x : Nat → Int) {r : Nat} (hr : r < m) : dt m (((List.range m).map uE).set r x) full = x r := by
  have hlen : ((List.range m).map uE).length = m := by rw [List.length_map, List.length_range]
  have hget : ∀ q, q < m → ((List.range m).map uE)[q]? = some (uE q) := fun q hq => by
    rw [List.getElem?_map, List.getElem?_range hq]; rfl
  have e1 : dt m (((List.range m).map uE).set r x) full = dt m (((List.range m).map uE).set r (fun i => sm m (fun k => x k * uE k i))) full := dt_congr m (fun i hi => by
    rw [sm_one hi (fun k _ hne => by unfold uE; rw [if_neg (Ne.symm hne), Int.mul_zero])]
    unfold uE
    rw [if_pos rfl, Int.mul_one]) _ _ _
  rw [e1, dt_sum m m x uE _ (by rw [hlen]; exact hr), sm_one hr (fun k hk hne => ?_)]
  · have e2 : ((List.range m).map uE).set r (uE r) = (List.range m).map uE := by
      apply List.ext_getElem?
      intro q
      by_cases h : q = r
      · subst h
        rw [List.getElem?_set_self (by rw [hlen]; exact hr), hget q hr]
      · rw [List.getElem?_set_ne (Ne.symm h)]
    rw [e2, dt_id, Int.mul_one]
  · have g1 : (((List.range m).map uE).set r (uE k))[k]? = some (uE k) := by rw [List.getElem?_set_ne (Ne.symm hne), hget k hk]
    have g2 : (((List.range m).map uE).set r (uE k))[r]? = some (uE k) := by rw [List.getElem?_set_self (by rw [hlen]; exact hr)]
    have z : dt m (((List.range m).map uE).set r (uE k)) full = 0 := by
      rcases Nat.lt_or_gt_of_ne hne with h | h
      · exact dt_dup m _ g1 g2 h full
      · exact dt_dup m _ g2 g1 h full
    rw [z, Int.mul_zero]
theorem aC_w {n : Nat} (Q : Nat → Nat → Int) (bA bB : Int) {c : Nat} (h : c < 2 * n) : aC n Q bA bB c = uE c := by
  funext i
  exact if_pos h
theorem bs_id (n : Nat) (Q : Nat → Nat → Int) (bA bB : Int) : bs (aC n Q bA bB) (2 * n) (fun r => r) = (List.range (2 * n)).map uE := by
  unfold bs
  exact List.map_congr_left (fun r hr => aC_w Q bA bB (List.mem_range.mp hr))
theorem TI_0 (n : Nat) (Q : Nat → Nat → Int) (bA bB : Int) (t : Nat → Nat) (ht : ∀ r, r < 2 * n → t r = r) (g : Nat → Nat → Int) (hg : ∀ r c, r < 2 * n → c ≤ 2 * (2 * n) + 1 → g r c = aC n Q bA bB c r) : TI (2 * n) (aC n Q bA bB) t g 1 1 := by
  have hb : bs (aC n Q bA bB) (2 * n) t = (List.range (2 * n)).map uE := by
    rw [← bs_id n Q bA bB]
    unfold bs
    exact List.map_congr_left (fun r hr => by rw [ht r (List.mem_range.mp hr)])
  refine ⟨Or.inl rfl, by decide, ?_, fun r c hr hc => ?_, fun c i hc hi => ?_⟩
  · rw [hb, dt_id]; rfl
  · rw [hb, dt_id_set _ _ hr, hg r c hr hc, Int.one_mul]
  · rw [Int.one_mul, sm_one hi (fun r hr hne => ?_), hg i c hi hc, ht i hi, aC_w Q bA bB hi]
    · unfold uE
      rw [if_pos rfl, Int.mul_one]
    · rw [ht r hr, aC_w Q bA bB hr]
      unfold uE
      rw [if_neg (Ne.symm hne), Int.mul_zero]
/-! its columns' kinds, and what follows for all cells -/
theorem aC_ok (n q : Nat) (Q : Nat → Nat → Int) (bA bB : Int) (hQ : ∀ r k, r < n → k < n → (Q r k).natAbs ≤ q) (hA : bA.natAbs ≤ 20) (hB : bB.natAbs ≤ 20) : ∀ c, kdOk n q (kd n c) (aC n Q bA bB c) := by
  intro c
  unfold kd
  by_cases h1 : c < 2 * n
  · rw [if_pos h1, aC_w Q bA bB h1]
    exact ⟨c, by unfold uE; rw [if_pos rfl]; decide, fun i _ hne => if_neg hne⟩
  · rw [if_neg h1]
    by_cases h2 : c < 3 * n
    · rw [if_pos h2]
      have e : ∀ i, aC n Q bA bB c i = - mM n Q i (c - 2 * n) := fun i => by
        unfold aC
        rw [if_neg h1, if_pos (by omega)]
      refine ⟨fun i hi => ?_, n + (c - 2 * n), ?_, fun i h3 h4 h5 => ?_⟩
      · rw [e, Int.natAbs_neg, mM, if_pos ⟨hi, by omega⟩]
        exact hQ i _ hi (by omega)
      · rw [e, Int.natAbs_neg, mM, if_neg (by omega), if_neg (by omega), if_pos rfl]
        decide
      · rw [e, mM, if_neg (by omega), if_neg (by omega), if_neg h5]
        rfl
    · rw [if_neg h2]
      by_cases h3 : c < 4 * n
      · rw [if_pos h3]
        have e : ∀ i, aC n Q bA bB c i = - mM n Q i (c - 2 * n) := fun i => by
          unfold aC
          rw [if_neg h1, if_pos h3]
        refine ⟨c - 3 * n, ?_, fun i h4 h5 => ?_⟩
        · rw [e, Int.natAbs_neg, mM, if_neg (by omega), if_pos (by omega)]
          decide
        · rw [e, mM, if_neg (by omega), if_neg (by omega), if_neg (by omega)]
          rfl
      · rw [if_neg h3]
        by_cases h4 : c = 4 * n
        · rw [if_pos h4]
          intro i hi
          unfold aC
          rw [if_neg h1, if_neg h3, if_pos h4]
          decide
        · rw [if_neg h4]
          intro i hi
          unfold aC
          rw [if_neg h1, if_neg h3, if_neg h4]
          by_cases h5 : i < n
          · rw [if_pos h5, Int.natAbs_neg]; exact hB
          · rw [if_neg h5]; exact hA
theorem wS_full (n : Nat) : wS n full = n := by
  have h : wS n full = sn n (fun _ => 1) := sn_eq (fun i _ => if_pos rfl)
  rw [h, sn_const, Nat.mul_one]
theorem pw_le {a k : Nat} (ha : 1 ≤ a) (hk : k ≤ 1) : a ^ k ≤ a := by
  rcases (show k = 0 ∨ k = 1 by omega) with rfl | rfl
  · rw [Nat.pow_zero]; exact ha
  · rw [Nat.pow_one]; exact Nat.le_refl _
theorem dt_cells {n q : Nat} (hn : 1 ≤ n) {A : Nat → Nat → Int} (hA : ∀ c, kdOk n q (kd n c) (A c)) (cs : List Nat) (hl : ∀ c, c ∈ cs → c ≤ 4 * n + 1) : (dt (2 * n) (cs.map A) full).natAbs ≤ (2 * n) * ((40 * n) * hb q n n) ∧ ((∀ c, c ∈ cs → c ≠ 4 * n) → (dt (2 * n) (cs.map A) full).natAbs ≤ (40 * n) * hb q n n) ∧ ((∀ c, c ∈ cs → c < 4 * n) → (dt (2 * n) (cs.map A) full).natAbs ≤ hb q n n) := by
  by_cases hap : ap cs
  · have h0 := dt_bd n q A hA cs full
    rw [wS_full] at h0
    unfold bnd at h0
    have c1 := cn1_le (n := n) hap
    have c2 := cn2_le (n := n) hap
    have c3 := cn3_le (n := n) hap hl
    have b1 : hb q (cn n 1 cs) n ≤ hb q n n := hb_a q c1 n
    have b3 : (40 * n) ^ cn n 3 cs ≤ 40 * n := pw_le (by omega) c3
    have b2 : (2 * n) ^ cn n 2 cs ≤ 2 * n := pw_le (by omega) c2
    refine ⟨Nat.le_trans h0 (Nat.mul_le_mul b2 (Nat.mul_le_mul b3 b1)), fun hy => ?_, fun hy => ?_⟩
    · rw [cn2_0 hy, Nat.pow_zero, Nat.one_mul] at h0
      exact Nat.le_trans h0 (Nat.mul_le_mul b3 b1)
    · rw [cn2_0 (fun c hc => by have := hy c hc; omega), cn3_0 (fun c hc => by have := hy c hc; omega), Nat.pow_zero, Nat.one_mul, Nat.pow_zero, Nat.one_mul] at h0
      exact Nat.le_trans h0 b1
  · have z : dt (2 * n) (cs.map A) full = 0 := by
      obtain ⟨i, h⟩ := Classical.not_forall.mp hap
      obtain ⟨j, h⟩ := Classical.not_forall.mp h
      obtain ⟨x, h⟩ := Classical.not_forall.mp h
      obtain ⟨hi, h⟩ := Classical.not_imp.mp h
      obtain ⟨hj, hne⟩ := Classical.not_imp.mp h
      have g1 : (cs.map A)[i]? = some (A x) := by rw [List.getElem?_map, hi]; rfl
      have g2 : (cs.map A)[j]? = some (A x) := by rw [List.getElem?_map, hj]; rfl
      rcases Nat.lt_or_gt_of_ne hne with q | q
      · exact dt_dup _ _ g1 g2 q full
      · exact dt_dup _ _ g2 g1 q full
    rw [z]
    exact ⟨Nat.zero_le _, fun _ => Nat.zero_le _, fun _ => Nat.zero_le _⟩

/-! GO, of both -/
theorem n10 : ¬ (1 : Int32) = 0 := by decide
theorem in_s (x a b : Int32) : f_X4_in x a b = some (if x < a then 0 else if b < x then 0 else 1) := by
  rw [f_X4_in]
  by_cases h1 : x < a
  · rw [if_pos h1, if_pos h1]
  · rw [if_neg h1, if_neg h1]
    by_cases h2 : b < x
    · rw [if_pos h2, if_pos h2]
    · rw [if_neg h2, if_neg h2]
theorem nle_i {a b : Int32} (h : ¬ a ≤ b) : b < a := by
  rw [Int32.lt_iff_toInt_lt]
  rw [Int32.le_iff_toInt_le] at h
  omega
theorem nlt_i {a b : Int32} (h : a ≤ b) : ¬ b < a := by
  rw [Int32.lt_iff_toInt_lt]
  rw [Int32.le_iff_toInt_le] at h
  omega
theorem lt_nle {a b : Int32} (h : a < b) : ¬ b ≤ a := by
  rw [Int32.lt_iff_toInt_lt] at h
  rw [Int32.le_iff_toInt_le]
  omega
theorem nlt_le {a b : Int32} (h : ¬ a < b) : b ≤ a := by
  rw [Int32.lt_iff_toInt_lt] at h
  rw [Int32.le_iff_toInt_le]
  omega
/-- a number in an interval, as the classes ask -/
theorem in_0 {x a b : Int32} (h : x < a ∨ b < x) : f_X4_in x a b = some 0 := by
  rw [in_s]
  rcases h with h | h
  · rw [if_pos h]
  · by_cases h1 : x < a
    · rw [if_pos h1]
    · rw [if_neg h1, if_pos h]
theorem in_1 {x a b : Int32} (h1 : ¬ x < a) (h2 : ¬ b < x) : f_X4_in x a b = some 1 := by
  rw [in_s, if_neg h1, if_neg h2]
theorem stands_R {n : Nat} {σ : CS} {μ : MS} {t E F : Nat → Nat} {st : Nat} {e : Int} (h : tbR n σ μ t E F st e) : f_X4_stands μ = some (c_sa σ) := by
  obtain ⟨_, _, _, _, _, _, _, _, _, _, _, _, _, _, b15⟩ := h
  rw [f_X4_stands]
  rcases b15 with ⟨z1, z2, z3, _⟩ | ⟨z1, z2, z3⟩ | ⟨z1, z2, z3, _⟩
  · rw [z1, z2, z3, if_pos rfl, if_pos rfl]
  · rw [z1, z2, z3, if_pos rfl, if_neg (by decide)]
  · rw [z1, z2, if_neg (by decide)]
theorem go_L {N : Nat} (hN : 600 < N) {n g : Nat} (hg : g ≤ 60) : ∀ (j k f : Nat) (σ : CS) (μ : MS), k + j = g → j < f → ptR n σ μ → (∃ t E F st e, tbR n σ μ t E F st e) → ∃ v σ2 μ2, f_X3_go_L30 N f (nI g) (nI k) σ = some (v, σ2) ∧ f_X4_go_L25 N f (nI g) (nI k) μ = some (v, μ2) ∧ Rel σ2 μ2 := by
  intro j
  induction j with
  | zero =>
    intro k f σ μ hk hf hp ht
    obtain ⟨f, rfl, hf⟩ := suc_of hf
    obtain ⟨t, E, F, st, e, h⟩ := ht
    refine ⟨c_sa σ, σ, μ, ?_, ?_, n, hp, Or.inr ⟨t, E, F, st, e, h⟩⟩
    · rw [f_X3_go_L30, if_pos (nI_le (by omega) (by omega))]
    · rw [f_X4_go_L25, if_pos (nI_le (by omega) (by omega)), stands_R h, bs_d]
  | succ j ih =>
    intro k f σ μ hk hf hp ht
    obtain ⟨f, rfl, hf⟩ := suc_of hf
    obtain ⟨t, E, F, st, e, h⟩ := ht
    have hs := stands_R h
    have b5 : c_st σ = nI st := h.2.2.2.2.1
    have b6 : m_st μ = nI st := h.2.2.2.2.2.1
    have b7 : st ≤ 200 := h.2.2.2.2.2.2.1
    rw [f_X3_go_L30, f_X4_go_L25, if_neg (nI_ge (by omega) (by omega)), if_neg (nI_ge (by omega) (by omega)), f_X1_mayStep, hs, bs_d]
    by_cases hsa : c_sa σ = 0
    · rw [if_pos hsa, if_pos hsa, b5, b6, show (200 : Int32) = nI 200 from rfl]
      by_cases h2 : 200 ≤ st
      · refine ⟨c_sa σ, σ, μ, ?_, ?_, n, hp, Or.inr ⟨t, E, F, st, e, h⟩⟩
        · rw [if_pos (nI_le h2 (by omega)), bs_d, if_pos rfl]
        · rw [if_pos (nI_le h2 (by omega)), bs_d]
      · obtain ⟨σ2, μ2, s1, s2, s3, s4⟩ := step_R hN hp h hsa (by omega)
        obtain ⟨v, σ3, μ3, g1, g2, g3⟩ := ih (k + 1) f σ2 μ2 (by omega) (by omega) s3 s4
        refine ⟨v, σ3, μ3, ?_, ?_, g3⟩
        · rw [if_neg (nI_ge (by omega) (by omega)), bs_d, if_neg (by decide), s1, bs_d, lt_d, nI_1, g1]
        · rw [if_neg (nI_ge (by omega) (by omega)), s2, bs_d, lt_d, nI_1, g2]
    · refine ⟨c_sa σ, σ, μ, ?_, ?_, n, hp, Or.inr ⟨t, E, F, st, e, h⟩⟩
      · rw [if_neg hsa, bs_d, if_pos rfl]
      · rw [if_neg hsa, bs_d]
theorem go_R {N : Nat} (hN : 600 < N) {σ : CS} {μ : MS} (h : Rel σ μ) (x : Int32) : ∃ v σ2 μ2, f_X3_go N x σ = some (v, σ2) ∧ f_X4_go N x μ = some (v, μ2) ∧ Rel σ2 μ2 := by
  rw [f_X3_go, f_X4_go]
  by_cases h1 : x < 1
  · refine ⟨-2, σ, μ, ?_, ?_, h⟩
    · rw [if_pos h1]
    · rw [in_0 (Or.inl h1), bs_d, if_pos rfl]
  · rw [if_neg h1]
    by_cases h2 : x ≤ 60
    · rw [if_pos h2, in_1 h1 (nlt_i h2), bs_d, if_neg n10]
      have hx : ∃ g : Nat, g ≤ 60 ∧ x = nI g := by
        rw [Int32.le_iff_toInt_le] at h2
        rw [Int32.lt_iff_toInt_lt] at h1
        have e1 : (1 : Int32).toInt = 1 := rfl
        have e2 : (60 : Int32).toInt = 60 := rfl
        refine ⟨x.toInt.toNat, by omega, ?_⟩
        apply Int32.toInt_inj.mp
        rw [nI_toInt (by omega)]
        omega
      obtain ⟨g, hg, rfl⟩ := hx
      obtain ⟨n, hp, hn | ht⟩ := h
      · refine ⟨-3, σ, μ, ?_, ?_, n, hp, Or.inl hn⟩
        · rw [hn.2.2.2.2.2.2, if_pos rfl]
        · rw [hn.1, if_pos rfl]
      · have ht2 := ht
        obtain ⟨t, E, F, st, e, hh⟩ := ht2
        have hs : ¬ c_sa σ = -1 := by
          obtain ⟨_, _, _, _, _, _, _, _, _, _, _, _, _, _, b15⟩ := hh
          rcases b15 with ⟨z, _⟩ | ⟨z, _⟩ | ⟨z, _⟩ <;> (rw [z]; decide)
        have hb : ¬ m_bg μ = 0 := by rw [hh.2.1]; decide
        rw [if_neg hs, if_neg hb, ← nI_0]
        exact go_L hN hg g 0 N σ μ (by omega) (by omega) hp ht
    · refine ⟨-2, σ, μ, ?_, ?_, h⟩
      · rw [if_neg h2]
      · rw [in_0 (Or.inr (nle_i h2)), bs_d, if_pos rfl]

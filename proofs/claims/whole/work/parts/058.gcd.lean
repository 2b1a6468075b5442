/-! fractions in lowest terms -/
def fa : Nat → Nat → Nat → Nat
  | 0, a, _ => a
  | n + 1, a, b => fa n b (a + b)
theorem fa_2 : ∀ (n a b : Nat), fa (n + 2) a b = fa n a b + fa (n + 1) a b := by
  intro n
  induction n with
  | zero => intro a b; rfl
  | succ n ih => intro a b; exact ih b (a + b)
theorem gcd_step {a b : Nat} : Nat.gcd a b = Nat.gcd b (a % b) := by
  rw [Nat.gcd_comm a b, Nat.gcd_rec b a, Nat.gcd_comm]
theorem lz_eq (b : Nat) (hb : b < 2 ^ 63) : lg_cmp (lN b) (0 : Int64) = 0 ↔ b = 0 := by
  rw [lc_eq, show (0 : Int64) = lN 0 from rfl, pk_lEQ hb (by decide)]
theorem lz_ne {b : Nat} (h0 : 0 < b) (hb : b < 2 ^ 63) : (!decide (lN b = 0)) = true := by
  have h : ¬ lN b = 0 := by
    rw [show (0 : Int64) = lN 0 from rfl, pk_lEQ hb (by decide)]
    omega
  simp [h]
theorem cd_L (N : Nat) : ∀ (k a b t n : Nat), t + k = 100 → k < n → a < 2 ^ 63 → b < 2 ^ 63 → b < fa (k + 2) 0 1 → f_X2_commonDivisor_L3 N n (lN a) (lN b) (nI t) = some (lN (Nat.gcd a b)) := by
  intro k
  induction k using Nat.strongRecOn with
  | _ k ih =>
    intro a b t n hk hn ha hb hf
    obtain ⟨n, rfl, hn⟩ := suc_of hn
    rw [f_X2_commonDivisor_L3, show (100 : Int32) = nI 100 from rfl]
    cases k with
    | zero =>
      have hb0 : b = 0 := by
        have : fa (0 + 2) 0 1 = 1 := rfl
        omega
      rw [if_pos (nI_le (by omega) (by omega)), hb0, Nat.gcd_zero_right]
    | succ k =>
      rw [if_neg (nI_ge (by omega) (by omega))]
      by_cases h0 : b = 0
      · rw [if_pos ((lz_eq b hb).mpr h0), h0, Nat.gcd_zero_right]
      · have hm : a % b < b := Nat.mod_lt _ (by omega)
        rw [if_neg (fun z => h0 ((lz_eq b hb).mp z)), gd_t _ (lz_ne (by omega) hb), lt_d, lt_d, nI_1, pk_lRem ha (by omega) hb, gcd_step]
        rcases Nat.lt_or_ge (a % b) (fa (k + 2) 0 1) with hl | hl
        · exact ih k (by omega) b (a % b) (t + 1) n (by omega) (by omega) hb (by omega) hl
        · cases k with
          | zero =>
            have e1 : fa (0 + 2) 0 1 = 1 := rfl
            have e2 : fa (0 + 1 + 2) 0 1 = 2 := rfl
            omega
          | succ k =>
            have e := fa_2 (k + 2) 0 1
            have hmm : b % (a % b) < a % b := Nat.mod_lt _ (by
              have : 0 < fa (k + 1 + 2) 0 1 := by
                rcases Nat.eq_zero_or_pos (fa (k + 1 + 2) 0 1) with z | z
                · have e3 := fa_2 (k + 2) 0 1
                  have e4 : k + 2 + 1 = k + 1 + 2 := by omega
                  have e5 : k + 2 + 2 = k + 1 + 1 + 2 := by omega
                  rw [e4, e5] at e3
                  have e6 := fa_2 (k + 1) 0 1
                  have e7 : k + 1 + 1 = k + 2 := by omega
                  rw [e7] at e6
                  omega
                · exact z
              omega)
            have hle : b % (a % b) + a % b ≤ b := by
              have q := Nat.div_add_mod b (a % b)
              have q2 : 1 ≤ b / (a % b) := by
                rcases Nat.eq_zero_or_pos (b / (a % b)) with z | z
                · rw [z, Nat.mul_zero] at q; omega
                · exact z
              have q3 : (a % b) * 1 ≤ (a % b) * (b / (a % b)) := Nat.mul_le_mul_left _ q2
              omega
            obtain ⟨n, rfl, hn⟩ := suc_of (show k + 1 < n by omega)
            have hr0 : ¬ a % b = 0 := by omega
            rw [f_X2_commonDivisor_L3, show (100 : Int32) = nI 100 from rfl, if_neg (nI_ge (by omega) (by omega)), if_neg (fun z => hr0 ((lz_eq _ (by omega)).mp z)), gd_t _ (lz_ne (by omega) (by omega)), lt_d, lt_d, nI_1, pk_lRem hb (by omega) (by omega), gcd_step (a := b)]
            refine ih k (by omega) (a % b) (b % (a % b)) (t + 1 + 1) n (by omega) (by omega) (by omega) (by omega) ?_
            have e4 : k + 2 + 1 = k + 1 + 2 := by omega
            have e5 : k + 2 + 2 = k + 1 + 1 + 2 := by omega
            rw [e4, e5] at e
            omega
theorem fa_big : 2 ^ 63 < fa 102 0 1 := by decide +kernel
theorem cd_s {N a b : Nat} (hN : 100 < N) (ha : a < 2 ^ 63) (hb : b < 2 ^ 63) : f_X2_commonDivisor N (lN a) (lN b) = some (lN (Nat.gcd a b)) := by
  rw [f_X2_commonDivisor]
  exact cd_L N 100 a b 0 N (by omega) hN ha hb (Nat.lt_trans hb fa_big)
theorem md_L (N : Nat) : ∀ (b a n : Nat), b < n → a < 2 ^ 63 → b < 2 ^ 63 → f_X4_divisor_L12 N n (lN a) (lN b) = some (lN (Nat.gcd a b)) := by
  intro b
  induction b using Nat.strongRecOn with
  | _ b ih =>
    intro a n hn ha hb
    obtain ⟨n, rfl, hn⟩ := suc_of hn
    rw [f_X4_divisor_L12]
    by_cases h0 : b = 0
    · rw [if_pos ((lz_eq b hb).mpr h0), h0, Nat.gcd_zero_right]
    · have hm : a % b < b := Nat.mod_lt _ (by omega)
      rw [if_neg (fun z => h0 ((lz_eq b hb).mp z)), gd_t _ (lz_ne (by omega) hb), lt_d, pk_lRem ha (by omega) hb, gcd_step]
      exact ih (a % b) hm b n (by omega) hb (by omega)
/-- as many rounds as the class has are enough for the reference too -/
theorem md_F (N : Nat) : ∀ (k a b n : Nat), k < n → a < 2 ^ 63 → b < 2 ^ 63 → b < fa (k + 2) 0 1 → f_X4_divisor_L12 N n (lN a) (lN b) = some (lN (Nat.gcd a b)) := by
  intro k
  induction k using Nat.strongRecOn with
  | _ k ih =>
    intro a b n hn ha hb hf
    obtain ⟨n, rfl, hn⟩ := suc_of hn
    rw [f_X4_divisor_L12]
    by_cases h0 : b = 0
    · rw [if_pos ((lz_eq b hb).mpr h0), h0, Nat.gcd_zero_right]
    · cases k with
      | zero =>
        have : fa (0 + 2) 0 1 = 1 := rfl
        omega
      | succ k =>
        have hm : a % b < b := Nat.mod_lt _ (by omega)
        rw [if_neg (fun z => h0 ((lz_eq b hb).mp z)), gd_t _ (lz_ne (by omega) hb), lt_d, pk_lRem ha (by omega) hb, gcd_step]
        rcases Nat.lt_or_ge (a % b) (fa (k + 2) 0 1) with hl | hl
        · exact ih k (by omega) b (a % b) n (by omega) hb (by omega) hl
        · cases k with
          | zero =>
            have e1 : fa (0 + 2) 0 1 = 1 := rfl
            have e2 : fa (0 + 1 + 2) 0 1 = 2 := rfl
            omega
          | succ k =>
            have e := fa_2 (k + 2) 0 1
            have e4 : k + 2 + 1 = k + 1 + 2 := by omega
            have e5 : k + 2 + 2 = k + 1 + 1 + 2 := by omega
            rw [e4, e5] at e
            by_cases hr0 : a % b = 0
            · obtain ⟨n, rfl, hn⟩ := suc_of (show k + 1 < n by omega)
              rw [f_X4_divisor_L12, hr0, if_pos ((lz_eq 0 (by decide)).mpr rfl), Nat.gcd_zero_right]
            · have hmm : b % (a % b) < a % b := Nat.mod_lt _ (by omega)
              have hle : b % (a % b) + a % b ≤ b := by
                have q := Nat.div_add_mod b (a % b)
                have q2 : 1 ≤ b / (a % b) := by
                  rcases Nat.eq_zero_or_pos (b / (a % b)) with z | z
                  · rw [z, Nat.mul_zero] at q; omega
                  · exact z
                have q3 : (a % b) * 1 ≤ (a % b) * (b / (a % b)) := Nat.mul_le_mul_left _ q2
                omega
              obtain ⟨n, rfl, hn⟩ := suc_of (show k + 1 < n by omega)
              rw [f_X4_divisor_L12, if_neg (fun z => hr0 ((lz_eq _ (by omega)).mp z)), gd_t _ (lz_ne (by omega) (by omega)), lt_d, pk_lRem hb (by omega) (by omega), gcd_step (a := b)]
              exact ih k (by omega) (a % b) (b % (a % b)) n (by omega) (by omega) (by omega) (by omega)
theorem abs_s {x : Int64} (h : x.toInt ≠ -9223372036854775808) : ∃ a : Nat, a < 2 ^ 63 ∧ (if 0 < x then x else -x) = lN a ∧ f_X4_size x = some (lN a) := by
  have r := fb_rngL x
  have hz : (0 : Int64).toInt = 0 := rfl
  have hneg : (-x).toInt = -x.toInt := by
    rw [Int64.toInt_neg]
    exact fb_bmodL (by omega) (by omega)
  rcases Int.le_total 0 x.toInt with hp | hp
  · have e : x = lN x.toInt.toNat := by
      rw [lN_oi]
      apply oi_of
      omega
    refine ⟨x.toInt.toNat, by omega, ?_, ?_⟩
    · by_cases q : 0 < x
      · rw [if_pos q]; exact e
      · rw [if_neg q]
        rw [Int64.lt_iff_toInt_lt, hz] at q
        have x0 : x = 0 := Int64.toInt_inj.mp (by rw [hz]; omega)
        rw [x0]; rfl
    · rw [f_X4_size, if_pos (by rw [lc_ge, Int64.le_iff_toInt_le, hz]; exact hp), ← e]
  · refine ⟨(-x.toInt).toNat, by omega, ?_, ?_⟩
    · have q : ¬ 0 < x := by rw [Int64.lt_iff_toInt_lt, hz]; omega
      rw [if_neg q, lN_oi]
      apply oi_of
      rw [hneg]; omega
    · rw [f_X4_size]
      have e : -x = lN (-x.toInt).toNat := by
        rw [lN_oi]
        apply oi_of
        rw [hneg]; omega
      by_cases q : 0 ≤ lg_cmp x (0 : Int64)
      · rw [lc_ge, Int64.le_iff_toInt_le, hz] at q
        have x0 : x = 0 := Int64.toInt_inj.mp (by rw [hz]; omega)
        rw [x0]; rfl
      · rw [if_neg q, e]
theorem div_1 (x : Int64) : x / lN 1 = x := by
  apply Int64.toInt_inj.mp
  rw [Int64.toInt_div, show (lN 1).toInt = 1 from rfl, Int.tdiv_one]
  exact Int64.toInt_bmod x
/-- the class's fraction is the reference's -/
theorem part_s {N : Nat} (hN : 101 < N) {a : Int64} (ha : a.toInt ≠ -9223372036854775808) {B : Nat} (hB0 : 0 < B) (hB : B < 2 ^ 63) (w : Int32) (hw : w = 0 ∨ w = 1) : ∃ v, f_X2_part N a (lN B) w = some v ∧ f_X4_lowest N a (lN B) w = some v := by
  obtain ⟨A, hA, h1, h2⟩ := abs_s ha
  have h3 : f_X4_size (lN B) = some (lN B) := by
    rw [f_X4_size, if_pos (by rw [lc_ge, show (0 : Int64) = lN 0 from rfl, pk_lLE (by decide) hB]; omega)]
  have hg : f_X4_divisor N a (lN B) = some (lN (Nat.gcd A B)) := by
    rw [f_X4_divisor, h2, bs_d, h3, bs_d]
    exact md_F N 100 A B N (by omega) hA hB (Nat.lt_trans hB fa_big)
  have hd0 : 0 < Nat.gcd A B := Nat.gcd_pos_of_pos_right A hB0
  have hd1 : Nat.gcd A B < 2 ^ 63 := Nat.lt_of_le_of_lt (Nat.gcd_le_right A hB0) hB
  have hne := lz_ne hd0 hd1
  have hle : lg_cmp (lN (Nat.gcd A B)) (1 : Int64) ≤ 0 ↔ Nat.gcd A B = 1 := by
    rw [lc_le, show (1 : Int64) = lN 1 from rfl, pk_lLE hd1 (by decide)]
    omega
  have hc := cd_s (N := N) (by omega) hA hB
  rw [f_X2_part, f_X4_lowest, hg, h1, bs_d]
  rcases hw with rfl | rfl
  · rw [if_pos rfl, if_pos rfl, hc, bs_d]
    by_cases q : Nat.gcd A B = 1
    · rw [if_pos (hle.mpr q), gd_t _ hne]
      exact ⟨a, rfl, by rw [q, div_1]⟩
    · rw [if_neg (fun z => q (hle.mp z)), gd_t _ hne]
      exact ⟨_, rfl, rfl⟩
  · rw [if_neg (by decide), if_neg (by decide), if_pos rfl, hc, bs_d]
    by_cases q : Nat.gcd A B = 1
    · rw [if_pos (hle.mpr q), gd_t _ hne]
      exact ⟨lN B, rfl, by rw [q, div_1]⟩
    · rw [if_neg (fun z => q (hle.mp z)), gd_t _ hne]
      exact ⟨_, rfl, rfl⟩
theorem low_o {N : Nat} (hN : 101 < N) {a : Int64} (ha : a.toInt ≠ -9223372036854775808) {B : Nat} (hB0 : 0 < B) (hB : B < 2 ^ 63) (w : Int32) (h0 : ¬ w = 0) (h1 : ¬ w = 1) : f_X4_lowest N a (lN B) w = some 0 := by
  obtain ⟨A, hA, h2, h3⟩ := abs_s ha
  have h4 : f_X4_size (lN B) = some (lN B) := by
    rw [f_X4_size, if_pos (by rw [lc_ge, show (0 : Int64) = lN 0 from rfl, pk_lLE (by decide) hB]; omega)]
  have hg : f_X4_divisor N a (lN B) = some (lN (Nat.gcd A B)) := by
    rw [f_X4_divisor, h3, bs_d, h4, bs_d]
    exact md_F N 100 A B N (by omega) hA hB (Nat.lt_trans hB fa_big)
  rw [f_X4_lowest, hg, bs_d, if_neg h0, if_neg h1]

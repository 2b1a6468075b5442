/-! the inverse of an odd number -/
theorem inv_step (o v : Int64) : 1 - o * (v * (2 - o * v)) = (1 - o * v) * (1 - o * v) := by grind
def near (o v : Int64) (e : Nat) : Prop := ∃ u : Int, 1 - o * v = Int64.ofInt (2 ^ e * u)
theorem near_step {o v : Int64} {e : Nat} (h : near o v e) : near o (v * (2 - o * v)) (2 * e) := by
  obtain ⟨u, hu⟩ := h
  refine ⟨u * u, ?_⟩
  rw [inv_step, hu, ← Int64.ofInt_mul]
  congr 1
  rw [Nat.two_mul, Int.pow_add]
  generalize (2 : Int) ^ e = P2
  grind
theorem near_one {o v : Int64} {e : Nat} (he : 64 ≤ e) (h : near o v e) : o * v = 1 := by
  obtain ⟨u, hu⟩ := h
  have h0 : Int64.ofInt (2 ^ e * u) = Int64.ofInt 0 := by
    apply oi_eq
    obtain ⟨d, rfl⟩ : ∃ d, e = 64 + d := ⟨e - 64, by omega⟩
    rw [Int.pow_add, Int.mul_assoc]
    have q : (2 : Int) ^ 64 = 18446744073709551616 := by decide
    rw [q, Int.mul_emod_right]
    rfl
  rw [h0] at hu
  have z : Int64.ofInt 0 = 0 := rfl
  rw [z] at hu
  have e : o * v = 1 - (1 - o * v) := by grind
  rw [e, hu]
  rfl
theorem two_div (k : Int) : ∃ w : Int, k * (k + 1) = 2 * w := by
  rcases Int.emod_two_eq k with h | h
  · exact ⟨(k / 2) * (k + 1), by
      have e : k = 2 * (k / 2) := by omega
      generalize k / 2 = a at e
      subst e; grind⟩
  · exact ⟨k * (k / 2 + 1), by
      have e : k = 2 * (k / 2) + 1 := by omega
      generalize k / 2 = a at e
      subst e; grind⟩
theorem near_odd (k : Int) : near (Int64.ofInt (2 * k + 1)) (Int64.ofInt (2 * k + 1)) 3 := by
  obtain ⟨w, hw⟩ := two_div k
  refine ⟨-w, ?_⟩
  rw [← Int64.ofInt_mul, show (1 : Int64) = Int64.ofInt 1 from rfl, ← Int64.ofInt_sub]
  congr 1
  have q : (2 : Int) ^ 3 = 8 := by decide
  rw [q]
  grind
theorem inv_L (N : Nat) (o : Int64) : ∀ (j n : Nat) (v : Int64) (k e : Nat), k + j = 5 → j < n → near o v e → ∃ w, f_X2_inverseOfOdd_L5 N n o v (nI k) = some w ∧ near o w (2 ^ j * e) := by
  intro j
  induction j with
  | zero =>
    intro n v k e hk hn h
    obtain ⟨n, rfl, hn⟩ := suc_of hn
    rw [f_X2_inverseOfOdd_L5, if_pos (by rw [show (5 : Int32) = nI 5 from rfl]; exact nI_le (by omega) (by omega))]
    exact ⟨v, rfl, by rw [Nat.pow_zero, Nat.one_mul]; exact h⟩
  | succ j ih =>
    intro n v k e hk hn h
    obtain ⟨n, rfl, hn⟩ := suc_of hn
    rw [f_X2_inverseOfOdd_L5, if_neg (by rw [show (5 : Int32) = nI 5 from rfl]; exact nI_ge (by omega) (by omega)), lt_d, lt_d, nI_1]
    obtain ⟨w, h1, h2⟩ := ih n _ (k + 1) (2 * e) (by omega) (by omega) (near_step h)
    exact ⟨w, h1, by rw [Nat.pow_succ, Nat.mul_assoc]; exact h2⟩
theorem inv_s {N : Nat} (hN : 5 < N) (k : Int) : ∃ w, f_X2_inverseOfOdd N (Int64.ofInt (2 * k + 1)) = some w ∧ Int64.ofInt (2 * k + 1) * w = 1 := by
  obtain ⟨w, h1, h2⟩ := inv_L N (Int64.ofInt (2 * k + 1)) 5 N (Int64.ofInt (2 * k + 1)) 0 3 rfl hN (near_odd k)
  exact ⟨w, h1, near_one (by decide) h2⟩
theorem minv_L (N : Nat) (o : Int64) (q : Int64) (μ : MS) : ∀ (j n : Nat) (v : Int64) (k e : Nat), k + j = 6 → j < n → near o v e → ∃ w, f_X4_shared_L62 N n o q v (nI k) μ = some (q * w) ∧ near o w (2 ^ j * e) := by
  intro j
  induction j with
  | zero =>
    intro n v k e hk hn h
    obtain ⟨n, rfl, hn⟩ := suc_of hn
    rw [f_X4_shared_L62, if_pos (by rw [show (6 : Int32) = nI 6 from rfl]; exact nI_le (by omega) (by omega))]
    exact ⟨v, rfl, by rw [Nat.pow_zero, Nat.one_mul]; exact h⟩
  | succ j ih =>
    intro n v k e hk hn h
    obtain ⟨n, rfl, hn⟩ := suc_of hn
    rw [f_X4_shared_L62, if_neg (by rw [show (6 : Int32) = nI 6 from rfl]; exact nI_ge (by omega) (by omega)), lt_d, lt_d, nI_1]
    obtain ⟨w, h1, h2⟩ := ih n _ (k + 1) (2 * e) (by omega) (by omega) (near_step h)
    exact ⟨w, h1, by rw [Nat.pow_succ, Nat.mul_assoc]; exact h2⟩
/-! trailing zeros -/
theorem ntz_mask {v t k : Nat} (hv : v = 2 ^ t * (2 * k + 1)) (hlt : v < 2 ^ 32) : ((nI v) ^^^ (-1 : Int32)) &&& (nI v - (1 : Int32)) = nI (2 ^ t - 1) := by
  have hp : 0 < 2 ^ t := Nat.pow_pos (by decide)
  have hv1 : 1 ≤ v := by rw [hv]; exact Nat.mul_pos hp (by omega)
  rw [show (1 : Int32) = nI 1 from rfl, pk_sub hv1]
  apply Int32.toBitVec_inj.mp
  show (BitVec.ofNat 32 v ^^^ (-1 : Int32).toBitVec) &&& BitVec.ofNat 32 (v - 1) = BitVec.ofNat 32 (2 ^ t - 1)
  rw [show (-1 : Int32).toBitVec = BitVec.allOnes 32 from by decide]
  apply BitVec.eq_of_getLsbD_eq
  intro j hj
  rw [BitVec.getLsbD_and, BitVec.getLsbD_xor, BitVec.getLsbD_ofNat, BitVec.getLsbD_ofNat, BitVec.getLsbD_ofNat, BitVec.getLsbD_allOnes]
  have hv2 : v - 1 = 2 ^ t * (2 * k) + (2 ^ t - 1) := by
    rw [hv, Nat.mul_add, Nat.mul_one]; omega
  rw [hv2, Nat.testBit_two_pow_mul_add _ (by omega), hv, Nat.testBit_two_pow_mul, Nat.testBit_two_pow_sub_one]
  by_cases h : j < t
  · simp [hj, h, Nat.not_le.mpr h]
  · rw [if_neg h]
    have h' : t ≤ j := by omega
    cases hi : j - t with
    | zero => simp [hj, h, h', Nat.testBit_zero]
    | succ i =>
      rw [Nat.testBit_succ, Nat.testBit_succ, show (2 * k + 1) / 2 = k by omega, show 2 * k / 2 = k by omega]
      simp [hj, h, h']
theorem ntz32 {v t k : Nat} (hv : v = 2 ^ t * (2 * k + 1)) (hlt : v < 2 ^ 32) : f_J6_numberOfTrailingZeros_0f7a4 (nI v) = some (nI t) := by
  have ht : t < 32 := by
    rcases Nat.lt_or_ge t 32 with h | h
    · exact h
    · have h1 : 2 ^ 32 ≤ 2 ^ t := Nat.pow_le_pow_right (by decide) h
      have h2 : 2 ^ t * 1 ≤ 2 ^ t * (2 * k + 1) := Nat.mul_le_mul_left _ (by omega)
      omega
  rw [f_J6_numberOfTrailingZeros_0f7a4, ntz_mask hv hlt]
  clear hv hlt
  revert t
  decide +kernel
theorem nI_mod (n : Nat) : nI n = nI (n % 2 ^ 32) := by
  apply Int32.toBitVec_inj.mp
  show BitVec.ofNat 32 n = BitVec.ofNat 32 (n % 2 ^ 32)
  apply BitVec.eq_of_toNat_eq
  rw [BitVec.toNat_ofNat, BitVec.toNat_ofNat, Nat.mod_mod]
theorem nI_z {n : Nat} (h : n < 2 ^ 32) : nI n = 0 ↔ n = 0 := by
  constructor
  · intro q
    have := congrArg (fun x : Int32 => x.toBitVec.toNat) q
    simp only [pk_tn h] at this
    exact this
  · intro q; rw [q]; rfl
theorem ntz64 {S e k : Nat} (hS : S = 2 ^ e * (2 * k + 1)) (hlt : S < 2 ^ 63) : f_J13_numberOfTrailingZeros_95d88 (lN S) = some (nI e) := by
  rw [f_J13_numberOfTrailingZeros_95d88, lt_d, lN_i]
  rcases Nat.lt_or_ge e 32 with he | he
  · have hp : 2 ^ 32 = 2 ^ e * 2 ^ (32 - e) := wb_pw (by omega)
    have h2 : 2 ^ (32 - e) = 2 * 2 ^ (31 - e) := by rw [show 32 - e = (31 - e) + 1 by omega, Nat.pow_succ, Nat.mul_comm]
    have hm : S % 2 ^ 32 = 2 ^ e * ((2 * k + 1) % 2 ^ (32 - e)) := by rw [hp, hS, Nat.mul_mod_mul_left]
    have ho : (2 * k + 1) % 2 ^ (32 - e) = 2 * (k % 2 ^ (31 - e)) + 1 := by
      rw [h2]
      have q := Nat.div_add_mod k (2 ^ (31 - e))
      have hb : k % 2 ^ (31 - e) < 2 ^ (31 - e) := Nat.mod_lt _ (Nat.pow_pos (by decide))
      generalize k % 2 ^ (31 - e) = r at *
      generalize k / 2 ^ (31 - e) = d at *
      generalize 2 ^ (31 - e) = P2 at *
      have z : 2 * k + 1 = 2 * P2 * d + (2 * r + 1) := by rw [← q, Nat.mul_add, Nat.mul_assoc]; omega
      rw [z, Nat.mul_add_mod, Nat.mod_eq_of_lt (by omega)]
    rw [ho] at hm
    have hb : S % 2 ^ 32 < 2 ^ 32 := Nat.mod_lt _ (by decide)
    have hne : ¬ nI S = 0 := by
      rw [nI_mod, nI_z hb, hm]
      have : 0 < 2 ^ e * (2 * (k % 2 ^ (31 - e)) + 1) := Nat.mul_pos (Nat.pow_pos (by decide)) (by omega)
      omega
    rw [if_neg hne, nI_mod, ntz32 hm hb]
    rfl
  · have hp : 2 ^ e = 2 ^ 32 * 2 ^ (e - 32) := wb_pw he
    have hS2 : S = 2 ^ 32 * (2 ^ (e - 32) * (2 * k + 1)) := by rw [hS, hp, Nat.mul_assoc]
    have hz : nI S = 0 := by rw [nI_mod, hS2, Nat.mul_mod_right]; rfl
    rw [if_pos hz, show (32 : Int32) = nI 32 from rfl, wb_shr (by omega) (by decide), lN_i]
    have hd : S / 2 ^ 32 = 2 ^ (e - 32) * (2 * k + 1) := by rw [hS2, Nat.mul_div_cancel_left _ (by decide)]
    have hlt2 : S / 2 ^ 32 < 2 ^ 32 := by omega
    rw [ntz32 hd hlt2, bs_d, nI_add]
    congr 2
    omega
/-! the shift -/
theorem shl_s (X : Int) {e : Nat} (he : e < 64) : f_X2_shiftedLow (Int64.ofInt (X / 18446744073709551616)) (Int64.ofInt X) (nI e) = some (Int64.ofInt (X / 2 ^ e)) := by
  rw [f_X2_shiftedLow]
  by_cases h0 : e = 0
  · subst h0
    rw [if_pos nI_0]
    congr 2
    rw [Int.pow_zero, Int.ediv_one]
  · rw [if_neg (nI_ne0 (by omega) (by omega))]
    congr 1
    have hn : ∃ n : Nat, n < 2 ^ 64 ∧ (n : Int) = X % 18446744073709551616 ∧ Int64.ofInt X = lN n := by
      refine ⟨(X % 18446744073709551616).toNat, by omega, by omega, ?_⟩
      rw [lN_oi]
      apply oi_eq
      omega
    obtain ⟨n, hn1, hn2, hn3⟩ := hn
    have hh : ∃ n : Nat, n < 2 ^ 64 ∧ Int64.ofInt (X / 18446744073709551616) = lN n := by
      refine ⟨(X / 18446744073709551616 % 18446744073709551616).toNat, by omega, ?_⟩
      rw [lN_oi]
      apply oi_eq
      omega
    obtain ⟨q, hq1, hq2⟩ := hh
    have hk : (64 : Int32) - nI e = nI (64 - e) := pk_sub (a := 64) (by omega)
    rw [hn3, hq2, hk, wb_shr hn1 he, wb_shl q (by omega), wb_mod (q * 2 ^ (64 - e))]
    have hp : 2 ^ 64 = 2 ^ e * 2 ^ (64 - e) := wb_pw (by omega)
    have hm : q * 2 ^ (64 - e) % 2 ^ 64 = 2 ^ (64 - e) * (q % 2 ^ e) := by rw [hp, Nat.mul_mod_mul_right, Nat.mul_comm]
    have hlt1 : n / 2 ^ e < 2 ^ (64 - e) := by
      rw [Nat.div_lt_iff_lt_mul (Nat.pow_pos (by decide)), Nat.mul_comm, ← hp]; exact hn1
    have hlt2 : n / 2 ^ e < 2 ^ 64 := Nat.lt_of_le_of_lt (Nat.div_le_self _ _) hn1
    have hlt3 : q * 2 ^ (64 - e) % 2 ^ 64 < 2 ^ 64 := Nat.mod_lt _ (by decide)
    rw [wb_or hlt2 hlt3, hm, Nat.or_comm, ← Nat.two_pow_add_eq_or_of_lt hlt1, ← hm, ← lN_add, ← wb_mod, ← lN_mul, ← hq2, lN_oi, lN_oi, ← Int64.ofInt_mul, ← Int64.ofInt_add]
    congr 1
    have hpI : (18446744073709551616 : Int) = ((2 ^ (64 - e) : Nat) : Int) * 2 ^ e := by
      rw [show (18446744073709551616 : Int) = ((2 ^ 64 : Nat) : Int) by decide, hp, Nat.mul_comm]
      push_cast
      rfl
    have hne : (2 : Int) ^ e ≠ 0 := by
      have : 0 < (2 : Int) ^ e := Int.pow_pos (by decide)
      omega
    have hX : X = X / 18446744073709551616 * 18446744073709551616 + X % 18446744073709551616 := by omega
    have hdn : ((n / 2 ^ e : Nat) : Int) = (n : Int) / 2 ^ e := by push_cast; rfl
    rw [hdn, hn2]
    have goal2 : X / 2 ^ e = (X % 18446744073709551616 + X / 18446744073709551616 * ((2 ^ (64 - e) : Nat) : Int) * 2 ^ e) / 2 ^ e := by
      congr 1
      rw [Int.mul_assoc, ← hpI]
      omega
    rw [goal2, Int.add_mul_ediv_right _ _ hne]
    omega

/-! ===== lN n to 2^64: shifts, and, or, masks, one bit ===== -/
theorem wb_tb (n : Nat) : (lN n).toBitVec = BitVec.ofNat 64 n := rfl
theorem wb_inj {a b : Int64} (h : a.toBitVec = b.toBitVec) : a = b := Int64.toBitVec_inj.mp h
theorem wb_tn {n : Nat} (h : n < 2 ^ 64) : (lN n).toBitVec.toNat = n := by rw [wb_tb, BitVec.toNat_ofNat, Nat.mod_eq_of_lt h]
theorem wb_of (x : Int64) : ∃ n, n < 2 ^ 64 ∧ x = lN n := ⟨x.toBitVec.toNat, x.toBitVec.isLt, wb_inj (by rw [wb_tb]; simp)⟩
theorem wb_of32 (x : Int32) : ∃ n, n < 2 ^ 32 ∧ x = nI n := ⟨x.toBitVec.toNat, x.toBitVec.isLt, Int32.toBitVec_inj.mp (by show _ = BitVec.ofNat 32 _; simp)⟩
theorem wb_c : ∀ k, k < 64 → ((nI k).toInt64 &&& 63) = lN k := by decide +kernel
theorem wb_cu : ∀ k, k < 64 → ((nI k).toInt64.toUInt64 &&& Int64.toUInt64 63) = UInt64.ofNat k := by decide +kernel
theorem wb_sm : ∀ k, k < 64 → (BitVec.ofNat 64 k).smod 64 = BitVec.ofNat 64 k := by decide +kernel
theorem wb_pw {a b : Nat} (h : a ≤ b) : 2 ^ b = 2 ^ a * 2 ^ (b - a) := by rw [← Nat.pow_add]; congr 1; omega
theorem wb_lt2 {a b : Nat} (h : a < b) : 2 ^ a < 2 ^ b := Nat.pow_lt_pow_right (by decide) h
theorem wb_mod (n : Nat) : lN n = lN (n % 2 ^ 64) := wb_inj (by rw [wb_tb, wb_tb]; apply BitVec.eq_of_toNat_eq; rw [BitVec.toNat_ofNat, BitVec.toNat_ofNat, Nat.mod_mod])
theorem wb_shr {n k : Nat} (hn : n < 2 ^ 64) (hk : k < 64) : ((lN n).toUInt64 >>> ((nI k).toInt64.toUInt64 &&& Int64.toUInt64 63)).toInt64 = lN (n / 2 ^ k) := by
  rw [wb_cu k hk]
  apply wb_inj
  apply BitVec.eq_of_toNat_eq
  show ((lN n).toUInt64 >>> UInt64.ofNat k).toNat = (BitVec.ofNat 64 _).toNat
  have h1 : (UInt64.ofNat k).toNat = k := by
    show (BitVec.ofNat 64 k).toNat = k
    rw [BitVec.toNat_ofNat, Nat.mod_eq_of_lt (by omega)]
  have h2 : (lN n).toUInt64.toNat = n := wb_tn hn
  rw [UInt64.toNat_shiftRight, h1, h2, Nat.mod_eq_of_lt hk, Nat.shiftRight_eq_div_pow, BitVec.toNat_ofNat, Nat.mod_eq_of_lt (Nat.lt_of_le_of_lt (Nat.div_le_self _ _) hn)]
theorem wb_shl (n : Nat) {k : Nat} (hk : k < 64) : lN n <<< ((nI k).toInt64 &&& 63) = lN (n * 2 ^ k) := by
  rw [wb_c k hk]
  apply wb_inj
  rw [Int64.toBitVec_shiftLeft, wb_tb, wb_tb, wb_tb, wb_sm k hk]
  apply BitVec.eq_of_toNat_eq
  rw [BitVec.shiftLeft_eq', BitVec.toNat_shiftLeft, BitVec.toNat_ofNat, BitVec.toNat_ofNat, BitVec.toNat_ofNat, Nat.mod_eq_of_lt (show k < 2 ^ 64 by omega), Nat.shiftLeft_eq, Nat.mul_mod, Nat.mod_mod, ← Nat.mul_mod]
theorem wb_and {a b : Nat} (ha : a < 2 ^ 64) (hb : b < 2 ^ 64) : lN a &&& lN b = lN (a &&& b) := by
  apply wb_inj
  rw [Int64.toBitVec_and, wb_tb, wb_tb, wb_tb]
  apply BitVec.eq_of_toNat_eq
  rw [BitVec.toNat_and, BitVec.toNat_ofNat, BitVec.toNat_ofNat, BitVec.toNat_ofNat, Nat.mod_eq_of_lt ha, Nat.mod_eq_of_lt hb, Nat.mod_eq_of_lt (Nat.and_lt_two_pow _ hb)]
theorem wb_or {a b : Nat} (ha : a < 2 ^ 64) (hb : b < 2 ^ 64) : lN a ||| lN b = lN (a ||| b) := by
  apply wb_inj
  rw [Int64.toBitVec_or, wb_tb, wb_tb, wb_tb]
  apply BitVec.eq_of_toNat_eq
  rw [BitVec.toNat_or, BitVec.toNat_ofNat, BitVec.toNat_ofNat, BitVec.toNat_ofNat, Nat.mod_eq_of_lt ha, Nat.mod_eq_of_lt hb, Nat.mod_eq_of_lt (Nat.or_lt_two_pow ha hb)]
theorem wb_mask {n k : Nat} (hn : n < 2 ^ 64) (hk : k < 64) : lN n &&& lN (2 ^ k - 1) = lN (n % 2 ^ k) := by
  rw [wb_and hn (by have := wb_lt2 hk; omega), Nat.and_two_pow_sub_one_eq_mod]
theorem wb_a1 {n : Nat} (hn : n < 2 ^ 64) : lN n &&& 1 = lN (n % 2) := wb_mask (k := 1) hn (by decide)
theorem wb_bit {n k : Nat} (hn : n < 2 ^ 64) (hk : k < 64) : ((lN n).toUInt64 >>> ((nI k).toInt64.toUInt64 &&& Int64.toUInt64 63)).toInt64 &&& 1 = lN (n / 2 ^ k % 2) := by
  rw [wb_shr hn hk, wb_a1 (Nat.lt_of_le_of_lt (Nat.div_le_self _ _) hn)]
theorem wb_xor {q k : Nat} (hk : k < 63) (h : 2 ^ k ≤ q) (h2 : q < 2 ^ (k + 1)) : lN q ^^^ lN (2 ^ k) = lN (q - 2 ^ k) := by
  obtain ⟨r, rfl⟩ : ∃ r, q = 2 ^ k + r := ⟨q - 2 ^ k, by omega⟩
  have hr : r < 2 ^ k := by rw [Nat.pow_succ] at h2; omega
  have hx : (2 ^ k + r) ^^^ 2 ^ k = r := by
    apply Nat.eq_of_testBit_eq
    intro i
    rw [Nat.testBit_xor, Nat.testBit_two_pow]
    rcases Nat.lt_trichotomy i k with h | h | h
    · rw [Nat.testBit_two_pow_add_gt h]
      simp [show ¬ k = i by omega]
    · subst h
      rw [Nat.testBit_two_pow_add_eq]
      simp
    · have a1 : 2 ^ (k + 1) ≤ 2 ^ i := Nat.pow_le_pow_right (by decide) h
      rw [Nat.testBit_lt_two_pow (show 2 ^ k + r < 2 ^ i by omega), Nat.testBit_lt_two_pow (show r < 2 ^ i by omega)]
      simp [show ¬ k = i by omega]
  have b1 := wb_lt2 (show k + 1 < 64 by omega)
  have b2 := wb_lt2 (show k < 64 by omega)
  apply wb_inj
  rw [Int64.toBitVec_xor, wb_tb, wb_tb, wb_tb]
  apply BitVec.eq_of_toNat_eq
  rw [BitVec.toNat_xor, BitVec.toNat_ofNat, BitVec.toNat_ofNat, BitVec.toNat_ofNat, Nat.mod_eq_of_lt (by omega : 2 ^ k + r < 2 ^ 64), Nat.mod_eq_of_lt b2, hx, Nat.add_sub_cancel_left, Nat.mod_eq_of_lt (by omega)]
/-! ===== Int64 as an unsigned number: uN x ===== -/
def uN (x : Int64) : Nat := x.toUInt64.toNat
theorem uN_lt (x : Int64) : uN x < 18446744073709551616 := x.toUInt64.toNat_lt
theorem uN_inj {x y : Int64} (h : uN x = uN y) : x = y := congrArg UInt64.toInt64 (UInt64.toNat_inj.mp h)
theorem uN_add (x y : Int64) : uN (x + y) = (uN x + uN y) % 18446744073709551616 := by
  show (x.toUInt64 + y.toUInt64).toNat = _
  exact UInt64.toNat_add _ _
theorem uN_mul (x y : Int64) : uN (x * y) = (uN x * uN y) % 18446744073709551616 := by
  show (x.toUInt64 * y.toUInt64).toNat = _
  exact UInt64.toNat_mul _ _
theorem uN_shl (x : Int64) : uN (x <<< ((1 : Int32).toInt64 &&& 63)) = (2 * uN x) % 18446744073709551616 := by
  have h : (((1 : Int32).toInt64 &&& 63).toBitVec.smod 64).toNat = 1 := by decide
  show (x.toBitVec <<< (((1 : Int32).toInt64 &&& 63).toBitVec.smod 64).toNat).toNat = _
  rw [h, BitVec.toNat_shiftLeft, Nat.shiftLeft_eq, Nat.mul_comm]
  rfl
theorem uN_shr (x : Int64) (s : UInt64) : uN (x.toUInt64 >>> s).toInt64 = uN x / 2 ^ (s.toNat % 64) := by
  show (x.toUInt64 >>> s).toNat = _
  rw [UInt64.toNat_shiftRight, Nat.shiftRight_eq_div_pow]
  rfl
theorem uN_s32 (x : Int64) : uN (x.toUInt64 >>> ((32 : Int32).toInt64.toUInt64 &&& Int64.toUInt64 63)).toInt64 = uN x / 4294967296 := by
  have h : ((32 : Int32).toInt64.toUInt64 &&& Int64.toUInt64 63).toNat % 64 = 32 := by decide
  rw [uN_shr, h]
theorem uN_s63 (x : Int64) : uN (x.toUInt64 >>> ((63 : Int32).toInt64.toUInt64 &&& Int64.toUInt64 63)).toInt64 = uN x / 9223372036854775808 := by
  have h : ((63 : Int32).toInt64.toUInt64 &&& Int64.toUInt64 63).toNat % 64 = 63 := by decide
  rw [uN_shr, h]
theorem uN_lo (x : Int64) : uN (x &&& 4294967295) = uN x % 4294967296 := by
  show (x.toUInt64 &&& Int64.toUInt64 4294967295).toNat = _
  rw [UInt64.toNat_and]
  exact Nat.and_two_pow_sub_one_eq_mod _ 32
theorem uN_bit (x : Int64) : (x &&& 1) = 0 ↔ uN x % 2 = 0 := by
  have h : uN (x &&& 1) = uN x % 2 := by
    show (x.toUInt64 &&& Int64.toUInt64 1).toNat = _
    rw [UInt64.toNat_and]
    exact Nat.and_two_pow_sub_one_eq_mod _ 1
  rw [← h]
  exact ⟨fun z => by rw [z]; rfl, fun z => uN_inj (z.trans rfl)⟩
theorem uN_or {x y : Int64} (hy : uN y < 2) : uN ((x <<< ((1 : Int32).toInt64 &&& 63)) ||| y) = (2 * uN x) % 18446744073709551616 + uN y := by
  have h1 : uN ((x <<< ((1 : Int32).toInt64 &&& 63)) ||| y) = uN (x <<< ((1 : Int32).toInt64 &&& 63)) ||| uN y := UInt64.toNat_or _ _
  have h2 : (2 * uN x) % 18446744073709551616 = 2 ^ 1 * (uN x % 9223372036854775808) := by omega
  rw [h1, uN_shl, h2]
  exact (Nat.two_pow_add_eq_or_of_lt (i := 1) hy _).symm
theorem nat_xor {a : Nat} (h : a < 18446744073709551616) : a ^^^ 2 ^ 63 = (a + 9223372036854775808) % 18446744073709551616 := by
  have h1 : (a ^^^ 2 ^ 63) % 2 ^ 63 = a % 2 ^ 63 := by rw [Nat.xor_mod_two_pow, Nat.mod_self, Nat.xor_zero]
  have h2 : (a ^^^ 2 ^ 63) / 2 ^ 63 = (a / 2 ^ 63) ^^^ 1 := by rw [Nat.xor_div_two_pow, Nat.div_self (Nat.two_pow_pos 63)]
  have h3 : a / 2 ^ 63 = 0 ∨ a / 2 ^ 63 = 1 := by omega
  generalize a ^^^ 2 ^ 63 = t at h1 h2
  rcases h3 with h3 | h3
  · rw [h3] at h2
    have h2 : t / 2 ^ 63 = 1 := h2
    omega
  · rw [h3] at h2
    have h2 : t / 2 ^ 63 = 0 := h2
    omega
theorem uN_xor (x : Int64) : uN (x ^^^ (-9223372036854775808)) = (uN x + 9223372036854775808) % 18446744073709551616 := by
  rw [← nat_xor (uN_lt x)]
  exact UInt64.toNat_xor _ _
theorem uN_int (x : Int64) : x.toInt = if 2 * uN x < 18446744073709551616 then (uN x : Int) else (uN x : Int) - 18446744073709551616 := BitVec.toInt_eq_toNat_cond _
theorem uN_le (x y : Int64) : (x ^^^ (-9223372036854775808)) ≤ (y ^^^ (-9223372036854775808)) ↔ uN x ≤ uN y := by
  have hx := uN_lt x
  have hy := uN_lt y
  rw [Int64.le_iff_toInt_le, uN_int, uN_int, uN_xor, uN_xor]
  omega
theorem uN_sk (x : Int64) {k : Nat} (hk : k < 64) : uN (x.toUInt64 >>> ((nI k).toInt64.toUInt64 &&& Int64.toUInt64 63)).toInt64 = uN x / 2 ^ k := by
  have h : ((nI k).toInt64.toUInt64 &&& Int64.toUInt64 63).toNat % 64 = k := by
    rw [nI_l (by omega), UInt64.toNat_and]
    have e : (lN k).toUInt64.toNat = k % 2 ^ 64 := rfl
    have e2 : (Int64.toUInt64 63).toNat = 2 ^ 6 - 1 := by decide
    rw [e, e2, Nat.and_two_pow_sub_one_eq_mod]
    omega
  rw [uN_shr, h]
/-! ===== signed ints as whole numbers, within bounds ===== -/
theorem fb_rng (x : Int32) : -2147483648 ≤ x.toInt ∧ x.toInt < 2147483648 := by
  have h1 := Int32.le_toInt x
  have h2 := Int32.toInt_lt x
  omega
theorem fb_bmod {z : Int} (h1 : -2147483648 ≤ z) (h2 : z < 2147483648) : z.bmod (2 ^ 32) = z := by
  rw [Int.bmod_eq_of_le (by omega) (by omega)]
theorem fb_addI {x y : Int32} (h1 : -2147483648 ≤ x.toInt + y.toInt) (h2 : x.toInt + y.toInt < 2147483648) : (x + y).toInt = x.toInt + y.toInt := by
  rw [Int32.toInt_add, fb_bmod h1 h2]
theorem fb_subI {x y : Int32} (h1 : -2147483648 ≤ x.toInt - y.toInt) (h2 : x.toInt - y.toInt < 2147483648) : (x - y).toInt = x.toInt - y.toInt := by
  rw [Int32.toInt_sub, fb_bmod h1 h2]
theorem fb_mulI {x y : Int32} (h1 : -2147483648 ≤ x.toInt * y.toInt) (h2 : x.toInt * y.toInt < 2147483648) : (x * y).toInt = x.toInt * y.toInt := by
  rw [Int32.toInt_mul, fb_bmod h1 h2]
theorem fb_negI {x : Int32} (h : x.toInt ≠ -2147483648) : (-x).toInt = -x.toInt := by
  have := fb_rng x
  rw [Int32.toInt_neg, fb_bmod (by omega) (by omega)]
theorem fb_ofI {z : Int} (h1 : -2147483648 ≤ z) (h2 : z < 2147483648) : (Int32.ofInt z).toInt = z := by
  rw [Int32.toInt_ofInt, fb_bmod h1 h2]
theorem fb_asI (x : Int32) : Int32.ofInt x.toInt = x := Int32.ofInt_toInt x
theorem fb_rngL (x : Int64) : -9223372036854775808 ≤ x.toInt ∧ x.toInt < 9223372036854775808 := by
  have h1 := Int64.le_toInt x
  have h2 := Int64.toInt_lt x
  omega
theorem fb_bmodL {z : Int} (h1 : -9223372036854775808 ≤ z) (h2 : z < 9223372036854775808) : z.bmod (2 ^ 64) = z := by
  rw [Int.bmod_eq_of_le (by omega) (by omega)]
theorem fb_addL {x y : Int64} (h1 : -9223372036854775808 ≤ x.toInt + y.toInt) (h2 : x.toInt + y.toInt < 9223372036854775808) : (x + y).toInt = x.toInt + y.toInt := by
  rw [Int64.toInt_add, fb_bmodL h1 h2]
theorem fb_subL {x y : Int64} (h1 : -9223372036854775808 ≤ x.toInt - y.toInt) (h2 : x.toInt - y.toInt < 9223372036854775808) : (x - y).toInt = x.toInt - y.toInt := by
  rw [Int64.toInt_sub, fb_bmodL h1 h2]
theorem fb_mulL {x y : Int64} (h1 : -9223372036854775808 ≤ x.toInt * y.toInt) (h2 : x.toInt * y.toInt < 9223372036854775808) : (x * y).toInt = x.toInt * y.toInt := by
  rw [Int64.toInt_mul, fb_bmodL h1 h2]
/-! longs as whole numbers -/
theorem uN_mod (x : Int64) : (uN x : Int) = x.toInt % 18446744073709551616 := by
  have h := uN_int x
  have h2 := uN_lt x
  split at h <;> omega
theorem oi_t (x : Int64) : Int64.ofInt x.toInt = x := Int64.ofInt_toInt x
theorem oi_of {x : Int64} {z : Int} (h : x.toInt = z) : x = Int64.ofInt z := by rw [← h, oi_t]
theorem oi_in {z : Int} (h1 : -9223372036854775808 ≤ z) (h2 : z < 9223372036854775808) : (Int64.ofInt z).toInt = z := Int64.toInt_ofInt_of_le (by omega) (by omega)
theorem oi_mod (z : Int) : (Int64.ofInt z).toInt % 18446744073709551616 = z % 18446744073709551616 := by
  rw [Int64.toInt_ofInt]
  exact Int.bmod_emod
theorem oi_eq {x y : Int} (h : x % 18446744073709551616 = y % 18446744073709551616) : Int64.ofInt x = Int64.ofInt y := by
  apply uN_inj
  have h1 := uN_mod (Int64.ofInt x)
  have h2 := uN_mod (Int64.ofInt y)
  rw [oi_mod] at h1 h2
  omega
theorem uN_oi (z : Int) : (uN (Int64.ofInt z) : Int) = z % 18446744073709551616 := by rw [uN_mod, oi_mod]
theorem lN_oi (n : Nat) : lN n = Int64.ofInt n := by
  apply Int64.toBitVec_inj.mp
  show BitVec.ofNat 64 n = BitVec.ofInt 64 n
  simp
theorem lo32 (x : Int64) : (x &&& (4294967295 : Int64)).toInt = x.toInt % 4294967296 := by
  have h1 := uN_lo x
  have h2 := uN_int (x &&& (4294967295 : Int64))
  have h3 := uN_mod x
  have h4 := uN_lt x
  rw [h1] at h2
  split at h2 <;> omega
theorem sh_r (x : Int64) {k : Nat} (hk : k < 64) : (x >>> ((nI k).toInt64 &&& 63)).toInt = x.toInt / 2 ^ k := by
  rw [wb_c k hk]
  show (x.toBitVec.sshiftRight ((lN k).toBitVec.smod 64).toNat).toInt = _
  rw [wb_tb, wb_sm k hk, BitVec.toNat_ofNat, Nat.mod_eq_of_lt (by omega), BitVec.toInt_sshiftRight, Int.shiftRight_eq_div_pow]
  rfl
theorem sh_r32 (x : Int64) : (x >>> ((32 : Int32).toInt64 &&& 63)).toInt = x.toInt / 4294967296 := sh_r x (k := 32) (by decide)
theorem sh_u32 (x : Int64) : ((x.toUInt64 >>> ((32 : Int32).toInt64.toUInt64 &&& Int64.toUInt64 63)).toInt64).toInt = x.toInt % 18446744073709551616 / 4294967296 := by
  have h1 := uN_s32 x
  have h2 := uN_int ((x.toUInt64 >>> ((32 : Int32).toInt64.toUInt64 &&& Int64.toUInt64 63)).toInt64)
  have h3 := uN_mod x
  have h4 := uN_lt x
  rw [h1] at h2
  split at h2 <;> omega
theorem mul_rng {x y lo hi Y : Int} (h1 : lo ≤ x) (h2 : x ≤ hi) (h3 : 0 ≤ y) (h4 : y ≤ Y) (hlo : lo ≤ 0) (hhi : 0 ≤ hi) : lo * Y ≤ x * y ∧ x * y ≤ hi * Y := by
  constructor
  · exact Int.le_trans (Int.mul_le_mul_of_nonpos_left hlo h4) (Int.mul_le_mul_of_nonneg_right h1 h3)
  · exact Int.le_trans (Int.mul_le_mul_of_nonneg_right h2 h3) (Int.mul_le_mul_of_nonneg_left h4 hhi)
/-- the high half of a product -/
def hiM (a b : Int64) : Int64 := Int64.ofInt (a.toInt * b.toInt / 18446744073709551616)
theorem hi_core (a b x1 x3 x5 x7 x9 x11 : Int64) (h1 : x1 = a &&& (4294967295 : Int64)) (h3 : x3 = a >>> ((32 : Int32).toInt64 &&& 63)) (h5 : x5 = b &&& (4294967295 : Int64)) (h7 : x7 = b >>> ((32 : Int32).toInt64 &&& 63))
    (h9 : x9 = (x3 * x5) + (((x1 * x5).toUInt64 >>> ((32 : Int32).toInt64.toUInt64 &&& Int64.toUInt64 63)).toInt64)) (h11 : x11 = (x1 * x7) + (x9 &&& (4294967295 : Int64))) :
    ((x3 * x7) + (x9 >>> ((32 : Int32).toInt64 &&& 63))) + (x11 >>> ((32 : Int32).toInt64 &&& 63)) = hiM a b := by
  have e1 : x1.toInt = a.toInt % 4294967296 := by rw [h1, lo32]
  have e3 : x3.toInt = a.toInt / 4294967296 := by rw [h3, sh_r32]
  have e5 : x5.toInt = b.toInt % 4294967296 := by rw [h5, lo32]
  have e7 : x7.toInt = b.toInt / 4294967296 := by rw [h7, sh_r32]
  have ra := fb_rngL a
  have rb := fb_rngL b
  have r3 : -2147483648 ≤ x3.toInt ∧ x3.toInt ≤ 2147483647 := by omega
  have r7 : -2147483648 ≤ x7.toInt ∧ x7.toInt ≤ 2147483647 := by omega
  have r1 : 0 ≤ x1.toInt ∧ x1.toInt ≤ 4294967295 := by omega
  have r5 : 0 ≤ x5.toInt ∧ x5.toInt ≤ 4294967295 := by omega
  have m35 := mul_rng r3.1 r3.2 r5.1 r5.2 (by decide) (by decide)
  have m71 := mul_rng r7.1 r7.2 r1.1 r1.2 (by decide) (by decide)
  have m15 := mul_rng r1.1 r1.2 r5.1 r5.2 (by decide) (by decide)
  have c71 : x1.toInt * x7.toInt = x7.toInt * x1.toInt := Int.mul_comm _ _
  have p15 : (x1 * x5).toInt % 18446744073709551616 = x1.toInt * x5.toInt := by
    rw [Int64.toInt_mul]
    have q : (x1.toInt * x5.toInt).bmod (2 ^ 64) % 18446744073709551616 = (x1.toInt * x5.toInt) % 18446744073709551616 := Int.bmod_emod
    rw [q]
    omega
  have p35 : (x3 * x5).toInt = x3.toInt * x5.toInt := fb_mulL (by omega) (by omega)
  have p17 : (x1 * x7).toInt = x7.toInt * x1.toInt := by rw [fb_mulL (by omega) (by omega), c71]
  have t := sh_u32 (x1 * x5)
  rw [p15] at t
  have e9 : x9.toInt = x3.toInt * x5.toInt + x1.toInt * x5.toInt / 4294967296 := by
    rw [h9, fb_addL (by rw [p35, t]; omega) (by rw [p35, t]; omega), p35, t]
  have l9 := lo32 x9
  have e11 : x11.toInt = x7.toInt * x1.toInt + x9.toInt % 4294967296 := by
    rw [h11, fb_addL (by rw [p17, l9]; omega) (by rw [p17, l9]; omega), p17, l9]
  rw [oi_of (sh_r32 x9), oi_of (sh_r32 x11)]
  have e37 : x3 * x7 = Int64.ofInt (x3.toInt * x7.toInt) := by rw [Int64.ofInt_mul, oi_t, oi_t]
  rw [e37, ← Int64.ofInt_add, ← Int64.ofInt_add, hiM]
  congr 1
  have ha : a.toInt = x3.toInt * 4294967296 + x1.toInt := by omega
  have hb : b.toInt = x7.toInt * 4294967296 + x5.toInt := by omega
  have hab : a.toInt * b.toInt = x3.toInt * x7.toInt * 18446744073709551616 + (x3.toInt * x5.toInt + x7.toInt * x1.toInt) * 4294967296 + x1.toInt * x5.toInt := by
    rw [ha, hb]; grind
  rw [hab, e11, e9]
  generalize x3.toInt * x7.toInt = HH at *
  generalize x3.toInt * x5.toInt = U at *
  generalize x7.toInt * x1.toInt = V at *
  generalize x1.toInt * x5.toInt = WW at *
  omega
theorem hop (a b : Int64) : f_X2_highOfProduct a b = some (hiM a b) := by
  unfold f_X2_highOfProduct
  simp only [lt_]
  rw [hi_core a b _ _ _ _ _ _ rfl rfl rfl rfl rfl rfl]
theorem mprod (a b : Int64) (ypt : Int32) (ydg : Int32) (ybA : Int32) (ybB : Int32) (ypx : Nat → Int32) (ypy : Nat → Int32) (ylb : Nat → Int32) (ybg : Int32) (ydn : Int32) (yry : Int32) (yrw : Int32) (ytb : Nat → Int64) (ybl : Int64) (ytl : Nat → Int32) (yst : Int32) (yen : Nat → Int32) (ylf : Nat → Int32) (yla : Nat → Int32) (yhi : Int64) (ylo : Int64) : f_X4_product a b (ypt, ydg, ybA, ybB, ypx, ypy, ylb, ybg, ydn, yry, yrw, ytb, ybl, ytl, yst, yen, ylf, yla, yhi, ylo) = some (ypt, ydg, ybA, ybB, ypx, ypy, ylb, ybg, ydn, yry, yrw, ytb, ybl, ytl, yst, yen, ylf, yla, hiM a b, a * b) := by
  simp only [f_X4_product, lt_, n_hi, n_lo]
  rw [hi_core a b _ _ _ _ _ _ rfl rfl rfl rfl rfl rfl]
/-! comparisons -/
theorem lc_eq (x y : Int64) : lg_cmp x y = 0 ↔ x = y := by
  unfold lg_cmp
  by_cases h : x > y
  · rw [if_pos h]
    constructor
    · intro q; exact absurd q (by decide)
    · intro q; subst q; rw [gt_iff_lt, Int64.lt_iff_toInt_lt] at h; omega
  · rw [if_neg h]
    by_cases e : x = y
    · rw [if_pos e]; exact ⟨fun _ => e, fun _ => rfl⟩
    · rw [if_neg e]
      exact ⟨fun q => absurd q (by decide), fun q => absurd q e⟩
theorem lc_ge (x y : Int64) : 0 ≤ lg_cmp x y ↔ y ≤ x := lg_cmp_ge x y
theorem lc_gt (x y : Int64) : 0 < lg_cmp x y ↔ y < x := by
  unfold lg_cmp
  by_cases h : x > y
  · rw [if_pos h]; exact ⟨fun _ => h, fun _ => by decide⟩
  · rw [if_neg h]
    by_cases e : x = y
    · rw [if_pos e]; exact ⟨fun q => absurd q (by decide), fun q => absurd q h⟩
    · rw [if_neg e]; exact ⟨fun q => absurd q (by decide), fun q => absurd q h⟩
theorem lc_le (x y : Int64) : lg_cmp x y ≤ 0 ↔ x ≤ y := by
  have h := lc_gt x y
  rw [Int32.le_iff_toInt_le, Int64.le_iff_toInt_le]
  rw [Int32.lt_iff_toInt_lt, Int64.lt_iff_toInt_lt] at h
  have e : (0 : Int32).toInt = 0 := rfl
  omega
theorem lc_lt (x y : Int64) : lg_cmp x y < 0 ↔ x < y := by
  have h := lc_ge x y
  rw [Int32.lt_iff_toInt_lt, Int64.lt_iff_toInt_lt]
  rw [Int32.le_iff_toInt_le, Int64.le_iff_toInt_le] at h
  have e : (0 : Int32).toInt = 0 := rfl
  omega
theorem mn_toInt (x : Int64) : (x + (-9223372036854775808 : Int64)).toInt = (uN x : Int) - 9223372036854775808 := by
  have h1 := uN_add x (-9223372036854775808 : Int64)
  have h2 := uN_int (x + (-9223372036854775808 : Int64))
  have h3 := uN_lt x
  have h4 : uN (-9223372036854775808 : Int64) = 9223372036854775808 := by decide
  rw [h4] at h1
  rw [h1] at h2
  split at h2 <;> omega
theorem cmpU (x y : Int64) : ∃ r : Int32, f_J13_compareUnsigned_74951 x y = some r ∧ (0 ≤ r ↔ uN y ≤ uN x) := by
  unfold f_J13_compareUnsigned_74951 f_J13_compare_74951
  have h1 := mn_toInt x
  have h2 := mn_toInt y
  have key : 0 ≤ lg_cmp (x + (-9223372036854775808 : Int64)) (y + (-9223372036854775808 : Int64)) ↔ uN y ≤ uN x := by
    rw [lc_ge, Int64.le_iff_toInt_le, h1, h2]; omega
  by_cases h : 0 ≤ lg_cmp (x + (-9223372036854775808 : Int64)) (y + (-9223372036854775808 : Int64))
  · rw [if_pos h]
    by_cases e : lg_cmp (x + (-9223372036854775808 : Int64)) (y + (-9223372036854775808 : Int64)) = 0
    · rw [if_pos e]; exact ⟨0, rfl, ⟨fun _ => key.mp h, fun _ => by decide⟩⟩
    · rw [if_neg e]; exact ⟨1, rfl, ⟨fun _ => key.mp h, fun _ => by decide⟩⟩
  · rw [if_neg h]; exact ⟨-1, rfl, ⟨fun q => absurd q (by decide), fun q => absurd (key.mpr q) h⟩⟩
theorem uN_mulI (a b : Int64) : (uN (a * b) : Int) = a.toInt * b.toInt % 18446744073709551616 := by
  rw [uN_mod, Int64.toInt_mul]
  exact Int.bmod_emod
/-- the high half of a b - c d -/
def hiX (a b c d : Int64) : Int64 := Int64.ofInt ((a.toInt * b.toInt - c.toInt * d.toInt) / 18446744073709551616)
theorem hiX_of (a b c d : Int64) : hiX a b c d = (if uN (c * d) ≤ uN (a * b) then hiM a b - hiM c d - 0 else hiM a b - hiM c d - 1) := by
  have h1 := uN_mulI a b
  have h2 := uN_mulI c d
  unfold hiX hiM
  generalize a.toInt * b.toInt = PP at *
  generalize c.toInt * d.toInt = RR at *
  by_cases h : uN (c * d) ≤ uN (a * b)
  · rw [if_pos h, show (0 : Int64) = Int64.ofInt 0 from rfl, ← Int64.ofInt_sub, ← Int64.ofInt_sub]
    congr 1
    omega
  · rw [if_neg h, show (1 : Int64) = Int64.ofInt 1 from rfl, ← Int64.ofInt_sub, ← Int64.ofInt_sub]
    congr 1
    omega
theorem crH (a b c d : Int64) : f_X2_crossHigh a b c d = some (hiX a b c d) := by
  unfold f_X2_crossHigh
  obtain ⟨r, hr, h⟩ := cmpU (a * b) (c * d)
  rw [hr, Option.bind_some, hiX_of]
  by_cases q : 0 ≤ r
  · rw [if_pos q, if_pos (h.mp q), hop, hop]; rfl
  · rw [if_neg q, if_neg (fun z => q (h.mpr z)), hop, hop]; rfl
/-! signs -/
def sgI (z : Int) : Int32 := if z < 0 then -1 else if z = 0 then 0 else 1
theorem sgn63 (x : Int64) : f_J13_signum_95d88 x = some (sgI x.toInt) := by
  unfold f_J13_signum_95d88
  have r := fb_rngL x
  have h1 : (x >>> ((63 : Int32).toInt64 &&& 63)).toInt = x.toInt / 9223372036854775808 := sh_r x (k := 63) (by decide)
  have h2 := uN_s63 (-x)
  have h3 := uN_mod (-x)
  rw [Int64.toInt_neg] at h3
  have h4 : (-x.toInt).bmod (2 ^ 64) % 18446744073709551616 = (-x.toInt) % 18446744073709551616 := Int.bmod_emod
  rw [h4] at h3
  unfold sgI
  by_cases hn : x.toInt < 0
  · rw [if_pos hn]
    have c1 : x >>> ((63 : Int32).toInt64 &&& 63) = (-1 : Int64) := Int64.toInt_inj.mp (by rw [h1]; show _ = (-1 : Int); omega)
    rw [c1]
    by_cases hm : x.toInt = -9223372036854775808
    · have c2 : ((-x).toUInt64 >>> ((63 : Int32).toInt64.toUInt64 &&& Int64.toUInt64 63)).toInt64 = (1 : Int64) := uN_inj (by rw [h2]; show _ = 1; omega)
      rw [c2]; rfl
    · have c2 : ((-x).toUInt64 >>> ((63 : Int32).toInt64.toUInt64 &&& Int64.toUInt64 63)).toInt64 = (0 : Int64) := uN_inj (by rw [h2]; show _ = 0; omega)
      rw [c2]; rfl
  · rw [if_neg hn]
    have c1 : x >>> ((63 : Int32).toInt64 &&& 63) = (0 : Int64) := Int64.toInt_inj.mp (by rw [h1]; show _ = (0 : Int); omega)
    rw [c1]
    by_cases h0 : x.toInt = 0
    · rw [if_pos h0]
      have c2 : ((-x).toUInt64 >>> ((63 : Int32).toInt64.toUInt64 &&& Int64.toUInt64 63)).toInt64 = (0 : Int64) := uN_inj (by rw [h2]; show _ = 0; omega)
      rw [c2]; rfl
    · rw [if_neg h0]
      have c2 : ((-x).toUInt64 >>> ((63 : Int32).toInt64.toUInt64 &&& Int64.toUInt64 63)).toInt64 = (1 : Int64) := uN_inj (by rw [h2]; show _ = 1; omega)
      rw [c2]; rfl
theorem mul_rng63 (a b : Int64) : -85070591730234615865843651857942052864 ≤ a.toInt * b.toInt ∧ a.toInt * b.toInt ≤ 85070591730234615865843651857942052864 := by
  have ra := fb_rngL a
  have rb := fb_rngL b
  rcases Int.le_total 0 b.toInt with h | h
  · have := mul_rng (lo := -9223372036854775808) (hi := 9223372036854775808) (Y := 9223372036854775808) ra.1 (by omega) h (by omega) (by decide) (by decide)
    omega
  · have := mul_rng (lo := -9223372036854775808) (hi := 9223372036854775808) (Y := 9223372036854775808) (y := -b.toInt) ra.1 (by omega) (by omega) (by omega) (by decide) (by decide)
    have e : a.toInt * -b.toInt = -(a.toInt * b.toInt) := Int.mul_neg _ _
    omega
theorem mul_lo63 (a b : Int64) : -85070591730234615865843651857942052864 < a.toInt * b.toInt := by
  have ra := fb_rngL a
  have rb := fb_rngL b
  rcases Int.le_total 0 b.toInt with h | h
  · have := mul_rng (lo := -9223372036854775808) (hi := 9223372036854775807) (Y := 9223372036854775807) ra.1 (by omega) h (by omega) (by decide) (by decide)
    omega
  · rcases Int.le_total 0 a.toInt with h2 | h2
    · have := mul_rng (x := b.toInt) (y := a.toInt) (lo := -9223372036854775808) (hi := 0) (Y := 9223372036854775807) rb.1 h h2 (by omega) (by decide) (by decide)
      have e : b.toInt * a.toInt = a.toInt * b.toInt := Int.mul_comm _ _
      omega
    · have := Int.mul_nonneg_of_nonpos_of_nonpos h2 h
      omega
theorem hiX_toInt (a b c d : Int64) : (hiX a b c d).toInt = (a.toInt * b.toInt - c.toInt * d.toInt) / 18446744073709551616 := by
  have h1 := mul_rng63 a b
  have h2 := mul_rng63 c d
  have h3 := mul_lo63 c d
  have h4 := mul_lo63 a b
  unfold hiX
  exact oi_in (by omega) (by omega)
theorem crS (a b c d : Int64) : f_X2_crossSign a b c d = some (sgI (a.toInt * b.toInt - c.toInt * d.toInt)) := by
  unfold f_X2_crossSign
  rw [crH, Option.bind_some]
  have h := hiX_toInt a b c d
  have h1 := uN_mulI a b
  have h2 := uN_mulI c d
  by_cases e : lg_cmp (hiX a b c d) (0 : Int64) = 0
  · rw [if_pos e]
    rw [lc_eq] at e
    rw [e] at h
    have h0 : (0 : Int64).toInt = 0 := rfl
    rw [h0] at h
    by_cases q : lg_cmp (a * b) (c * d) = 0
    · rw [if_pos q]
      rw [lc_eq] at q
      rw [q] at h1
      unfold sgI
      rw [if_neg (by omega), if_pos (by omega)]
    · rw [if_neg q]
      rw [lc_eq] at q
      have q2 : uN (a * b) ≠ uN (c * d) := fun z => q (uN_inj z)
      unfold sgI
      rw [if_neg (by omega), if_neg (by omega)]
  · rw [if_neg e, sgn63, Option.bind_some, h]
    rw [lc_eq] at e
    have e2 : (hiX a b c d).toInt ≠ 0 := fun z => e (Int64.toInt_inj.mp z)
    rw [h] at e2
    unfold sgI
    by_cases n : (a.toInt * b.toInt - c.toInt * d.toInt) / 18446744073709551616 < 0
    · rw [if_pos n, if_pos (by omega)]
    · rw [if_neg n, if_neg e2, if_neg (by omega), if_neg (by omega)]

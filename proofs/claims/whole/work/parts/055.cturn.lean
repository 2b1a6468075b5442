/-! a row set, a table turned -/
def rwS (G : Nat → Nat → Int64) (r : Nat) (h : Nat → Int64) (lo hi : Nat) : Nat → Nat → Int64 := fun r' c => if r' = r ∧ lo ≤ c ∧ c < hi then h c else G r' c
def tnS (G : Nat → Nat → Int64) (row m lo : Nat) (Z : Nat → Nat → Int) : Nat → Nat → Int64 := fun r c => if lo ≤ r ∧ r < m ∧ r ≠ row ∧ c < 2 * m + 2 then Int64.ofInt (Z r c) else G r c
theorem rwS_0 (G : Nat → Nat → Int64) (r : Nat) (h : Nat → Int64) {lo hi : Nat} (e : hi ≤ lo) : rwS G r h lo hi = G := by
  funext r' c
  exact if_neg (fun q => by omega)
theorem rwS_s (G : Nat → Nat → Int64) (r : Nat) (h : Nat → Int64) {lo hi : Nat} (e : lo < hi) {x : Int64} (hx : x = h lo) : rwS (upG G r lo x) r h (lo + 1) hi = rwS G r h lo hi := by
  funext r' c
  unfold rwS
  by_cases h1 : r' = r ∧ lo + 1 ≤ c ∧ c < hi
  · rw [if_pos h1, if_pos ⟨h1.1, by omega, h1.2.2⟩]
  · rw [if_neg h1]
    by_cases h2 : r' = r ∧ lo ≤ c ∧ c < hi
    · have ec : c = lo := by omega
      rw [if_pos h2, h2.1, ec, upG_s, hx]
    · rw [if_neg h2, upG_n]
      rcases Nat.decEq r' r with z | z
      · exact Or.inl z
      · exact Or.inr (fun y => h2 ⟨z, by omega, by omega⟩)
theorem lowX (p a f t : Int64) : p * a - f * t = Int64.ofInt (p.toInt * a.toInt - f.toInt * t.toInt) := by
  rw [Int64.ofInt_sub, Int64.ofInt_mul, Int64.ofInt_mul, oi_t, oi_t, oi_t, oi_t]
theorem cellZ {e : Nat} {o z : Int} {v : Int64} (hv : Int64.ofInt o * v = 1) {X : Int} (hX : X = 2 ^ e * (o * z)) : Int64.ofInt (X / 2 ^ e) * v = Int64.ofInt z := by
  have hne : (2 : Int) ^ e ≠ 0 := by
    have : 0 < (2 : Int) ^ e := Int.pow_pos (by decide)
    omega
  rw [hX, Int.mul_ediv_cancel_left _ hne, Int64.ofInt_mul]
  have e1 : Int64.ofInt o * Int64.ofInt z * v = Int64.ofInt z * (Int64.ofInt o * v) := by grind
  rw [e1, hv, Int64.mul_one]
theorem cs_self (σ : CS) : s_gg σ (c_gg σ) = σ := match σ with
  | (_, _, _, _, _, _, _, _, _, _, _, _, _, _, _, _) => rfl
theorem cTk_L (N m e : Nat) (he : e < 64) (hm : m ≤ 12) (r row : Nat) (hr : r < m) (hrow : row < m) (hne : r ≠ row) (v p f : Int64) (o : Int) (hv : Int64.ofInt o * v = 1) (Z : Nat → Int) : ∀ (j k n : Nat) (σ : CS), c_rw σ = nI m → k + j = 2 * m + 2 → j < n → (∀ c, k ≤ c → c < 2 * m + 2 → p.toInt * gI (c_gg σ) r c - f.toInt * gI (c_gg σ) row c = 2 ^ e * (o * Z c)) →
    f_X1_takeOut_L31 N n (nI e) v (nI r) (nI row) p f (nI k) σ = some (s_gg σ (rwS (c_gg σ) r (fun c => Int64.ofInt (Z c)) k (2 * m + 2))) := by
  intro j
  induction j with
  | zero =>
    intro k n σ hrw hk hn hZ
    obtain ⟨n, rfl, hn⟩ := suc_of hn
    rw [f_X1_takeOut_L31, cQs hrw, bs_d, if_pos (nI_lt (by omega) (by omega)), rwS_0 _ _ _ (by omega), cs_self]
  | succ j ih =>
    intro k n σ hrw hk hn hZ
    obtain ⟨n, rfl, hn⟩ := suc_of hn
    have hz : p.toInt * (c_gg σ r k).toInt - f.toInt * (c_gg σ row k).toInt = 2 ^ e * (o * Z k) := hZ k (Nat.le_refl k) (by omega)
    rw [f_X1_takeOut_L31, cQs hrw, bs_d, if_neg (nI_nlt (by omega) (by omega)), gd_n (by omega) (by decide), gd_n (by omega) (by decide), gd_n (by omega) (by decide), gd_n (by omega) (by decide), nI_clamp (n := r) (by omega), nI_clamp (n := row) (by omega), nI_clamp (n := k) (by omega), crH, bs_d, gd_n (by omega) (by decide), gd_n (by omega) (by decide), gd_n (by omega) (by decide), gd_n (by omega) (by decide), lt_d, lowX, hiX, shl_s _ he, bs_d, gd_n (by omega) (by decide), gd_n (by omega) (by decide), lt_d, lt_d, nI_1]
    rw [cellZ hv hz]
    have h := ih (k + 1) n (s_gg σ (upG (c_gg σ) r k (Int64.ofInt (Z k)))) (by rw [cs_rw_gg]; exact hrw) (by omega) (by omega) (fun c h1 h2 => by
      rw [cs_gg_gg]
      unfold gI
      rw [upG_n _ _ _ _ (Or.inr (by omega)), upG_n _ _ _ _ (Or.inl (Ne.symm hne))]
      exact hZ c (by omega) h2)
    rw [h, cs_gg_gg, ss_gg, rwS_s (c_gg σ) r (fun c => Int64.ofInt (Z c)) (by omega) rfl]
theorem cTk {N m e : Nat} (hN : 2 * m + 2 < N) (he : e < 64) (hm : m ≤ 12) {r row col : Nat} (hr : r < m) (hrow : row < m) (hcol : col < 26) (hne : r ≠ row) {v : Int64} {o : Int} (hv : Int64.ofInt o * v = 1) (Z : Nat → Int) {σ : CS} (hrw : c_rw σ = nI m)
    (hZ : ∀ c, c < 2 * m + 2 → gI (c_gg σ) row col * gI (c_gg σ) r c - gI (c_gg σ) r col * gI (c_gg σ) row c = 2 ^ e * (o * Z c)) :
    f_X1_takeOut N (nI r) (nI row) (nI col) (nI e) v σ = some (s_gg σ (rwS (c_gg σ) r (fun c => Int64.ofInt (Z c)) 0 (2 * m + 2))) := by
  rw [f_X1_takeOut, gd_n (by omega) (by decide), gd_n (by omega) (by decide), gd_n (by omega) (by decide), gd_n (by omega) (by decide), nI_clamp (n := r) (by omega), nI_clamp (n := row) (by omega), nI_clamp (n := col) (by omega), lt_d, gd_n (by omega) (by decide), gd_n (by omega) (by decide), lt_d]
  exact cTk_L N m e he hm r row hr hrow hne v _ _ o hv Z (2 * m + 2) 0 N σ hrw (by omega) hN (fun c _ h => hZ c h)
theorem tnS_0 (G : Nat → Nat → Int64) (row m : Nat) (Z : Nat → Nat → Int) : tnS G row m m Z = G := by
  funext r c
  exact if_neg (fun q => by omega)
theorem tnS_row (G : Nat → Nat → Int64) (row m lo : Nat) (Z : Nat → Nat → Int) (c : Nat) : tnS G row m lo Z row c = G row c := if_neg (fun q => q.2.2.1 rfl)
theorem tnS_s (G : Nat → Nat → Int64) {row m lo : Nat} (Z : Nat → Nat → Int) (hlo : lo < m) (hne : lo ≠ row) : tnS (rwS G lo (fun c => Int64.ofInt (Z lo c)) 0 (2 * m + 2)) row m (lo + 1) Z = tnS G row m lo Z := by
  funext r c
  unfold tnS rwS
  by_cases h1 : lo + 1 ≤ r ∧ r < m ∧ r ≠ row ∧ c < 2 * m + 2
  · rw [if_pos h1, if_pos ⟨by omega, h1.2⟩]
  · rw [if_neg h1]
    by_cases h2 : lo ≤ r ∧ r < m ∧ r ≠ row ∧ c < 2 * m + 2
    · have er : r = lo := by omega
      rw [if_pos h2, er, if_pos ⟨rfl, by omega, h2.2.2.2⟩]
    · rw [if_neg h2]
      by_cases h3 : r = lo ∧ 0 ≤ c ∧ c < 2 * m + 2
      · exact absurd ⟨by omega, by omega, by omega, h3.2.2⟩ h2
      · rw [if_neg h3]
theorem tnS_n (G : Nat → Nat → Int64) {row m : Nat} (Z : Nat → Nat → Int) : tnS G row m (row + 1) Z = tnS G row m row Z := by
  funext r c
  unfold tnS
  by_cases h2 : row ≤ r ∧ r < m ∧ r ≠ row ∧ c < 2 * m + 2
  · rw [if_pos h2, if_pos ⟨by omega, h2.2⟩]
  · rw [if_neg h2, if_neg (fun q => h2 ⟨by omega, q.2⟩)]
theorem cTn_L (N m e : Nat) (hN : 2 * m + 2 < N) (he : e < 64) (hm : m ≤ 12) (row col : Nat) (hrow : row < m) (hcol : col < 26) (v : Int64) (o : Int) (hv : Int64.ofInt o * v = 1) (Z : Nat → Nat → Int) : ∀ (j lo n : Nat) (σ : CS), c_rw σ = nI m → lo + j = m → j < n → (∀ r, lo ≤ r → r < m → r ≠ row → ∀ c, c < 2 * m + 2 → gI (c_gg σ) row col * gI (c_gg σ) r c - gI (c_gg σ) r col * gI (c_gg σ) row c = 2 ^ e * (o * Z r c)) →
    f_X1_turn_L40 N n (nI row) (nI col) (nI e) v (nI lo) σ = some (s_sc (s_gg σ (tnS (c_gg σ) row m lo Z)) (c_gg σ row col)) := by
  intro j
  induction j with
  | zero =>
    intro lo n σ hrw hk hn hZ
    obtain ⟨n, rfl, hn⟩ := suc_of hn
    have e0 : lo = m := by omega
    subst e0
    rw [f_X1_turn_L40, hrw, if_pos (nI_le (Nat.le_refl _) (by omega)), gd_n (by omega) (by decide), gd_n (by omega) (by decide), gd_n (by omega) (by decide), lt_d, nI_clamp (n := row) (by omega), nI_clamp (n := col) (by omega), tnS_0, cs_self]
  | succ j ih =>
    intro lo n σ hrw hk hn hZ
    obtain ⟨n, rfl, hn⟩ := suc_of hn
    rw [f_X1_turn_L40, hrw, if_neg (nI_ge (by omega) (by omega))]
    by_cases hq : lo = row
    · rw [if_pos (by rw [hq]), lt_d, nI_1, ih (lo + 1) n σ hrw (by omega) (by omega) (fun r h1 => hZ r (by omega)), hq, tnS_n]
    · rw [if_neg (fun z => hq ((nI_eq (by omega) (by omega)).mp z)), cTk hN he hm (by omega) hrow hcol hq hv (Z lo) hrw (hZ lo (Nat.le_refl _) (by omega) hq), bs_d, lt_d, nI_1]
      have hG : ∀ r c, r ≠ lo → rwS (c_gg σ) lo (fun c => Int64.ofInt (Z lo c)) 0 (2 * m + 2) r c = c_gg σ r c := fun r c h => if_neg (fun z => h z.1)
      have h := ih (lo + 1) n (s_gg σ (rwS (c_gg σ) lo (fun c => Int64.ofInt (Z lo c)) 0 (2 * m + 2))) (by rw [cs_rw_gg]; exact hrw) (by omega) (by omega) (fun r h1 h2 h3 c hc => by
        rw [cs_gg_gg]
        unfold gI
        rw [hG row col (Ne.symm hq), hG r c (by omega), hG r col (by omega), hG row c (Ne.symm hq)]
        exact hZ r (by omega) h2 h3 c hc)
      rw [h, cs_gg_gg, ss_gg, tnS_s _ _ (by omega) hq, hG row col (Ne.symm hq)]
theorem cNg_L (N m row : Nat) (hm : m ≤ 12) (hrow : row < m) : ∀ (j k n : Nat) (σ : CS), c_rw σ = nI m → k + j = 2 * m + 2 → j < n →
    f_X1_negate_L2 N n (nI row) (nI k) σ = some (s_gg σ (rwS (c_gg σ) row (fun c => - c_gg σ row c) k (2 * m + 2))) := by
  intro j
  induction j with
  | zero =>
    intro k n σ hrw hk hn
    obtain ⟨n, rfl, hn⟩ := suc_of hn
    rw [f_X1_negate_L2, cQs hrw, bs_d, if_pos (nI_lt (by omega) (by omega)), rwS_0 _ _ _ (by omega), cs_self]
  | succ j ih =>
    intro k n σ hrw hk hn
    obtain ⟨n, rfl, hn⟩ := suc_of hn
    rw [f_X1_negate_L2, cQs hrw, bs_d, if_neg (nI_nlt (by omega) (by omega)), gd_n (by omega) (by decide), gd_n (by omega) (by decide), gd_n (by omega) (by decide), gd_n (by omega) (by decide), gd_n (by omega) (by decide), gd_n (by omega) (by decide), lt_d, lt_d, nI_1, nI_clamp (n := row) (by omega), nI_clamp (n := k) (by omega)]
    have h := ih (k + 1) n (s_gg σ (upG (c_gg σ) row k (-(c_gg σ row k)))) (by rw [cs_rw_gg]; exact hrw) (by omega) (by omega)
    rw [h, cs_gg_gg, ss_gg]
    congr 2
    have e1 : rwS (upG (c_gg σ) row k (-(c_gg σ row k))) row (fun c => -(upG (c_gg σ) row k (-(c_gg σ row k)) row c)) (k + 1) (2 * m + 2) = rwS (upG (c_gg σ) row k (-(c_gg σ row k))) row (fun c => -(c_gg σ row c)) (k + 1) (2 * m + 2) := by
      funext r c
      unfold rwS
      by_cases q : r = row ∧ k + 1 ≤ c ∧ c < 2 * m + 2
      · rw [if_pos q, if_pos q]
        exact congrArg (fun t => -t) (upG_n (c_gg σ) row k (-(c_gg σ row k)) (r := row) (c := c) (Or.inr (by omega)))
      · rw [if_neg q, if_neg q]
    rw [e1]
    exact rwS_s (c_gg σ) row (fun c => -(c_gg σ row c)) (by omega) rfl
theorem cNg {N m row : Nat} (hN : 2 * m + 2 < N) (hm : m ≤ 12) (hrow : row < m) {σ : CS} (hrw : c_rw σ = nI m) : f_X1_negate N (nI row) σ = some (s_gg σ (rwS (c_gg σ) row (fun c => - c_gg σ row c) 0 (2 * m + 2))) := by
  rw [f_X1_negate]
  exact cNg_L N m row hm hrow (2 * m + 2) 0 N σ hrw (by omega) hN
/-! a number over 0 is a power of two times an odd one -/
theorem two_odd (S : Nat) (h : 0 < S) : ∃ e k : Nat, S = 2 ^ e * (2 * k + 1) := by
  induction S using Nat.strongRecOn with
  | _ S ih =>
    by_cases q : S % 2 = 1
    · exact ⟨0, S / 2, by rw [Nat.pow_zero]; omega⟩
    · obtain ⟨e, k, hk⟩ := ih (S / 2) (by omega) (by omega)
      exact ⟨e + 1, k, by rw [Nat.pow_succ, Nat.mul_comm (2 ^ e) 2, Nat.mul_assoc, ← hk]; omega⟩
theorem two_lt {S e k : Nat} (hS : S = 2 ^ e * (2 * k + 1)) (hlt : S < 2 ^ 63) : e < 63 := by
  rcases Nat.lt_or_ge e 63 with h | h
  · exact h
  · have h1 : 2 ^ 63 ≤ 2 ^ e := Nat.pow_le_pow_right (by decide) h
    have h2 : 2 ^ e * 1 ≤ 2 ^ e * (2 * k + 1) := Nat.mul_le_mul_left _ (by omega)
    omega
/-- TO TURN, where what stands there isn't below 0 and all others divide -/
theorem cTn {N m : Nat} (hN : 2 * m + 5 < N) (hm : m ≤ 12) {row col : Nat} (hrow : row < m) (hcol : col < 26) {σ : CS} (hrw : c_rw σ = nI m) (hp : 0 ≤ gI (c_gg σ) row col) (hs : 0 < (c_sc σ).toInt) (Z : Nat → Nat → Int)
    (hZ : ∀ r, r < m → r ≠ row → ∀ c, c < 2 * m + 2 → gI (c_gg σ) row col * gI (c_gg σ) r c - gI (c_gg σ) r col * gI (c_gg σ) row c = (c_sc σ).toInt * Z r c) :
    f_X1_turn N (nI row) (nI col) σ = some (s_sc (s_gg σ (tnS (c_gg σ) row m 0 Z)) (c_gg σ row col)) := by
  have hrng := fb_rngL (c_sc σ)
  obtain ⟨S, hS⟩ : ∃ S : Nat, (c_sc σ).toInt = S := ⟨(c_sc σ).toInt.toNat, by omega⟩
  obtain ⟨e, k, hk⟩ := two_odd S (by omega)
  have he := two_lt hk (by omega)
  have hsc : c_sc σ = lN S := by rw [lN_oi, ← hS, oi_t]
  have hsh : (lN S) >>> ((nI e).toInt64 &&& 63) = Int64.ofInt (2 * (k : Int) + 1) := by
    apply oi_of
    rw [sh_r _ (by omega), ← hsc, hS, hk]
    push_cast
    have hne : (2 : Int) ^ e ≠ 0 := by
      have : 0 < (2 : Int) ^ e := Int.pow_pos (by decide)
      omega
    rw [Int.mul_ediv_cancel_left _ hne]
  obtain ⟨w, hw1, hw2⟩ := inv_s (N := N) (by omega) (k : Int)
  have hge : 0 ≤ lg_cmp (c_gg σ row col) (0 : Int64) := by
    rw [lc_ge, Int64.le_iff_toInt_le]; exact hp
  rw [f_X1_turn, gd_n (by omega) (by decide), gd_n (by omega) (by decide), gd_n (by omega) (by decide), nI_clamp (n := row) (by omega), nI_clamp (n := col) (by omega), if_pos hge, hsc, ntz64 hk (by omega), bs_d, hsh, hw1, bs_d]
  refine cTn_L N m e (by omega) (by omega) hm row col hrow hcol w _ hw2 Z m 0 N σ hrw (by omega) (by omega) (fun r _ h2 h3 c hc => ?_)
  rw [hZ r h2 h3 c hc, hS, hk]
  push_cast
  rw [Int.mul_assoc]

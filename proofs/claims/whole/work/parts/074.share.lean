/-! what a row tells at the end -/
theorem sm_app (a : Nat) (f : Nat → Int) : ∀ b, sm (a + b) f = sm a f + sm b (fun k => f (a + k)) := by
  intro b
  induction b with
  | zero =>
    show sm a f = sm a f + 0
    omega
  | succ b ih =>
    have e1 : sm (a + (b + 1)) f = sm (a + b) f + f (a + b) := rfl
    have e2 : sm (b + 1) (fun k => f (a + k)) = sm b (fun k => f (a + k)) + f (a + b) := rfl
    rw [e1, e2, ih]
    omega
def shr (m : Nat) (t : Nat → Nat) (g : Nat → Nat → Int) (x : Nat) : Int := sm m (fun r => if t r = x then g r (2 * m + 1) else 0)
theorem shr_hit {m : Nat} {A : Nat → Nat → Int} {t : Nat → Nat} {g : Nat → Nat → Int} {s e : Int} (h : TI m A t g s e) {r x : Nat} (hr : r < m) (hx : t r = x) : shr m t g x = g r (2 * m + 1) := by
  unfold shr
  rw [sm_one hr (fun k hk hne => if_neg (fun z => TI_ap h hk hr hne (z.trans hx.symm))), if_pos hx]
theorem shr_no {m : Nat} {t : Nat → Nat} {g : Nat → Nat → Int} {x : Nat} (h : ∀ r, r < m → t r ≠ x) : shr m t g x = 0 := sm_zero (fun r hr => if_neg (h r hr))
/-- a share is 0 or what stands at q -/
theorem shr_or {m : Nat} {A : Nat → Nat → Int} {t : Nat → Nat} {g : Nat → Nat → Int} {s e : Int} (h : TI m A t g s e) (x : Nat) : shr m t g x = 0 ∨ ∃ r, r < m ∧ shr m t g x = g r (2 * m + 1) := by
  by_cases q : ∃ r, r < m ∧ t r = x
  · obtain ⟨r, hr, hx⟩ := q
    exact Or.inr ⟨r, hr, shr_hit h hr hx⟩
  · exact Or.inl (shr_no (fun r hr z => q ⟨r, hr, z⟩))
theorem shr_part {m k : Nat} {t : Nat → Nat} {g : Nat → Nat → Int} (hk : ∀ r, r < m → t r < k) (f : Nat → Int) : sm m (fun r => g r (2 * m + 1) * f (t r)) = sm k (fun x => shr m t g x * f x) := by
  have e1 : sm k (fun x => shr m t g x * f x) = sm k (fun x => sm m (fun r => f x * (if t r = x then g r (2 * m + 1) else 0))) := sm_congr (fun x _ => by
    rw [sm_mul, Int.mul_comm]
    rfl)
  rw [e1, sm_swap]
  refine sm_congr (fun r hr => ?_)
  rw [sm_one (hk r hr) (fun x _ hne => by rw [if_neg (fun z => hne z.symm), Int.mul_zero]), if_pos rfl, Int.mul_comm]
/-- ABOVE, parted -/
theorem shr_hi {n : Nat} {Q : Nat → Nat → Int} {bA bB : Int} {t : Nat → Nat} {g : Nat → Nat → Int} {s e : Int} (h : TI (2 * n) (aC n Q bA bB) t g s e) (ht : ∀ r, r < 2 * n → t r < 4 * n) {i : Nat} (hi : i < n) : s * bA = shr (2 * n) t g (n + i) + shr (2 * n) t g (2 * n + i) := by
  have h1 := h.2.2.2.2 (2 * (2 * n) + 1) (n + i) (Nat.le_refl _) (by omega)
  rw [shr_part (k := 4 * n) ht (fun x => aC n Q bA bB x (n + i)), sm_two (a := n + i) (b := 2 * n + i) (by omega) (by omega) (by omega) (fun x hx h2 h3 => ?_)] at h1
  · have e1 : aC n Q bA bB (2 * (2 * n) + 1) (n + i) = bA := by
      unfold aC
      rw [if_neg (by omega), if_neg (by omega), if_neg (by omega), if_neg (by omega)]
    have e2 : aC n Q bA bB (n + i) (n + i) = 1 := by
      unfold aC
      rw [if_pos (by omega), if_pos rfl]
    have e3 : aC n Q bA bB (2 * n + i) (n + i) = 1 := by
      unfold aC mM
      rw [if_neg (by omega), if_pos (by omega), if_neg (by omega), if_neg (by omega), if_pos (by omega)]
      rfl
    rw [e1, e2, e3, Int.mul_one, Int.mul_one] at h1
    exact h1
  · have e4 : aC n Q bA bB x (n + i) = 0 := by
      unfold aC mM
      by_cases q : x < 2 * n
      · rw [if_pos q, if_neg (fun z => h2 z.symm)]
      · rw [if_neg q, if_pos hx, if_neg (by omega), if_neg (by omega), if_neg (by omega)]
        rfl
    rw [e4, Int.mul_zero]
/-- BELOW, parted: the slope -/
theorem shr_lo {n : Nat} {Q : Nat → Nat → Int} {bA bB : Int} {t : Nat → Nat} {g : Nat → Nat → Int} {s e : Int} (h : TI (2 * n) (aC n Q bA bB) t g s e) (ht : ∀ r, r < 2 * n → t r < 4 * n) {i : Nat} (hi : i < n) : s * bB - sm n (fun k => Q i k * shr (2 * n) t g (2 * n + k)) = shr (2 * n) t g (3 * n + i) - shr (2 * n) t g i := by
  have h1 := h.2.2.2.2 (2 * (2 * n) + 1) i (Nat.le_refl _) (by omega)
  rw [shr_part (k := 4 * n) ht (fun x => aC n Q bA bB x i), show 4 * n = 2 * n + (n + n) by omega, sm_app, sm_app] at h1
  have e1 : aC n Q bA bB (2 * (2 * n) + 1) i = -bB := by
    unfold aC
    rw [if_neg (by omega), if_neg (by omega), if_neg (by omega), if_pos hi]
  have e2 : sm (2 * n) (fun x => shr (2 * n) t g x * aC n Q bA bB x i) = shr (2 * n) t g i := by
    rw [sm_one (j := i) (by omega) (fun x hx hne => ?_)]
    · unfold aC
      rw [if_pos (by omega), if_pos rfl, Int.mul_one]
    · unfold aC
      rw [if_pos hx, if_neg (fun z => hne z.symm), Int.mul_zero]
  have e3 : sm n (fun k => shr (2 * n) t g (2 * n + k) * aC n Q bA bB (2 * n + k) i) = - sm n (fun k => Q i k * shr (2 * n) t g (2 * n + k)) := by
    rw [← sm_neg]
    refine sm_congr (fun k hk => ?_)
    unfold aC mM
    rw [if_neg (by omega), if_pos (by omega), Nat.add_sub_cancel_left, if_pos ⟨hi, hk⟩, Int.mul_neg, Int.mul_comm]
  have e4 : sm n (fun k => shr (2 * n) t g (2 * n + (n + k)) * aC n Q bA bB (2 * n + (n + k)) i) = - shr (2 * n) t g (3 * n + i) := by
    rw [sm_one (j := i) hi (fun x hx hne => ?_)]
    · unfold aC mM
      rw [if_neg (by omega), if_pos (by omega), if_neg (by omega), if_pos (by omega), show 2 * n + (n + i) = 3 * n + i by omega]
      omega
    · unfold aC mM
      rw [if_neg (by omega), if_pos (by omega), if_neg (by omega), if_neg (by omega), if_neg (by omega)]
      exact Int.mul_zero _
  rw [e1, e2, e3, e4, Int.mul_neg] at h1
  omega
/-! the share of both -/
theorem share_L {N n : Nat} {σ : CS} {μ : MS} {t E F : Nat → Nat} {st : Nat} {e : Int} (hn6 : n ≤ 6) (h : tbR n σ μ t E F st e) {i : Nat} (hi : i < n) : ∀ (j r f : Nat), r + j = 2 * n → j < f → (∀ r2, r2 < r → t r2 ≠ 2 * n + i) → ∃ v, f_X1_shareOfZ_L2 N f (nI i) (nI r) σ = some v ∧ f_X4_worthOf_L2 N f (nI i) (nI r) μ = some v ∧ v.toInt = shr (2 * n) t (gI (c_gg σ)) (2 * n + i) := by
  obtain ⟨b1, b2, b3, b4, b5, b6, b7, b8, b9, b10, b11, b12, b13, b14, b15⟩ := h
  intro j
  induction j with
  | zero =>
    intro r f hr hf hno
    obtain ⟨f, rfl, hf⟩ := suc_of hf
    refine ⟨0, ?_, ?_, ?_⟩
    · rw [f_X1_shareOfZ_L2, b3, if_pos (nI_le (by omega) (by omega))]
    · rw [f_X4_worthOf_L2, b4, if_pos (nI_le (by omega) (by omega))]
    · rw [shr_no (fun r2 h2 => hno r2 (by omega))]
      rfl
  | succ j ih =>
    intro r f hr hf hno
    obtain ⟨f, rfl, hf⟩ := suc_of hf
    obtain ⟨z1, z2, z3⟩ := b10 r (by omega)
    have hl : letr (2 * n) (t r) < 2 ^ 31 ∧ (letr (2 * n) (t r) = 100 + i ↔ t r = 2 * n + i) := by
      unfold letr
      by_cases q1 : t r < 2 * n
      · rw [if_pos q1]; exact ⟨by omega, by omega⟩
      · rw [if_neg q1]
        by_cases q2 : t r < 2 * (2 * n)
        · rw [if_pos q2]; exact ⟨by omega, by omega⟩
        · rw [if_neg q2]; exact ⟨by omega, by omega⟩
    rw [f_X1_shareOfZ_L2, f_X4_worthOf_L2, b3, b4, if_neg (nI_ge (by omega) (by omega)), if_neg (nI_ge (by omega) (by omega)), gd_n (by omega) (by decide), nI_clamp (n := r) (by omega), z1, z2, nI_add, show (100 : Int32) = nI 100 from rfl, nI_add]
    by_cases hq : t r = 2 * n + i
    · refine ⟨c_gg σ r (2 * (2 * n) + 1), ?_, ?_, ?_⟩
      · rw [if_pos (by rw [hq]), gd_n (by omega) (by decide), cQs b3, bs_d, gd_n (by omega) (by decide), gd_n (by omega) (by decide), nI_clamp (n := 2 * (2 * n) + 1) (by omega)]
      · rw [gd_n (by omega) (by decide), if_pos (by rw [hl.2.mpr hq]), mQs b4, bs_d, ix26, gd_n (by omega) (by decide), nI_clamp (n := 26 * r + (2 * (2 * n) + 1)) (by omega)]
        exact congrArg some (b9 r (2 * (2 * n) + 1) (by omega) (by omega))
      · exact (shr_hit b12 (by omega) hq).symm
    · obtain ⟨v, v1, v2, v3⟩ := ih (r + 1) f (by omega) (by omega) (fun r2 h2 => by
        rcases (show r2 < r ∨ r2 = r by omega) with q | q
        · exact hno r2 q
        · rw [q]; exact hq)
      refine ⟨v, ?_, ?_, v3⟩
      · rw [if_neg (fun z => hq ((nI_eq (by omega) (by omega)).mp z)), lt_d, nI_1, v1]
      · rw [gd_n (by omega) (by decide), if_neg (fun z => hq (hl.2.mp ((nI_eq hl.1 (by omega)).mp z))), lt_d, nI_1, v2]
/-- the state where all is done -/
def dnR (n : Nat) (σ : CS) (μ : MS) (s : Int) (sh : Nat → Int64) : Prop := 1 ≤ n ∧ m_bl μ = c_sc σ ∧ (c_sc σ).toInt = s ∧ 0 < s ∧ s ≤ hb (qB (c_pw σ)) n n
  ∧ (∀ i, i < n → 0 ≤ (sh i).toInt ∧ (sh i).toInt ≤ s * (c_bA σ).toInt)
  ∧ ∀ i, i < n → (s * (c_bB σ).toInt - sm n (fun k => (prd (c_pw σ) (c_xx σ) (c_yy σ) (c_lb σ) i k).toInt * (sh k).toInt)).natAbs ≤ 5440000000000000
theorem done_R {N : Nat} (hN : 600 < N) {n : Nat} {σ : CS} {μ : MS} {t E F : Nat → Nat} {st : Nat} {e : Int} (hp : ptR n σ μ) (h : tbR n σ μ t E F st e) (hd : c_sa σ = 1) : ∃ s sh, dnR n σ μ s sh ∧ ∀ i, i < n → f_X3_share N (nI i) σ = some (sh i) ∧ f_X4_worthOf N (nI i) μ = some (sh i) := by
  have h0 := h
  have hp9 := hp.2.2.2.2.2.2.2.2.1
  have hn6 := pt_6 hp9
  obtain ⟨b1, b2, b3, b4, b5, b6, b7, b8, b9, b10, b11, b12, b13, b14, b15⟩ := h
  have hz : 0 < st ∧ ∀ r, r < 2 * n → t r < 4 * n := by
    rcases b15 with ⟨z, _⟩ | ⟨z, _⟩ | ⟨_, _, _, z1, z2⟩
    · rw [hd] at z; exact absurd z (by decide)
    · rw [hd] at z; exact absurd z (by decide)
    · exact ⟨z1, z2⟩
  obtain ⟨hst, ht⟩ := hz
  have hq := b14 hst
  have hok := ok_pts hp9 b1
  have hA := aS_ok hp
  have sb : ∀ x, 0 ≤ shr (2 * n) t (gI (c_gg σ)) x ∧ shr (2 * n) t (gI (c_gg σ)) x ≤ 5440000000000000 := fun x => by
    rcases shr_or b12 x with z | ⟨r, hr, z⟩
    · rw [z]; exact ⟨by omega, by omega⟩
    · rw [z]
      have a1 := hq r hr
      have a2 := TI_bdq hok hA b12 ht hr (c := 2 * (2 * n) + 1) (by omega) (by omega)
      exact ⟨a1, by omega⟩
  have hex : ∀ i, ∃ v : Int64, i < n → f_X3_share N (nI i) σ = some v ∧ f_X4_worthOf N (nI i) μ = some v ∧ v.toInt = shr (2 * n) t (gI (c_gg σ)) (2 * n + i) := fun i => by
    by_cases hi : i < n
    · obtain ⟨v, v1, v2, v3⟩ := share_L (N := N) hn6 h0 hi (2 * n) 0 N (by omega) (by omega) (fun r2 h2 => absurd h2 (by omega))
      refine ⟨v, fun _ => ⟨?_, ?_, v3⟩⟩
      · rw [f_X3_share, f_X1_shareOfZ, ← nI_0, v1, bs_d]
      · rw [f_X4_worthOf, ← nI_0, v2]
    · exact ⟨0, fun z => absurd z hi⟩
  have hsh : ∀ i, i < n → f_X3_share N (nI i) σ = some (Classical.choose (hex i)) ∧ f_X4_worthOf N (nI i) μ = some (Classical.choose (hex i)) ∧ (Classical.choose (hex i)).toInt = shr (2 * n) t (gI (c_gg σ)) (2 * n + i) := fun i hi => Classical.choose_spec (hex i) hi
  refine ⟨(c_sc σ).toInt, fun i => Classical.choose (hex i), ⟨b1, b8, rfl, b12.2.1, ?_, fun i hi => ?_, fun i hi => ?_⟩, fun i hi => ⟨(hsh i hi).1, (hsh i hi).2.1⟩⟩
  · have a := TI_bds hok hA b12 ht
    have a2 := b12.2.1
    omega
  · rw [(hsh i hi).2.2]
    have a1 := shr_hi b12 ht hi
    have a2 := sb (n + i)
    have a3 := sb (2 * n + i)
    exact ⟨a3.1, by omega⟩
  · have a1 := shr_lo b12 ht hi
    have a2 := sb (3 * n + i)
    have a3 := sb i
    have e1 : sm n (fun k => (prd (c_pw σ) (c_xx σ) (c_yy σ) (c_lb σ) i k).toInt * (Classical.choose (hex k)).toInt) = sm n (fun k => (prd (c_pw σ) (c_xx σ) (c_yy σ) (c_lb σ) i k).toInt * shr (2 * n) t (gI (c_gg σ)) (2 * n + k)) := sm_congr (fun k hk => by rw [(hsh k hk).2.2])
    rw [e1, a1]
    omega

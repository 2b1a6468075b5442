/-! how large a determinant can be -/
def sn : Nat → (Nat → Nat) → Nat
  | 0, _ => 0
  | n + 1, f => sn n f + f n
theorem sn_le {n : Nat} {f g : Nat → Nat} (h : ∀ i, i < n → f i ≤ g i) : sn n f ≤ sn n g := by
  induction n with
  | zero => exact Nat.le_refl _
  | succ n ih => exact Nat.add_le_add (ih (fun i hi => h i (by omega))) (h n (by omega))
theorem sn_eq {n : Nat} {f g : Nat → Nat} (h : ∀ i, i < n → f i = g i) : sn n f = sn n g := by
  induction n with
  | zero => rfl
  | succ n ih => rw [sn, sn, ih (fun i hi => h i (by omega)), h n (by omega)]
theorem sn_add (n : Nat) (f g : Nat → Nat) : sn n (fun i => f i + g i) = sn n f + sn n g := by
  induction n with
  | zero => rfl
  | succ n ih => rw [sn, sn, sn, ih]; omega
theorem sn_mul (n k : Nat) (f : Nat → Nat) : sn n (fun i => k * f i) = k * sn n f := by
  induction n with
  | zero => rfl
  | succ n ih => rw [sn, sn, ih, Nat.mul_add]
theorem sn_const (n k : Nat) : sn n (fun _ => k) = n * k := by
  induction n with
  | zero => rw [sn, Nat.zero_mul]
  | succ n ih => rw [sn, ih, Nat.succ_mul]
theorem sn_one (n k : Nat) (i0 : Nat) : sn n (fun i => if i = i0 then k else 0) ≤ k := by
  induction n with
  | zero => exact Nat.zero_le _
  | succ n ih =>
    rw [sn]
    by_cases e : n = i0
    · rw [if_pos e]
      have z : sn n (fun i => if i = i0 then k else 0) = 0 := by
        have h : sn n (fun i => if i = i0 then k else 0) = sn n (fun _ => 0) := sn_eq (fun i hi => if_neg (by omega))
        rw [h, sn_const, Nat.mul_zero]
      omega
    · rw [if_neg e]; exact ih
theorem sn_low (n m : Nat) (h : n ≤ m) (f : Nat → Nat) : sn m (fun i => if i < n then f i else 0) = sn n f := by
  induction m with
  | zero =>
    have e : n = 0 := by omega
    subst e; rfl
  | succ m ih =>
    by_cases e : n = m + 1
    · subst e
      exact sn_eq (fun i hi => if_pos hi)
    · rw [sn, ih (by omega), if_neg (by omega)]; rfl
theorem sm_abs (n : Nat) (f : Nat → Int) : (sm n f).natAbs ≤ sn n (fun i => (f i).natAbs) := by
  induction n with
  | zero => exact Nat.le_refl _
  | succ n ih =>
    rw [sm, sn]
    have := Int.natAbs_add_le (sm n f) (f n)
    omega
theorem sg_abs (S : Nat → Bool) (i : Nat) : (sg S i).natAbs = 1 := by
  induction i with
  | zero => rfl
  | succ i ih =>
    rw [sg]
    by_cases h : S i = true
    · rw [if_pos h, Int.natAbs_neg, ih]
    · rw [if_neg h, ih]
theorem wd_abs (m : Nat) (v : Nat → Int) (F : (Nat → Bool) → Int) (S : Nat → Bool) : (wd m v F S).natAbs ≤ sn m (fun i => if S i = true then (v i).natAbs * (F (rmv S i)).natAbs else 0) := by
  unfold wd
  refine Nat.le_trans (sm_abs m _) (sn_le (fun i hi => ?_))
  by_cases h : S i = true
  · rw [if_pos h, if_pos h, Int.natAbs_mul, Int.natAbs_mul, sg_abs, Nat.one_mul]
    exact Nat.le_refl _
  · rw [if_neg h, if_neg h]
    exact Nat.le_refl _
/-- how many of the first n rows are in S -/
def wS (n : Nat) (S : Nat → Bool) : Nat := sn n (fun i => if S i = true then 1 else 0)
theorem wS_rmv_le (n : Nat) (S : Nat → Bool) (i : Nat) : wS n (rmv S i) ≤ wS n S := sn_le (fun j hj => by
  unfold rmv
  by_cases e : j = i
  · rw [if_pos e]
    exact Nat.zero_le _
  · rw [if_neg e]
    exact Nat.le_refl _)
theorem wS_rmv {n : Nat} {S : Nat → Bool} {i : Nat} (hi : i < n) (hs : S i = true) : wS n (rmv S i) + 1 = wS n S := by
  unfold wS
  induction n with
  | zero => omega
  | succ n ih =>
    rw [sn, sn]
    by_cases e : i = n
    · subst e
      have h1 : sn i (fun j => if rmv S i j = true then 1 else 0) = sn i (fun j => if S j = true then 1 else 0) := sn_eq (fun j hj => by
        unfold rmv
        rw [if_neg (show ¬ j = i by omega)])
      have h2 : rmv S i i = false := if_pos rfl
      rw [h1, h2, hs]; rfl
    · have h2 : rmv S i n = S n := if_neg (fun q => e q.symm)
      rw [h2]
      have := ih (by omega)
      omega
def hb (q : Nat) : Nat → Nat → Nat
  | 0, _ => 1
  | a + 1, h => q * (h * hb q a (h - 1)) + hb q a h
theorem hb_s (q a : Nat) : ∀ h, hb q a h ≤ hb q a (h + 1) := by
  induction a with
  | zero => intro h; exact Nat.le_refl _
  | succ a ih =>
    intro h
    rw [hb, hb]
    refine Nat.add_le_add (Nat.mul_le_mul_left q (Nat.mul_le_mul (by omega) ?_)) (ih h)
    rw [Nat.add_sub_cancel]
    cases h with
    | zero => exact Nat.le_refl _
    | succ h => rw [Nat.add_sub_cancel]; exact ih h
theorem hb_h (q a : Nat) {h k : Nat} (hk : h ≤ k) : hb q a h ≤ hb q a k := by
  induction k with
  | zero =>
    have : h = 0 := by omega
    subst this; exact Nat.le_refl _
  | succ k ih =>
    by_cases e : h = k + 1
    · subst e; exact Nat.le_refl _
    · exact Nat.le_trans (ih (by omega)) (hb_s q a k)
theorem hb_a (q : Nat) {a b : Nat} (hab : a ≤ b) (h : Nat) : hb q a h ≤ hb q b h := by
  induction b with
  | zero =>
    have : a = 0 := by omega
    subst this; exact Nat.le_refl _
  | succ b ih =>
    by_cases e : a = b + 1
    · subst e; exact Nat.le_refl _
    · exact Nat.le_trans (ih (by omega)) (by rw [hb]; exact Nat.le_add_left _ _)
/-- kinds of columns: 0 one place of 1, 1 a point's, 2 of ones, 3 the last -/
def kd (n c : Nat) : Nat := if c < 2 * n then 0 else if c < 3 * n then 1 else if c < 4 * n then 0 else if c = 4 * n then 2 else 3
def kdOk (n q : Nat) (k : Nat) (v : Nat → Int) : Prop := match k with
  | 0 => ∃ i0, (v i0).natAbs ≤ 1 ∧ ∀ i, i < 2 * n → i ≠ i0 → v i = 0
  | 1 => (∀ i, i < n → (v i).natAbs ≤ q) ∧ ∃ i0, (v i0).natAbs ≤ 1 ∧ ∀ i, n ≤ i → i < 2 * n → i ≠ i0 → v i = 0
  | 2 => ∀ i, i < 2 * n → (v i).natAbs ≤ 1
  | _ => ∀ i, i < 2 * n → (v i).natAbs ≤ 20
def cn (n k : Nat) : List Nat → Nat
  | [] => 0
  | c :: cs => (if kd n c = k then 1 else 0) + cn n k cs
theorem cn_y {n k c : Nat} {cs : List Nat} (h : kd n c = k) : cn n k (c :: cs) = cn n k cs + 1 := by
  rw [cn, if_pos h, Nat.add_comm]
theorem cn_n {n k c : Nat} {cs : List Nat} (h : ¬ kd n c = k) : cn n k (c :: cs) = cn n k cs := by
  rw [cn, if_neg h, Nat.zero_add]
theorem sn_mulR (n k : Nat) (f : Nat → Nat) : sn n (fun i => f i * k) = sn n f * k := by
  induction n with
  | zero => rw [sn, sn, Nat.zero_mul]
  | succ n ih => rw [sn, sn, ih, Nat.add_mul]
theorem ar1 (a1 a2 q h b3 b4 : Nat) : a1 * (a2 * (q * (h * b3) + b4)) = h * (q * (a1 * (a2 * b3))) + a1 * (a2 * b4) := by grind
theorem ar2 (a1 m X : Nat) : a1 * m * X = m * (a1 * X) := by grind
theorem ar3 (a1 a2 m X : Nat) : a1 * (a2 * (40 * m) * X) = 2 * m * (20 * (a1 * (a2 * X))) := by grind
theorem kd_4 (n c : Nat) : kd n c = 0 ∨ kd n c = 1 ∨ kd n c = 2 ∨ kd n c = 3 := by
  unfold kd
  repeat' split
  all_goals simp
/-- how large it can be -/
def bnd (n q : Nat) (cs : List Nat) (h : Nat) : Nat := (2 * n) ^ cn n 2 cs * ((40 * n) ^ cn n 3 cs * hb q (cn n 1 cs) h)
theorem dt_bd (n q : Nat) (A : Nat → Nat → Int) (hA : ∀ c, kdOk n q (kd n c) (A c)) : ∀ (cs : List Nat) (S : Nat → Bool), (dt (2 * n) (cs.map A) S).natAbs ≤ bnd n q cs (wS n S) := by
  intro cs
  induction cs with
  | nil =>
    intro S
    show 1 ≤ (2 * n) ^ 0 * ((40 * n) ^ 0 * hb q 0 _)
    rw [Nat.pow_zero, Nat.pow_zero, hb]
    exact Nat.le_refl _
  | cons c cs ih =>
    intro S
    show (wd (2 * n) (A c) (dt (2 * n) (cs.map A)) S).natAbs ≤ _
    refine Nat.le_trans (wd_abs _ _ _ _) ?_
    have hmono : ∀ i, bnd n q cs (wS n (rmv S i)) ≤ bnd n q cs (wS n S) := fun i => Nat.mul_le_mul_left _ (Nat.mul_le_mul_left _ (hb_h q _ (wS_rmv_le n S i)))
    have hF : ∀ i, (dt (2 * n) (cs.map A) (rmv S i)).natAbs ≤ bnd n q cs (wS n S) := fun i => Nat.le_trans (ih (rmv S i)) (hmono i)
    have h0 := hA c
    rcases kd_4 n c with k | k | k | k
    · rw [k] at h0
      obtain ⟨i0, h1, h2⟩ := h0
      have e : bnd n q (c :: cs) (wS n S) = bnd n q cs (wS n S) := by
        unfold bnd
        rw [cn_n (by rw [k]; decide), cn_n (by rw [k]; decide), cn_n (by rw [k]; decide)]
      rw [e]
      refine Nat.le_trans (sn_le (g := fun i => if i = i0 then bnd n q cs (wS n S) else 0) (fun i hi => ?_)) (sn_one _ _ i0)
      by_cases hs : S i = true
      · rw [if_pos hs]
        by_cases ei : i = i0
        · rw [if_pos ei]
          subst ei
          have := Nat.mul_le_mul h1 (hF i)
          omega
        · rw [if_neg ei, h2 i hi ei]
          simp
      · rw [if_neg hs]; exact Nat.zero_le _
    · rw [k] at h0
      obtain ⟨h1, i0, h2, h3⟩ := h0
      have e : bnd n q (c :: cs) (wS n S) = wS n S * (q * bnd n q cs (wS n S - 1)) + bnd n q cs (wS n S) := by
        unfold bnd
        rw [cn_n (k := 2) (by rw [k]; decide), cn_n (k := 3) (by rw [k]; decide), cn_y k, hb, ar1]
      rw [e]
      refine Nat.le_trans (sn_le (g := fun i => (if i < n then (if S i = true then 1 else 0) * (q * bnd n q cs (wS n S - 1)) else 0) + (if i = i0 then bnd n q cs (wS n S) else 0)) (fun i hi => ?_)) ?_
      · by_cases hs : S i = true
        · rw [if_pos hs, if_pos hs, Nat.one_mul]
          by_cases hin : i < n
          · rw [if_pos hin]
            have hw := wS_rmv hin hs
            have g1 := ih (rmv S i)
            rw [show wS n (rmv S i) = wS n S - 1 by omega] at g1
            have := Nat.mul_le_mul (h1 i hin) g1
            omega
          · rw [if_neg hin]
            by_cases ei : i = i0
            · rw [if_pos ei]
              subst ei
              have := Nat.mul_le_mul h2 (hF i)
              omega
            · rw [if_neg ei, h3 i (by omega) hi ei]
              simp
        · rw [if_neg hs]; exact Nat.zero_le _
      · rw [sn_add, sn_low n (2 * n) (by omega)]
        have g2 : sn n (fun i => (if S i = true then 1 else 0) * (q * bnd n q cs (wS n S - 1))) = wS n S * (q * bnd n q cs (wS n S - 1)) := by
          rw [sn_mulR]
          rfl
        rw [g2]
        exact Nat.add_le_add_left (sn_one _ _ i0) _
    · rw [k] at h0
      have h0 : ∀ i, i < 2 * n → (A c i).natAbs ≤ 1 := h0
      have e : bnd n q (c :: cs) (wS n S) = 2 * n * bnd n q cs (wS n S) := by
        unfold bnd
        rw [cn_n (k := 1) (by rw [k]; decide), cn_n (k := 3) (by rw [k]; decide), cn_y k, Nat.pow_succ, ar2]
      rw [e, show 2 * n * bnd n q cs (wS n S) = sn (2 * n) (fun _ => bnd n q cs (wS n S)) from (sn_const _ _).symm]
      refine sn_le (fun i hi => ?_)
      by_cases hs : S i = true
      · rw [if_pos hs]
        have := Nat.mul_le_mul (h0 i hi) (hF i)
        omega
      · rw [if_neg hs]; exact Nat.zero_le _
    · rw [k] at h0
      have h0 : ∀ i, i < 2 * n → (A c i).natAbs ≤ 20 := h0
      have e : bnd n q (c :: cs) (wS n S) = 2 * n * (20 * bnd n q cs (wS n S)) := by
        unfold bnd
        rw [cn_n (k := 1) (by rw [k]; decide), cn_n (k := 2) (by rw [k]; decide), cn_y k, Nat.pow_succ, ar3]
      rw [e, show 2 * n * (20 * bnd n q cs (wS n S)) = sn (2 * n) (fun _ => 20 * bnd n q cs (wS n S)) from (sn_const _ _).symm]
      refine sn_le (fun i hi => ?_)
      by_cases hs : S i = true
      · rw [if_pos hs]
        exact Nat.mul_le_mul (h0 i hi) (hF i)
      · rw [if_neg hs]; exact Nat.zero_le _
/-! how many of a kind among columns that are apart -/
def ap (cs : List Nat) : Prop := ∀ i j x : Nat, cs[i]? = some x → cs[j]? = some x → i = j
theorem ap_tl {c : Nat} {cs : List Nat} (h : ap (c :: cs)) : ap cs := fun i j x hi hj => by
  have := h (i + 1) (j + 1) x hi hj
  omega
theorem ap_hd {c : Nat} {cs : List Nat} (h : ap (c :: cs)) : c ∉ cs := fun hm => by
  obtain ⟨j, hj⟩ := List.getElem?_of_mem hm
  have := h 0 (j + 1) c rfl hj
  omega
def ct (p : Nat → Bool) : List Nat → Nat
  | [] => 0
  | c :: cs => (if p c = true then 1 else 0) + ct p cs
theorem ct_no {p : Nat → Bool} {cs : List Nat} (h : ∀ c, c ∈ cs → p c = false) : ct p cs = 0 := by
  induction cs with
  | nil => rfl
  | cons c cs ih =>
    rw [ct, ih (fun d hd => h d (List.mem_cons_of_mem _ hd)), h c List.mem_cons_self]; rfl
theorem ct_x {x : Nat} {cs : List Nat} (h : ap cs) : ct (fun c => decide (c = x)) cs ≤ 1 := by
  induction cs with
  | nil => exact Nat.zero_le _
  | cons c cs ih =>
    rw [ct]
    by_cases e : c = x
    · have z : ct (fun c => decide (c = x)) cs = 0 := ct_no (fun d hd => decide_eq_false (fun q => ap_hd h (by rw [e, ← q]; exact hd)))
      rw [z]
      split <;> omega
    · have := ih (ap_tl h)
      simp only [e, decide_false]
      simpa using this
theorem ct_or (p r : Nat → Bool) (s : Nat → Bool) (h : ∀ c, s c = true → p c = true ∨ r c = true) (cs : List Nat) : ct s cs ≤ ct p cs + ct r cs := by
  induction cs with
  | nil => exact Nat.zero_le _
  | cons c cs ih =>
    rw [ct, ct, ct]
    by_cases e : s c = true
    · rcases h c e with z | z
      · rw [if_pos e, if_pos z]; omega
      · rw [if_pos e, if_pos z]; omega
    · rw [if_neg e]; omega
theorem ct_rng (a : Nat) {cs : List Nat} (h : ap cs) : ∀ n, ct (fun c => decide (a ≤ c ∧ c < a + n)) cs ≤ n := by
  intro n
  induction n with
  | zero => exact Nat.le_of_eq (ct_no (fun c _ => decide_eq_false (fun q => by omega)))
  | succ n ih =>
    have h1 := ct_or (fun c => decide (a ≤ c ∧ c < a + n)) (fun c => decide (c = a + n)) (fun c => decide (a ≤ c ∧ c < a + (n + 1))) (fun c hc => by
      simp only [decide_eq_true_eq] at hc ⊢
      omega) cs
    have h2 := ct_x (x := a + n) h
    omega
theorem cn_ct (n k : Nat) (cs : List Nat) : cn n k cs = ct (fun c => decide (kd n c = k)) cs := by
  induction cs with
  | nil => rfl
  | cons c cs ih =>
    rw [cn, ct, ih]
    simp only [decide_eq_true_eq]
theorem ct_le {p r : Nat → Bool} (h : ∀ c, p c = true → r c = true) (cs : List Nat) : ct p cs ≤ ct r cs := by
  induction cs with
  | nil => exact Nat.le_refl _
  | cons c cs ih =>
    rw [ct, ct]
    by_cases e : p c = true
    · rw [if_pos e, if_pos (h c e)]; omega
    · rw [if_neg e]; omega
theorem kd1 (n c : Nat) (h : kd n c = 1) : 2 * n ≤ c ∧ c < 2 * n + n := by
  unfold kd at h
  repeat' split at h
  all_goals first | omega | (exact absurd h (by decide))
theorem kd2 (n c : Nat) (h : kd n c = 2) : c = 4 * n := by
  unfold kd at h
  repeat' split at h
  all_goals first | omega | (exact absurd h (by decide))
theorem kd3 (n c : Nat) (h : kd n c = 3) : 4 * n < c := by
  unfold kd at h
  repeat' split at h
  all_goals first | omega | (exact absurd h (by decide))
theorem cn1_le {n : Nat} {cs : List Nat} (h : ap cs) : cn n 1 cs ≤ n := by
  rw [cn_ct]
  exact Nat.le_trans (ct_le (r := fun c => decide (2 * n ≤ c ∧ c < 2 * n + n)) (fun c hc => by
    simp only [decide_eq_true_eq] at hc ⊢
    exact kd1 n c hc) cs) (ct_rng (2 * n) h n)
theorem cn2_le {n : Nat} {cs : List Nat} (h : ap cs) : cn n 2 cs ≤ 1 := by
  rw [cn_ct]
  exact Nat.le_trans (ct_le (r := fun c => decide (c = 4 * n)) (fun c hc => by
    simp only [decide_eq_true_eq] at hc ⊢
    exact kd2 n c hc) cs) (ct_x h)
theorem cn2_0 {n : Nat} {cs : List Nat} (h : ∀ c, c ∈ cs → c ≠ 4 * n) : cn n 2 cs = 0 := by
  rw [cn_ct]
  exact ct_no (fun c hc => decide_eq_false (fun q => h c hc (kd2 n c q)))
theorem cn3_le {n : Nat} {cs : List Nat} (h : ap cs) (hl : ∀ c, c ∈ cs → c ≤ 4 * n + 1) : cn n 3 cs ≤ 1 := by
  rw [cn_ct]
  have h1 : ct (fun c => decide (kd n c = 3)) cs ≤ ct (fun c => decide (c = 4 * n + 1)) cs := by
    clear h
    induction cs with
    | nil => exact Nat.le_refl _
    | cons c cs ih =>
      have := ih (fun d hd => hl d (List.mem_cons_of_mem _ hd))
      have hc := hl c List.mem_cons_self
      rw [ct, ct]
      by_cases e : kd n c = 3
      · have := kd3 n c e
        rw [if_pos (decide_eq_true e), if_pos (decide_eq_true (show c = 4 * n + 1 by omega))]
        omega
      · rw [if_neg (fun z => e (of_decide_eq_true z))]
        omega
  exact Nat.le_trans h1 (ct_x h)
theorem cn3_0 {n : Nat} {cs : List Nat} (h : ∀ c, c ∈ cs → c ≤ 4 * n) : cn n 3 cs = 0 := by
  rw [cn_ct]
  exact ct_no (fun c hc => decide_eq_false (fun q => by have := kd3 n c q; have := h c hc; omega))

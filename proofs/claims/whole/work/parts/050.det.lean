/-! sums -/
def sm : Nat → (Nat → Int) → Int
  | 0, _ => 0
  | n + 1, f => sm n f + f n
theorem sm_congr {n : Nat} {f g : Nat → Int} (h : ∀ i, i < n → f i = g i) : sm n f = sm n g := by
  induction n with
  | zero => rfl
  | succ n ih => rw [sm, sm, ih (fun i hi => h i (by omega)), h n (by omega)]
theorem sm_zero {n : Nat} {f : Nat → Int} (h : ∀ i, i < n → f i = 0) : sm n f = 0 := by
  induction n with
  | zero => rfl
  | succ n ih => rw [sm, ih (fun i hi => h i (by omega)), h n (by omega)]; rfl
theorem sm_add (n : Nat) (f g : Nat → Int) : sm n (fun i => f i + g i) = sm n f + sm n g := by
  induction n with
  | zero => rfl
  | succ n ih => rw [sm, sm, sm, ih]; omega
theorem sm_mul (n : Nat) (a : Int) (f : Nat → Int) : sm n (fun i => a * f i) = a * sm n f := by
  induction n with
  | zero => simp [sm]
  | succ n ih => rw [sm, sm, ih, Int.mul_add]
theorem sm_neg (n : Nat) (f : Nat → Int) : sm n (fun i => - f i) = - sm n f := by
  induction n with
  | zero => rfl
  | succ n ih => rw [sm, sm, ih]; omega
theorem sm_swap (n k : Nat) (f : Nat → Nat → Int) : sm n (fun i => sm k (fun j => f i j)) = sm k (fun j => sm n (fun i => f i j)) := by
  induction n with
  | zero => rw [sm]; exact (sm_zero (fun _ _ => rfl)).symm
  | succ n ih => rw [sm, ih, ← sm_add]; rfl
theorem sm_one {n j : Nat} (hj : j < n) {f : Nat → Int} (h : ∀ i, i < n → i ≠ j → f i = 0) : sm n f = f j := by
  induction n with
  | zero => omega
  | succ n ih =>
    rw [sm]
    by_cases e : j = n
    · subst e
      rw [sm_zero (fun i hi => h i (by omega) (by omega))]; omega
    · rw [ih (by omega) (fun i hi hn => h i (by omega) hn), h n (by omega) (fun q => e q.symm)]; omega
theorem sm_two {n a b : Nat} (ha : a < n) (hb : b < n) (hab : a ≠ b) {f : Nat → Int} (h : ∀ i, i < n → i ≠ a → i ≠ b → f i = 0) : sm n f = f a + f b := by
  have e : sm n f = sm n (fun i => (if i = a then f a else 0) + (if i = b then f b else 0)) := sm_congr (fun i hi => by
    by_cases e1 : i = a
    · subst e1; simp [hab]
    · by_cases e2 : i = b
      · subst e2; simp [e1]
      · simp [e1, e2, h i hi e1 e2])
  rw [e, sm_add, sm_one ha (fun i _ hn => if_neg hn), sm_one hb (fun i _ hn => if_neg hn)]
  simp
theorem sm_anti (n : Nat) (h : Nat → Nat → Int) (hh : ∀ i j, h i j = - h j i) : sm n (fun i => sm n (fun j => h i j)) = 0 := by
  have e1 := sm_swap n n h
  have e2 : sm n (fun j => sm n (fun i => h i j)) = - sm n (fun i => sm n (fun j => h i j)) := by
    rw [← sm_neg]
    refine sm_congr (fun i _ => ?_)
    rw [← sm_neg]
    exact sm_congr (fun j _ => hh j i)
  omega
/-! determinants: wedges of columns, read at a set of rows -/
def sg (S : Nat → Bool) : Nat → Int
  | 0 => 1
  | i + 1 => if S i = true then - sg S i else sg S i
def rmv (S : Nat → Bool) (i : Nat) : Nat → Bool := fun j => if j = i then false else S j
def wd (m : Nat) (v : Nat → Int) (F : (Nat → Bool) → Int) (S : Nat → Bool) : Int := sm m (fun i => if S i = true then sg S i * v i * F (rmv S i) else 0)
def dt (m : Nat) : List (Nat → Int) → (Nat → Bool) → Int
  | [], _ => 1
  | c :: cs, S => wd m c (dt m cs) S
theorem rmv_comm (S : Nat → Bool) (i j : Nat) : rmv (rmv S i) j = rmv (rmv S j) i := by
  funext k
  simp only [rmv]
  by_cases h1 : k = j <;> by_cases h2 : k = i <;> simp [h1, h2]
theorem sg_rmv_ge (S : Nat → Bool) {i j : Nat} (h : i ≤ j) : sg (rmv S j) i = sg S i := by
  induction i with
  | zero => rfl
  | succ i ih =>
    rw [sg, sg, ih (by omega)]
    have e : rmv S j i = S i := if_neg (by omega)
    rw [e]
theorem sg_rmv_lt (S : Nat → Bool) {i j : Nat} (hi : S i = true) (h : i < j) : sg (rmv S i) j = - sg S j := by
  induction j with
  | zero => omega
  | succ j ih =>
    rw [sg, sg]
    by_cases e : i = j
    · subst e
      have e2 : rmv S i i = false := if_pos rfl
      rw [e2, if_neg (by decide), if_pos hi, sg_rmv_ge S (Nat.le_refl i)]; omega
    · have e2 : rmv S i j = S j := if_neg (fun q => e q.symm)
      rw [e2, ih (by omega)]
      by_cases hs : S j = true
      · rw [if_pos hs, if_pos hs]
      · rw [if_neg hs, if_neg hs]
theorem sg_pair (S : Nat → Bool) {i j : Nat} (hi : S i = true) (hj : S j = true) (hij : i ≠ j) : sg S i * sg (rmv S i) j = - (sg S j * sg (rmv S j) i) := by
  rcases Nat.lt_or_gt_of_ne hij with h | h
  · rw [sg_rmv_lt S hi h, sg_rmv_ge S (Nat.le_of_lt h), Int.mul_neg, Int.mul_comm]
  · rw [sg_rmv_lt S hj h, sg_rmv_ge S (Nat.le_of_lt h), Int.mul_neg, Int.neg_neg, Int.mul_comm]
theorem wd_lin (m : Nat) (a b : Int) (u v : Nat → Int) (F : (Nat → Bool) → Int) (S : Nat → Bool) : wd m (fun i => a * u i + b * v i) F S = a * wd m u F S + b * wd m v F S := by
  unfold wd
  rw [← sm_mul, ← sm_mul, ← sm_add]
  refine sm_congr (fun i _ => ?_)
  by_cases h : S i = true
  · rw [if_pos h, if_pos h, if_pos h]; grind
  · rw [if_neg h, if_neg h, if_neg h]; omega
theorem wd_linR (m : Nat) (a b : Int) (u : Nat → Int) (F G : (Nat → Bool) → Int) (S : Nat → Bool) : wd m u (fun S => a * F S + b * G S) S = a * wd m u F S + b * wd m u G S := by
  unfold wd
  rw [← sm_mul, ← sm_mul, ← sm_add]
  refine sm_congr (fun i _ => ?_)
  by_cases h : S i = true
  · rw [if_pos h, if_pos h, if_pos h]; grind
  · rw [if_neg h, if_neg h, if_neg h]; omega
theorem wd_congr {m : Nat} {u v : Nat → Int} {F G : (Nat → Bool) → Int} (h : ∀ i, i < m → u i = v i) (hF : ∀ S, F S = G S) (S : Nat → Bool) : wd m u F S = wd m v G S := by
  unfold wd
  refine sm_congr (fun i hi => ?_)
  rw [h i hi, hF]
theorem wd_zero {m : Nat} {u : Nat → Int} {F : (Nat → Bool) → Int} (hF : ∀ S, F S = 0) (S : Nat → Bool) : wd m u F S = 0 := by
  unfold wd
  refine sm_zero (fun i hi => ?_)
  rw [hF, Int.mul_zero, ite_self]
theorem wd_self (m : Nat) (v : Nat → Int) (F : (Nat → Bool) → Int) (S : Nat → Bool) : wd m v (wd m v F) S = 0 := by
  have e : wd m v (wd m v F) S = sm m (fun i => sm m (fun j => if S i = true ∧ S j = true ∧ i ≠ j then sg S i * sg (rmv S i) j * (v i * v j * F (rmv (rmv S i) j)) else 0)) := by
    unfold wd
    refine sm_congr (fun i _ => ?_)
    by_cases hi : S i = true
    · rw [if_pos hi, ← sm_mul]
      refine sm_congr (fun j _ => ?_)
      by_cases hij : i = j
      · subst hij
        have e2 : rmv S i i = false := if_pos rfl
        rw [e2, if_neg (by decide), if_neg (fun q => q.2.2 rfl), Int.mul_zero]
      · have e2 : rmv S i j = S j := if_neg (fun q => hij q.symm)
        rw [e2]
        by_cases hj : S j = true
        · rw [if_pos hj, if_pos ⟨hi, hj, hij⟩]; grind
        · rw [if_neg hj, if_neg (fun q => hj q.2.1), Int.mul_zero]
    · rw [if_neg hi]
      exact (sm_zero (fun j _ => if_neg (fun q => hi q.1))).symm
  rw [e]
  refine sm_anti m _ (fun i j => ?_)
  by_cases h : S i = true ∧ S j = true ∧ i ≠ j
  · rw [if_pos h, if_pos ⟨h.2.1, h.1, fun q => h.2.2 q.symm⟩, sg_pair S h.1 h.2.1 h.2.2, rmv_comm S i j]; grind
  · rw [if_neg h, if_neg (fun q => h ⟨q.2.1, q.1, fun z => q.2.2 z.symm⟩)]; rfl
theorem wd_add (m : Nat) (u v : Nat → Int) (F : (Nat → Bool) → Int) (S : Nat → Bool) : wd m (fun i => u i + v i) F S = wd m u F S + wd m v F S := by
  have h := wd_lin m 1 1 u v F S
  simp only [Int.one_mul] at h
  exact h
theorem wd_addR (m : Nat) (u : Nat → Int) (F G : (Nat → Bool) → Int) (S : Nat → Bool) : wd m u (fun S => F S + G S) S = wd m u F S + wd m u G S := by
  have h := wd_linR m 1 1 u F G S
  simp only [Int.one_mul] at h
  exact h
theorem wd_anti (m : Nat) (u v : Nat → Int) (F : (Nat → Bool) → Int) (S : Nat → Bool) : wd m u (wd m v F) S = - wd m v (wd m u F) S := by
  have h0 := wd_self m (fun i => u i + v i) F S
  have e1 : ∀ S, wd m (fun i => u i + v i) F S = wd m u F S + wd m v F S := fun S => wd_add m u v F S
  rw [wd_congr (fun _ _ => rfl) e1, wd_addR, wd_add, wd_add, wd_self, wd_self] at h0
  omega
theorem dt_head (m : Nat) (c : Nat → Int) (cs : List (Nat → Int)) (hc : c ∈ cs) : ∀ S, dt m (c :: cs) S = 0 := by
  induction cs with
  | nil => exact absurd hc List.not_mem_nil
  | cons d ds ih =>
    intro S
    by_cases e : c = d
    · subst e
      exact wd_self m c (dt m ds) S
    · have hc2 : c ∈ ds := by
        rcases List.mem_cons.mp hc with h | h
        · exact absurd h e
        · exact h
      show wd m c (wd m d (dt m ds)) S = 0
      have z : wd m d (wd m c (dt m ds)) S = 0 := wd_zero (fun S => ih hc2 S) S
      rw [wd_anti, z]; rfl
theorem dt_dup (m : Nat) (cs : List (Nat → Int)) {i j : Nat} {c : Nat → Int} (hi : cs[i]? = some c) (hj : cs[j]? = some c) (hij : i < j) : ∀ S, dt m cs S = 0 := by
  induction cs generalizing i j with
  | nil => simp at hi
  | cons d ds ih =>
    intro S
    cases j with
    | zero => omega
    | succ j =>
      rw [List.getElem?_cons_succ] at hj
      cases i with
      | zero =>
        rw [List.getElem?_cons_zero] at hi
        cases hi
        exact dt_head m _ ds (List.mem_of_getElem? hj) S
      | succ i =>
        rw [List.getElem?_cons_succ] at hi
        exact wd_zero (fun S => ih hi hj (by omega) S) S
theorem dt_lin (m : Nat) (a b : Int) (u v : Nat → Int) (cs : List (Nat → Int)) {j : Nat} (hj : j < cs.length) : ∀ S, dt m (cs.set j (fun i => a * u i + b * v i)) S = a * dt m (cs.set j u) S + b * dt m (cs.set j v) S := by
  induction cs generalizing j with
  | nil => exact absurd hj (Nat.not_lt_zero _)
  | cons d ds ih =>
    intro S
    cases j with
    | zero => exact wd_lin m a b u v (dt m ds) S
    | succ j =>
      show wd m d (dt m (ds.set j _)) S = a * wd m d (dt m (ds.set j u)) S + b * wd m d (dt m (ds.set j v)) S
      rw [← wd_linR]
      exact wd_congr (fun _ _ => rfl) (fun S => ih (Nat.lt_of_succ_lt_succ hj) S) S
theorem dt_congr (m : Nat) {u v : Nat → Int} (h : ∀ i, i < m → u i = v i) (cs : List (Nat → Int)) (j : Nat) : ∀ S, dt m (cs.set j u) S = dt m (cs.set j v) S := by
  induction cs generalizing j with
  | nil => intro S; rfl
  | cons d ds ih =>
    intro S
    cases j with
    | zero => exact wd_congr h (fun _ => rfl) S
    | succ j => exact wd_congr (fun _ _ => rfl) (fun S => ih j S) S
theorem dt_mul (m : Nat) (a : Int) (u : Nat → Int) (cs : List (Nat → Int)) {j : Nat} (hj : j < cs.length) (S : Nat → Bool) : dt m (cs.set j (fun i => a * u i)) S = a * dt m (cs.set j u) S := by
  have h := dt_lin m a 0 u u cs hj S
  rw [Int.zero_mul, Int.add_zero] at h
  rw [← h]
  exact dt_congr m (fun i _ => by omega) cs j S
theorem dt_sum (m k : Nat) (g : Nat → Int) (V : Nat → Nat → Int) (cs : List (Nat → Int)) {j : Nat} (hj : j < cs.length) (S : Nat → Bool) : dt m (cs.set j (fun i => sm k (fun r => g r * V r i))) S = sm k (fun r => g r * dt m (cs.set j (V r)) S) := by
  induction k with
  | zero =>
    show dt m (cs.set j (fun _ => 0)) S = 0
    have h := dt_mul m 0 (fun _ => 0) cs hj S
    simp only [Int.zero_mul] at h
    exact h
  | succ k ih =>
    have h := dt_lin m 1 (g k) (fun i => sm k (fun r => g r * V r i)) (V k) cs hj S
    rw [ih, Int.one_mul] at h
    rw [sm, ← h]
    exact dt_congr m (fun i _ => by rw [sm]; omega) cs j S
theorem dt_swap (m : Nat) (x y : Nat → Int) (cs : List (Nat → Int)) {i j : Nat} (hi : i < cs.length) (hj : j < cs.length) (hij : i ≠ j) (S : Nat → Bool) : dt m ((cs.set i x).set j y) S = - dt m ((cs.set i y).set j x) S := by
  have dup : ∀ z : Nat → Int, dt m ((cs.set i z).set j z) S = 0 := fun z => by
    have h1 : ((cs.set i z).set j z)[i]? = some z := by rw [List.getElem?_set_ne (Ne.symm hij), List.getElem?_set_self hi]
    have h2 : ((cs.set i z).set j z)[j]? = some z := by rw [List.getElem?_set_self (by simpa using hj)]
    rcases Nat.lt_or_gt_of_ne hij with h | h
    · exact dt_dup m _ h1 h2 h S
    · exact dt_dup m _ h2 h1 h S
  have l2 : ∀ z u v : Nat → Int, dt m ((cs.set i z).set j (fun k => u k + v k)) S = dt m ((cs.set i z).set j u) S + dt m ((cs.set i z).set j v) S := fun z u v => by
    have h := dt_lin m 1 1 u v (cs.set i z) (j := j) (by simpa using hj) S
    simp only [Int.one_mul] at h
    exact h
  have l1 : ∀ z u v : Nat → Int, dt m ((cs.set i (fun k => u k + v k)).set j z) S = dt m ((cs.set i u).set j z) S + dt m ((cs.set i v).set j z) S := fun z u v => by
    have h := dt_lin m 1 1 u v (cs.set j z) (j := i) (by simpa using hi) S
    simp only [Int.one_mul] at h
    rw [List.set_comm _ _ hij, List.set_comm _ _ hij, List.set_comm _ _ hij]
    exact h
  have h0 := dup (fun k => x k + y k)
  rw [l2, l1, l1, dup, dup] at h0
  omega
/-- the three terms of a turn -/
theorem dt_turn (m : Nat) (B : List (Nat → Int)) (hB : B.length = m) (S : Nat → Bool) (c k : Nat → Int) (b : Nat → Nat → Int) (hb : ∀ r, r < m → B[r]? = some (b r))
    (hc : ∀ i, i < m → dt m B S * c i = sm m (fun r => dt m (B.set r c) S * b r i)) {row r : Nat} (hrow : row < m) (hr : r < m) (hne : r ≠ row) :
    dt m B S * dt m ((B.set row c).set r k) S = dt m (B.set row c) S * dt m (B.set r k) S - dt m (B.set r c) S * dt m (B.set row k) S := by
  have e1 : dt m B S * dt m ((B.set row c).set r k) S = dt m ((B.set r k).set row (fun i => dt m B S * c i)) S := by
    rw [dt_mul m _ c (B.set r k) (by simpa [hB] using hrow), List.set_comm _ _ (Ne.symm hne)]
  have e2 : dt m ((B.set r k).set row (fun i => dt m B S * c i)) S = dt m ((B.set r k).set row (fun i => sm m (fun r => dt m (B.set r c) S * b r i))) S := dt_congr m hc _ _ S
  rw [e1, e2, dt_sum m m _ b (B.set r k) (by simpa [hB] using hrow)]
  rw [sm_two hrow hr (Ne.symm hne)]
  · have f1 : (B.set r k).set row (b row) = B.set r k := by
      apply List.ext_getElem?
      intro q
      by_cases hq : q = row
      · subst hq
        rw [List.getElem?_set_self (by simpa [hB] using hrow), List.getElem?_set_ne hne, hb q hrow]
      · rw [List.getElem?_set_ne (Ne.symm hq)]
    have f2 : dt m ((B.set r k).set row (b r)) S = - dt m (B.set row k) S := by
      have h := dt_swap m k (b r) B (i := r) (j := row) (by omega) (by omega) hne S
      rw [h]
      have g : (B.set r (b r)).set row k = B.set row k := by
        apply List.ext_getElem?
        intro q
        by_cases hq : q = row
        · subst hq
          rw [List.getElem?_set_self (by simpa [hB] using hrow), List.getElem?_set_self (by omega)]
        · rw [List.getElem?_set_ne (Ne.symm hq), List.getElem?_set_ne (Ne.symm hq)]
          by_cases hq2 : q = r
          · subst hq2
            rw [List.getElem?_set_self (by omega), hb q hr]
          · rw [List.getElem?_set_ne (Ne.symm hq2)]
      rw [g]
    rw [f1, f2]; grind
  · intro q hq h1 h2
    have d : dt m ((B.set r k).set row (b q)) S = 0 := by
      have g1 : ((B.set r k).set row (b q))[q]? = some (b q) := by rw [List.getElem?_set_ne (Ne.symm h1), List.getElem?_set_ne (Ne.symm h2), hb q hq]
      have g2 : ((B.set r k).set row (b q))[row]? = some (b q) := by rw [List.getElem?_set_self (by simpa [hB] using hrow)]
      rcases Nat.lt_or_gt_of_ne h1 with h | h
      · exact dt_dup m _ g1 g2 h S
      · exact dt_dup m _ g2 g1 h S
    rw [d, Int.mul_zero]

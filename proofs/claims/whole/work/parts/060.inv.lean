/-! the table's invariant: its cells are determinants -/
def mM (n : Nat) (Q : Nat → Nat → Int) (r k : Nat) : Int := if r < n ∧ k < n then Q r k else if k = n + r then 1 else if r = n + k then -1 else 0
/-- the first table's columns: w, z, y, q -/
def aC (n : Nat) (Q : Nat → Nat → Int) (bA bB : Int) (c i : Nat) : Int := if c < 2 * n then (if i = c then 1 else 0) else if c < 4 * n then - mM n Q i (c - 2 * n) else if c = 4 * n then -1 else if i < n then -bB else bA
def full : Nat → Bool := fun _ => true
def bs (A : Nat → Nat → Int) (m : Nat) (t : Nat → Nat) : List (Nat → Int) := (List.range m).map (fun r => A (t r))
def t1 (t : Nat → Nat) (row col : Nat) : Nat → Nat := fun r => if r = row then col else t r
theorem bs_len (A : Nat → Nat → Int) (m : Nat) (t : Nat → Nat) : (bs A m t).length = m := by
  unfold bs
  rw [List.length_map, List.length_range]
theorem bs_get (A : Nat → Nat → Int) {m r : Nat} (t : Nat → Nat) (h : r < m) : (bs A m t)[r]? = some (A (t r)) := by
  unfold bs
  rw [List.getElem?_map, List.getElem?_range h]
  rfl
theorem bs_set (A : Nat → Nat → Int) {m row : Nat} (t : Nat → Nat) (col : Nat) (h : row < m) : (bs A m t).set row (A col) = bs A m (t1 t row col) := by
  apply List.ext_getElem?
  intro r
  by_cases hr : r < m
  · rw [bs_get A (t1 t row col) hr]
    by_cases e : r = row
    · subst e
      rw [List.getElem?_set_self (by rw [bs_len]; exact h), t1, if_pos rfl]
    · rw [List.getElem?_set_ne (Ne.symm e), bs_get A t hr, t1, if_neg e]
  · rw [List.getElem?_eq_none (by rw [List.length_set, bs_len]; omega), List.getElem?_eq_none (by rw [bs_len]; omega)]
def TI (m : Nat) (A : Nat → Nat → Int) (t : Nat → Nat) (g : Nat → Nat → Int) (s e : Int) : Prop :=
  (e = 1 ∨ e = -1) ∧ 0 < s ∧ s = e * dt m (bs A m t) full ∧ (∀ r c, r < m → c ≤ 2 * m + 1 → g r c = e * dt m ((bs A m t).set r (A c)) full) ∧ ∀ c i, c ≤ 2 * m + 1 → i < m → s * A c i = sm m (fun r => g r c * A (t r) i)
theorem ee_1 {e : Int} (h : e = 1 ∨ e = -1) : e * e = 1 := by
  rcases h with rfl | rfl <;> rfl
/-- the cells behind a turn, in whole numbers -/
def zZ (m : Nat) (A : Nat → Nat → Int) (t : Nat → Nat) (e : Int) (row col : Nat) : Nat → Nat → Int := fun r c => e * dt m ((bs A m (t1 t row col)).set r (A c)) full
theorem TI_z {m : Nat} {A : Nat → Nat → Int} {t : Nat → Nat} {g : Nat → Nat → Int} {s e : Int} (h : TI m A t g s e) {row col : Nat} (hrow : row < m) (hcol : col ≤ 2 * m + 1) {r c : Nat} (hr : r < m) (hc : c ≤ 2 * m + 1) (hne : r ≠ row) : g row col * g r c - g r col * g row c = s * zZ m A t e row col r c := by
  obtain ⟨he, hs, hd, hg, hE⟩ := h
  have hee := ee_1 he
  have hcr : ∀ i, i < m → dt m (bs A m t) full * A col i = sm m (fun r => dt m ((bs A m t).set r (A col)) full * A (t r) i) := fun i hi => by
    have h1 := hE col i hcol hi
    have h2 : sm m (fun r => g r col * A (t r) i) = e * sm m (fun r => dt m ((bs A m t).set r (A col)) full * A (t r) i) := by
      rw [← sm_mul]
      exact sm_congr (fun r hr => by rw [hg r col hr hcol, Int.mul_assoc])
    rw [h2, hd] at h1
    generalize sm m (fun r => dt m ((bs A m t).set r (A col)) full * A (t r) i) = X at h1 ⊢
    generalize dt m (bs A m t) full = D at h1 ⊢
    grind
  have h3 := dt_turn m (bs A m t) (bs_len A m t) full (A col) (A c) (fun r => A (t r)) (fun r hr => bs_get A t hr) hcr hrow hr hne
  rw [hg row col hrow hcol, hg r c hr hc, hg r col hr hcol, hg row c hrow hc, zZ, ← bs_set A t col hrow, hd]
  generalize dt m (bs A m t) full = D at h3 ⊢
  generalize dt m (((bs A m t).set row (A col)).set r (A c)) full = D1 at h3 ⊢
  generalize dt m ((bs A m t).set row (A col)) full = D2 at h3 ⊢
  generalize dt m ((bs A m t).set r (A c)) full = D3 at h3 ⊢
  generalize dt m ((bs A m t).set r (A col)) full = D4 at h3 ⊢
  generalize dt m ((bs A m t).set row (A c)) full = D5 at h3 ⊢
  grind
theorem TI_row {m : Nat} {A : Nat → Nat → Int} {t : Nat → Nat} {g : Nat → Nat → Int} {s e : Int} (h : TI m A t g s e) {row col : Nat} (hrow : row < m) {c : Nat} (hc : c ≤ 2 * m + 1) : zZ m A t e row col row c = g row c := by
  rw [h.2.2.2.1 row c hrow hc, zZ, ← bs_set A t col hrow, List.set_set]
theorem TI_E {m : Nat} {A : Nat → Nat → Int} {t : Nat → Nat} {g : Nat → Nat → Int} {s e : Int} (h : TI m A t g s e) {row col : Nat} (hrow : row < m) (hcol : col ≤ 2 * m + 1) {c i : Nat} (hc : c ≤ 2 * m + 1) (hi : i < m) : g row col * A c i = sm m (fun r => zZ m A t e row col r c * A (t1 t row col r) i) := by
  have hs := h.2.1
  have hE := h.2.2.2.2
  have key : s * sm m (fun r => zZ m A t e row col r c * A (t1 t row col r) i) = s * (g row col * A c i) := by
    rw [← sm_mul]
    have e1 : sm m (fun r => s * (zZ m A t e row col r c * A (t1 t row col r) i)) = sm m (fun r => (g row col * (g r c * A (t r) i) + (- g row c) * (g r col * A (t r) i)) + (if r = row then g row c * (s * A col i) else 0)) := sm_congr (fun r hr => by
      by_cases q : r = row
      · subst q
        rw [if_pos rfl, TI_row h hrow hc, t1, if_pos rfl]
        generalize g r c = x1
        generalize g r col = x2
        generalize A (t r) i = x3
        generalize A col i = x4
        grind
      · have z := TI_z h hrow hcol hr hc q
        rw [if_neg q, t1, if_neg q]
        generalize zZ m A t e row col r c = x1 at z ⊢
        generalize A (t r) i = x3
        generalize g row col = y1 at z ⊢
        generalize g r c = y2 at z ⊢
        generalize g r col = y3 at z ⊢
        generalize g row c = y4 at z ⊢
        grind)
    rw [e1, sm_add, sm_add, sm_mul, sm_mul, ← hE c i hc hi, ← hE col i hcol hi, sm_one hrow (fun r _ q => if_neg q), if_pos rfl]
    generalize A c i = x1
    generalize A col i = x2
    generalize g row col = x3
    generalize g row c = x4
    grind
  exact (Int.eq_of_mul_eq_mul_left (by omega) key).symm
/-- a turn at what is above 0 -/
theorem TI_pos {m : Nat} {A : Nat → Nat → Int} {t : Nat → Nat} {g g2 : Nat → Nat → Int} {s e : Int} (h : TI m A t g s e) {row col : Nat} (hrow : row < m) (hcol : col ≤ 2 * m + 1) (hp : 0 < g row col) (hg2 : ∀ r c, r < m → c ≤ 2 * m + 1 → g2 r c = zZ m A t e row col r c) : TI m A (t1 t row col) g2 (g row col) e := by
  refine ⟨h.1, hp, ?_, fun r c hr hc => hg2 r c hr hc, fun c i hc hi => ?_⟩
  · rw [h.2.2.2.1 row col hrow hcol, bs_set A t col hrow]
  · rw [TI_E h hrow hcol hc hi]
    exact sm_congr (fun r hr => by rw [hg2 r c hr hc])
/-- a turn at what is below 0: all signs change -/
theorem TI_neg {m : Nat} {A : Nat → Nat → Int} {t : Nat → Nat} {g g2 : Nat → Nat → Int} {s e : Int} (h : TI m A t g s e) {row col : Nat} (hrow : row < m) (hcol : col ≤ 2 * m + 1) (hp : g row col < 0) (hg2 : ∀ r c, r < m → c ≤ 2 * m + 1 → g2 r c = - zZ m A t e row col r c) : TI m A (t1 t row col) g2 (- g row col) (-e) := by
  refine ⟨by rcases h.1 with q | q <;> simp [q], by omega, ?_, fun r c hr hc => ?_, fun c i hc hi => ?_⟩
  · rw [h.2.2.2.1 row col hrow hcol, bs_set A t col hrow, Int.neg_mul]
  · rw [hg2 r c hr hc, zZ, Int.neg_mul]
  · rw [Int.neg_mul, TI_E h hrow hcol hc hi, ← sm_neg]
    exact sm_congr (fun r hr => by rw [hg2 r c hr hc, Int.neg_mul])

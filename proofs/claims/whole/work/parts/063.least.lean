/-! the least row, by what stands at q -/
def qle (g : Nat → Nat → Int) (w : Nat → Int) (m r s : Nat) : Prop := g r (2 * m + 1) * w s ≤ g s (2 * m + 1) * w r
theorem qle_tr {g : Nat → Nat → Int} {w : Nat → Int} {m r s u : Nat} (hr : 0 < w r) (hs : 0 < w s) (hu : 0 < w u) (h1 : qle g w m r s) (h2 : qle g w m s u) : qle g w m r u := by
  unfold qle at *
  have a1 := Int.mul_le_mul_of_nonneg_right h1 (Int.le_of_lt hu)
  have a2 := Int.mul_le_mul_of_nonneg_right h2 (Int.le_of_lt hr)
  have e1 : g r (2 * m + 1) * w s * w u = (g r (2 * m + 1) * w u) * w s := by grind
  have e2 : g s (2 * m + 1) * w r * w u = g s (2 * m + 1) * w u * w r := by grind
  have e3 : g u (2 * m + 1) * w s * w r = (g u (2 * m + 1) * w r) * w s := by grind
  rw [e1, e2] at a1
  rw [e3] at a2
  exact Int.le_of_mul_le_mul_right (Int.le_trans a1 a2) hs
theorem ls_t {g : Nat → Nat → Int} {w : Nat → Int} {m r s : Nat} (h : lsB g (w r) (w s) m r s = true) : qle g w m r s := by
  unfold lsB at h
  have h := of_decide_eq_true h
  unfold lsz at h
  unfold qle
  by_cases e : g r (2 * m + 1) * w s - g s (2 * m + 1) * w r = 0
  · omega
  · rw [if_neg e] at h; omega
theorem ls_f {g : Nat → Nat → Int} {w : Nat → Int} {m r s : Nat} (h : ¬ lsB g (w r) (w s) m r s = true) : qle g w m s r := by
  unfold lsB at h
  have h : ¬ lsz g (w r) (w s) m r s < 0 := fun z => h (decide_eq_true z)
  unfold lsz at h
  unfold qle
  by_cases e : g r (2 * m + 1) * w s - g s (2 * m + 1) * w r = 0
  · omega
  · rw [if_neg e] at h; omega
def lrOk (g : Nat → Nat → Int) (w : Nat → Int) (m k : Nat) (b : Option Nat) : Prop := match b with
  | none => ∀ r, r < k → w r ≤ 0
  | some x => x < k ∧ 0 < w x ∧ ∀ r, r < k → 0 < w r → qle g w m x r
theorem lp_ok {g : Nat → Nat → Int} {w : Nat → Int} {m k : Nat} {b : Option Nat} (h : lrOk g w m k b) : lrOk g w m (k + 1) (lp w (fun r s => lsB g (w r) (w s) m r s) k b) := by
  by_cases hw : w k ≤ 0
  · rw [lp_le hw]
    cases b with
    | none =>
      intro r hr
      rcases (show r < k ∨ r = k by omega) with q | q
      · exact h r q
      · rw [q]; exact hw
    | some x =>
      obtain ⟨h1, h2, h3⟩ := h
      exact ⟨by omega, h2, fun r hr hp => by
        rcases (show r < k ∨ r = k by omega) with q | q
        · exact h3 r q hp
        · subst q; omega⟩
  · cases b with
    | none =>
      rw [lp_no hw]
      exact ⟨by omega, by omega, fun r hr hp => by
        rcases (show r < k ∨ r = k by omega) with q | q
        · have := h r q; omega
        · subst q; exact Int.le_refl _⟩
    | some x =>
      obtain ⟨h1, h2, h3⟩ := h
      by_cases hl : lsB g (w k) (w x) m k x = true
      · rw [lp_t (by exact hw) (by exact hl)]
        have hk := ls_t hl
        exact ⟨by omega, by omega, fun r hr hp => by
          rcases (show r < k ∨ r = k by omega) with q | q
          · exact qle_tr (by omega) h2 hp hk (h3 r q hp)
          · subst q; exact Int.le_refl _⟩
      · rw [lp_f (by exact hw) (by exact hl)]
        have hk := ls_f hl
        exact ⟨by omega, h2, fun r hr hp => by
          rcases (show r < k ∨ r = k by omega) with q | q
          · exact h3 r q hp
          · subst q; exact hk⟩
theorem lr_ok {g : Nat → Nat → Int} {w : Nat → Int} {m : Nat} : ∀ (j k : Nat) (b : Option Nat), lrOk g w m k b → lrOk g w m (k + j) (lr w (fun r s => lsB g (w r) (w s) m r s) j k b) := by
  intro j
  induction j with
  | zero => intro k b h; rw [lr]; exact h
  | succ j ih =>
    intro k b h
    rw [lr]
    have := ih (k + 1) _ (lp_ok h)
    rw [show k + (j + 1) = k + 1 + j by omega]
    exact this
theorem lr_s {g : Nat → Nat → Int} {w : Nat → Int} {m : Nat} : lrOk g w m m (lr w (fun r s => lsB g (w r) (w s) m r s) m 0 none) := by
  have h := lr_ok (g := g) (w := w) (m := m) m 0 none (fun r hr => by omega)
  rw [Nat.zero_add] at h
  exact h
/-- what stands at q stays at or above 0 -/
theorem q_keep {g : Nat → Nat → Int} {m row col r : Nat} {s Z : Int} (hs : 0 < s) (hp : 0 < g row col) (hq : ∀ x, x < m → 0 ≤ g x (2 * m + 1)) (hrow : row < m) (hr : r < m) (hmin : ∀ x, x < m → 0 < g x col → qle g (fun x => g x col) m row x) (hZ : g row col * g r (2 * m + 1) - g r col * g row (2 * m + 1) = s * Z) : 0 ≤ Z := by
  have h1 : 0 ≤ s * Z := by
    rw [← hZ]
    by_cases h : 0 < g r col
    · have h2 := hmin r hr h
      unfold qle at h2
      have h2 : g row (2 * m + 1) * g r col ≤ g r (2 * m + 1) * g row col := h2
      have e1 : g row (2 * m + 1) * g r col = g r col * g row (2 * m + 1) := Int.mul_comm _ _
      have e2 : g r (2 * m + 1) * g row col = g row col * g r (2 * m + 1) := Int.mul_comm _ _
      omega
    · have a1 := Int.mul_nonneg (Int.le_of_lt hp) (hq r hr)
      have a2 := Int.mul_nonneg (show 0 ≤ - g r col by omega) (hq row hrow)
      rw [Int.neg_mul] at a2
      omega
  exact Int.nonneg_of_mul_nonneg_right h1 hs

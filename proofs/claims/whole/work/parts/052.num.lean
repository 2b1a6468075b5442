theorem mcross (a b c d : Int64) (ypt : Int32) (ydg : Int32) (ybA : Int32) (ybB : Int32) (ypx : Nat → Int32) (ypy : Nat → Int32) (ylb : Nat → Int32) (ybg : Int32) (ydn : Int32) (yry : Int32) (yrw : Int32) (ytb : Nat → Int64) (ybl : Int64) (ytl : Nat → Int32) (yst : Int32) (yen : Nat → Int32) (ylf : Nat → Int32) (yla : Nat → Int32) (yhi : Int64) (ylo : Int64) : f_X4_cross a b c d (ypt, ydg, ybA, ybB, ypx, ypy, ylb, ybg, ydn, yry, yrw, ytb, ybl, ytl, yst, yen, ylf, yla, yhi, ylo) = some (ypt, ydg, ybA, ybB, ypx, ypy, ylb, ybg, ydn, yry, yrw, ytb, ybl, ytl, yst, yen, ylf, yla, hiX a b c d, a * b - c * d) := by
  have h1 := mn_toInt (a * b)
  have h2 := mn_toInt (c * d)
  have hx := hiX_of a b c d
  have e1 := mprod a b ypt ydg ybA ybB ypx ypy ylb ybg ydn yry yrw ytb ybl ytl yst yen ylf yla yhi ylo
  have e2 := mprod c d ypt ydg ybA ybB ypx ypy ylb ybg ydn yry yrw ytb ybl ytl yst yen ylf yla (hiM a b) (a * b)
  unfold f_X4_cross
  generalize hiX a b c d = HX at hx ⊢
  generalize hiM a b = H1 at hx e1 e2
  generalize hiM c d = H2 at hx e2
  generalize a * b = Q1 at h1 hx e1 e2 ⊢
  generalize c * d = Q2 at h2 hx e2 ⊢
  generalize f_X4_product = PF at e1 e2 ⊢
  have key : 0 ≤ lg_cmp (Q1 + (-9223372036854775808 : Int64)) (Q2 + (-9223372036854775808 : Int64)) ↔ uN Q2 ≤ uN Q1 := by
    rw [lc_ge, Int64.le_iff_toInt_le, h1, h2]; omega
  have z1 : ¬ (1 : Int32) = 0 := by decide
  have g1 : m_hi ((ypt, ydg, ybA, ybB, ypx, ypy, ylb, ybg, ydn, yry, yrw, ytb, ybl, ytl, yst, yen, ylf, yla, H1, Q1) : MS) = H1 := rfl
  have g2 : m_lo ((ypt, ydg, ybA, ybB, ypx, ypy, ylb, ybg, ydn, yry, yrw, ytb, ybl, ytl, yst, yen, ylf, yla, H1, Q1) : MS) = Q1 := rfl
  have g3 : m_hi ((ypt, ydg, ybA, ybB, ypx, ypy, ylb, ybg, ydn, yry, yrw, ytb, ybl, ytl, yst, yen, ylf, yla, H2, Q2) : MS) = H2 := rfl
  have g4 : m_lo ((ypt, ydg, ybA, ybB, ypx, ypy, ylb, ybg, ydn, yry, yrw, ytb, ybl, ytl, yst, yen, ylf, yla, H2, Q2) : MS) = Q2 := rfl
  have g5 : ∀ v w : Int64, n_lo (n_hi ((ypt, ydg, ybA, ybB, ypx, ypy, ylb, ybg, ydn, yry, yrw, ytb, ybl, ytl, yst, yen, ylf, yla, H2, Q2) : MS) v) w = (ypt, ydg, ybA, ybB, ypx, ypy, ylb, ybg, ydn, yry, yrw, ytb, ybl, ytl, yst, yen, ylf, yla, v, w) := fun v w => rfl
  rw [e1, Option.bind_some, lt_d, lt_d, g1, g2, e2, Option.bind_some, lt_d, g3, g4]
  by_cases q : uN Q2 ≤ uN Q1
  · rw [if_pos (key.mpr q), if_pos rfl, lt_d, lt_d, g5, hx, if_pos q]
  · rw [if_neg (fun z => q (key.mp z)), if_neg z1, lt_d, lt_d, g5, hx, if_neg q]
theorem mcrS (a b c d : Int64) (ypt : Int32) (ydg : Int32) (ybA : Int32) (ybB : Int32) (ypx : Nat → Int32) (ypy : Nat → Int32) (ylb : Nat → Int32) (ybg : Int32) (ydn : Int32) (yry : Int32) (yrw : Int32) (ytb : Nat → Int64) (ybl : Int64) (ytl : Nat → Int32) (yst : Int32) (yen : Nat → Int32) (ylf : Nat → Int32) (yla : Nat → Int32) (yhi : Int64) (ylo : Int64) : f_X4_signOfCross a b c d (ypt, ydg, ybA, ybB, ypx, ypy, ylb, ybg, ydn, yry, yrw, ytb, ybl, ytl, yst, yen, ylf, yla, yhi, ylo) = some (sgI (a.toInt * b.toInt - c.toInt * d.toInt), (ypt, ydg, ybA, ybB, ypx, ypy, ylb, ybg, ydn, yry, yrw, ytb, ybl, ytl, yst, yen, ylf, yla, hiX a b c d, a * b - c * d)) := by
  have h := hiX_toInt a b c d
  have h1 := uN_mulI a b
  have h2 := uN_mulI c d
  have e1 := mcross a b c d ypt ydg ybA ybB ypx ypy ylb ybg ydn yry yrw ytb ybl ytl yst yen ylf yla yhi ylo
  unfold f_X4_signOfCross
  generalize hiX a b c d = HX at h e1 ⊢
  generalize a * b = Q1 at h1 e1 ⊢
  generalize c * d = Q2 at h2 e1 ⊢
  generalize a.toInt * b.toInt = PP at h h1 ⊢
  generalize c.toInt * d.toInt = RR at h h2 ⊢
  have h0 : (0 : Int64).toInt = 0 := rfl
  have g1 := lc_ge HX 0
  have g2 := lc_gt HX 0
  rw [Int64.le_iff_toInt_le, h, h0] at g1
  rw [Int64.lt_iff_toInt_lt, h, h0] at g2
  have eq : lg_cmp (Q1 - Q2) (0 : Int64) = 0 ↔ Q1 = Q2 := by
    rw [lc_eq]
    constructor
    · intro z; have := congrArg (· + Q2) z; simpa using this
    · intro z; rw [z]; simp
  rw [e1]
  simp only [Option.bind_some, m_hi, m_lo]
  by_cases n : 0 ≤ lg_cmp HX (0 : Int64)
  · have n' := g1.mp n
    by_cases p : 0 < lg_cmp HX (0 : Int64)
    · have p' := g2.mp p
      simp only [n, p, if_true]
      have e : sgI (PP - RR) = 1 := by unfold sgI; rw [if_neg (by omega), if_neg (by omega)]
      rw [e]
    · have p' : ¬ 0 < (PP - RR) / 18446744073709551616 := fun z => p (g2.mpr z)
      by_cases q : Q1 = Q2
      · have q2 := eq.mpr q
        simp only [n, p, q2, if_true, if_false]
        subst q
        have e : sgI (PP - RR) = 0 := by unfold sgI; rw [if_neg (by omega), if_pos (by omega)]
        rw [e]
      · have q2 : ¬ lg_cmp (Q1 - Q2) (0 : Int64) = 0 := fun z => q (eq.mp z)
        simp only [n, p, q2, if_true, if_false]
        have q3 : uN Q1 ≠ uN Q2 := fun z => q (uN_inj z)
        have e : sgI (PP - RR) = 1 := by unfold sgI; rw [if_neg (by omega), if_neg (by omega)]
        rw [e]
  · have n' : ¬ 0 ≤ (PP - RR) / 18446744073709551616 := fun z => n (g1.mpr z)
    simp only [n, if_false]
    have e : sgI (PP - RR) = -1 := by unfold sgI; rw [if_pos (by omega)]
    rw [e]

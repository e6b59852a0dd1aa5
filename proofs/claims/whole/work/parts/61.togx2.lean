theorem x_goT {μ : Mu} {P : Pl} {c a b : Nat} {f : Nat → Int32} (h : SR μ 11 f) (g : GP P c f) (ha : tT f a = true) (hb : tT f b = true) : m_X0_goTogether SH 11 (nI a) (nI b) μ = some (bI (gE f a b), μ) := by
  have hsz := g.sz
  obtain ⟨a1, a2⟩ := tT_in ha
  obtain ⟨b1, b2⟩ := tT_in hb
  obtain ⟨ta, ta3⟩ := g.tn a1
  obtain ⟨tb, tb3⟩ := g.tn b1
  have sa := h.2.2.2.2.2.2.1 a a1
  have sb := h.2.2.2.2.2.2.1 b b1
  have pa := h.1.tpi (i := a) (by omega)
  have pb := h.1.tpi (i := b) (by omega)
  have k4 : gI μ 11 4 = nI (szF f) := by rw [h.2.2.2.2.1]; exact hsz.1
  have hs1 := x_hasStrip h.1 k4 hsz.2 (nI a)
  have hs2 := x_hasStrip h.1 k4 hsz.2 (nI b)
  rw [isIn_nI a1 (by omega)] at hs1
  rw [isIn_nI b1 (by omega)] at hs2
  have x1 := h.1.ix1 (i := a) (by omega)
  have x2 := h.1.ix1 (i := b) (by omega)
  rw [show 11 + 1 = 12 from rfl] at x1 x2 pa pb sa sb
  have g5 : gR μ 11 5 = 12 := h.1.2.1
  have za := pa.iz
  have zb := pb.iz
  have ca := sa.2.1
  have cb := sb.2.1
  rw [ta] at ca
  rw [tb] at cb
  unfold gE
  by_cases e : tnN f a = tnN f b
  · have q : (nI (tnN f a) = nI (tnN f b)) = True := eq_true (by rw [e])
    have c1 := x_cell (l := tnN f a - 1) (w := 2) pa (by omega) (by decide)
    have c2 := x_cell (l := tnN f b) (w := 2) pb (by omega) (by decide)
    rw [sa.2.2.2 _ (by omega)] at c1
    rw [sb.2.2.2 _ (by omega)] at c2
    rw [← pk_sub (show 1 ≤ tnN f a by omega)] at c1
    rw [decide_eq_true e, Bool.true_and]
    have hat := x_hat (x := cI f a (tnN f a - 1) 2) (y := cI f b (tnN f b) 2) (μ := μ)
    have c1' : m_X5_cell SH (gR μ 12 a) (nI (tnN f a) - 1) 2 μ = some (cI f a (tnN f a - 1) 2, μ) := c1
    have c2' : m_X5_cell SH (gR μ 12 b) (nI (tnN f b)) 2 μ = some (cI f b (tnN f b) 2, μ) := c2
    cases hh : hOK (cI f a (tnN f a - 1) 2) (cI f b (tnN f b) 2) with
    | false =>
      rw [hh] at hat
      simp only [bd_n, gd_n, ca2_n, ca_n, nbtF, pbfT, Bool.not_true, Bool.not_false, if_true, if_false, m_X0_goTogether, iz411, hs1, hs2, g5, x1, x2, nI_clamp (show a < 2 ^ 31 by omega), nI_clamp (show b < 2 ^ 31 by omega), za, zb, ca, cb, q, c1', c2', hat]
      rfl
    | true =>
      rw [hh] at hat
      simp only [bd_n, gd_n, ca2_n, ca_n, nbtF, pbfT, Bool.not_true, Bool.not_false, if_true, if_false, m_X0_goTogether, iz411, hs1, hs2, g5, x1, x2, nI_clamp (show a < 2 ^ 31 by omega), nI_clamp (show b < 2 ^ 31 by omega), za, zb, ca, cb, q, c1', c2', hat]
      rfl
  · have q : (nI (tnN f a) = nI (tnN f b)) = False := eq_false (fun z => e ((nI_eq (by omega) (by omega)).mp z))
    rw [decide_eq_false e, Bool.false_and]
    simp only [bd_n, gd_n, ca2_n, ca_n, nbtF, pbfT, Bool.not_true, Bool.not_false, if_true, if_false, m_X0_goTogether, iz411, hs1, hs2, g5, x1, x2, nI_clamp (show a < 2 ^ 31 by omega), nI_clamp (show b < 2 ^ 31 by omega), za, zb, ca, cb, q]
    rfl

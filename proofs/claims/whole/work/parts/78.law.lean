/-! the law: every call, and all of them -/
theorem lg_self (x : Int64) : (lg_cmp x x = 0) = True := by
  refine eq_true ?_
  unfold lg_cmp
  rw [if_neg (Int64.lt_irrefl), if_pos rfl]
theorem law_loop {L : Nat} {xs : Nat → Int32} (hL : L ≤ 2560) : ∀ (d i F : Nat) (μ : Mu) (σ : Sg), i + d = L / 5 → d < F → InvX μ σ → InvM μ σ → Good σ i → m_L_law_h18 L xs 1 414 F (nI (5 * i)) 431 431 8505 SH μ = some 1 := by
  have rb : roomB 431 600000 8505 7302250 = true := rfl
  have ee : eq1 431 431 = true := rfl
  intro d
  induction d with
  | zero =>
    intro i F μ σ hi hF iX iM g
    obtain ⟨F, rfl⟩ : ∃ g, F = g + 1 := ⟨F - 1, by omega⟩
    show m_L_law_b18 L xs (m_L_law_h18 L xs 1 414 F) 1 414 (nI (5 * i)) 431 431 8505 SH μ = _
    have h : nI L - 5 < nI (5 * i) := by
      rw [fa_lt, show (5 : Int32) = nI 5 from rfl, pk_sub_toInt (by omega) (by decide), nI_toInt (by omega)]
      omega
    unfold m_L_law_b18
    rw [if_pos h, ee, gd_n, rb, gd_n]
  | succ d ih =>
    intro i F μ σ hi hF iX iM g
    obtain ⟨F, rfl⟩ : ∃ g, F = g + 1 := ⟨F - 1, by omega⟩
    have hc : i < 512 := by omega
    have h : ¬ nI L - 5 < nI (5 * i) := by
      rw [fa_lt, show (5 : Int32) = nI 5 from rfl, pk_sub_toInt (by omega) (by decide), nI_toInt (by omega)]
      omega
    have x0 : ixn L (nI (5 * i)) = true := ixn_of (by omega) (by omega)
    have x1 : ixn L (nI (5 * i + 1)) = true := ixn_of (by omega) (by omega)
    have x2 : ixn L (nI (5 * i + 2)) = true := ixn_of (by omega) (by omega)
    have x3 : ixn L (nI (5 * i + 3)) = true := ixn_of (by omega) (by omega)
    have x4 : ixn L (nI (5 * i + 4)) = true := ixn_of (by omega) (by omega)
    have a1 : nI (5 * i) + 1 = nI (5 * i + 1) := nI_add _ 1
    have a2 : nI (5 * i) + 2 = nI (5 * i + 2) := nI_add _ 2
    have a3 : nI (5 * i) + 3 = nI (5 * i + 3) := nI_add _ 3
    have a4 : nI (5 * i) + 4 = nI (5 * i + 4) := nI_add _ 4
    have a5 : nI (5 * i) + 5 = nI (5 * (i + 1)) := by
      have := nI_add (5 * i) 5
      rw [show 5 * i + 5 = 5 * (i + 1) by omega] at this
      exact this
    have c0 : (nI (5 * i)).toNatClampNeg = 5 * i := nI_clamp (by omega)
    have c1 : (nI (5 * i + 1)).toNatClampNeg = 5 * i + 1 := nI_clamp (by omega)
    have c2 : (nI (5 * i + 2)).toNatClampNeg = 5 * i + 2 := nI_clamp (by omega)
    have c3 : (nI (5 * i + 3)).toNatClampNeg = 5 * i + 3 := nI_clamp (by omega)
    have c4 : (nI (5 * i + 4)).toNatClampNeg = 5 * i + 4 := nI_clamp (by omega)
    have cont : ∀ μ2 σ2, InvX μ2 σ2 → InvM μ2 σ2 → Good σ2 (i + 1) → m_L_law_b1069 L xs (m_L_law_h18 L xs 1 414 F) 1 414 (nI (5 * i)) 431 431 8505 SH μ2 = some 1 := fun μ2 σ2 k1 k2 k3 => by
      simp only [bd_n, gd_n, ca2_n, ca_n, nbtF, pbfT, Bool.not_true, Bool.not_false, if_true, if_false, m_L_law_b1069, a5]
      exact ih (i + 1) F μ2 σ2 (by omega) (by omega) k1 k2 k3
    have goI : ∀ X M, OpI X M → ∃ r μ1 μ2, X μ = some (r, μ1) ∧ M μ1 = some (r, μ2) ∧ m_L_law_b1069 L xs (m_L_law_h18 L xs 1 414 F) 1 414 (nI (5 * i)) 431 431 8505 SH μ2 = some 1 := fun X M h => by
      obtain ⟨r, μ1, μ2, σ', k1, k2, k3, k4, k5⟩ := h μ σ i iX iM g hc
      exact ⟨r, μ1, μ2, k1, k2, cont μ2 σ' k3 k4 k5⟩
    have goJ : ∀ X M, OpJ X M → ∃ r μ1 μ2, X μ = some (r, μ1) ∧ M μ1 = some (r, μ2) ∧ m_L_law_b1069 L xs (m_L_law_h18 L xs 1 414 F) 1 414 (nI (5 * i)) 431 431 8505 SH μ2 = some 1 := fun X M h => by
      obtain ⟨r, μ1, μ2, σ', k1, k2, k3, k4, k5⟩ := h μ σ i iX iM g hc
      exact ⟨r, μ1, μ2, k1, k2, cont μ2 σ' k3 k4 k5⟩
    show m_L_law_b18 L xs (m_L_law_h18 L xs 1 414 F) 1 414 (nI (5 * i)) 431 431 8505 SH μ = _
    unfold m_L_law_b18
    rw [if_neg h, x0, gd_n, bd_n, bd_n, c0]
    generalize xs (5 * i) &&& 31 = w
    by_cases w0 : w = 0
    · rw [if_pos w0]
      obtain ⟨r, μ1, μ2, e1, e2, e3⟩ := goI _ _ (op_write (xs (5 * i + 1)))
      simp only [bd_n, gd_n, ca2_n, ca_n, nbtF, pbfT, Bool.not_true, Bool.not_false, if_true, if_false, a1, a2, a3, a4, x1, x2, x3, x4, c1, c2, c3, c4, iz6, iz7, rb, e1, e2, e3, eq_self]
    rw [if_neg w0]
    by_cases w1 : w = 1
    · rw [if_pos w1]
      obtain ⟨r, μ1, μ2, e1, e2, e3⟩ := goI _ _ (op_wipe)
      simp only [bd_n, gd_n, ca2_n, ca_n, nbtF, pbfT, Bool.not_true, Bool.not_false, if_true, if_false, a1, a2, a3, a4, x1, x2, x3, x4, c1, c2, c3, c4, iz6, iz7, rb, e1, e2, e3, eq_self]
    rw [if_neg w1]
    by_cases w2 : w = 2
    · rw [if_pos w2]
      obtain ⟨r, μ1, μ2, e1, e2, e3⟩ := goI _ _ (op_fault)
      simp only [bd_n, gd_n, ca2_n, ca_n, nbtF, pbfT, Bool.not_true, Bool.not_false, if_true, if_false, a1, a2, a3, a4, x1, x2, x3, x4, c1, c2, c3, c4, iz6, iz7, rb, e1, e2, e3, eq_self]
    rw [if_neg w2]
    by_cases w3 : w = 3
    · rw [if_pos w3]
      obtain ⟨r, μ1, μ2, e1, e2, e3⟩ := goI _ _ (op_fair)
      simp only [bd_n, gd_n, ca2_n, ca_n, nbtF, pbfT, Bool.not_true, Bool.not_false, if_true, if_false, a1, a2, a3, a4, x1, x2, x3, x4, c1, c2, c3, c4, iz6, iz7, rb, e1, e2, e3, eq_self]
    rw [if_neg w3]
    by_cases w4 : w = 4
    · rw [if_pos w4]
      obtain ⟨r, μ1, μ2, e1, e2, e3⟩ := goI _ _ (op_about (xs (5 * i + 1)))
      simp only [bd_n, gd_n, ca2_n, ca_n, nbtF, pbfT, Bool.not_true, Bool.not_false, if_true, if_false, a1, a2, a3, a4, x1, x2, x3, x4, c1, c2, c3, c4, iz6, iz7, rb, e1, e2, e3, eq_self]
    rw [if_neg w4]
    by_cases w5 : w = 5
    · rw [if_pos w5]
      obtain ⟨r, μ1, μ2, e1, e2, e3⟩ := goI _ _ (op_booth (xs (5 * i + 1)) (xs (5 * i + 2)))
      simp only [bd_n, gd_n, ca2_n, ca_n, nbtF, pbfT, Bool.not_true, Bool.not_false, if_true, if_false, a1, a2, a3, a4, x1, x2, x3, x4, c1, c2, c3, c4, iz6, iz7, rb, e1, e2, e3, eq_self]
    rw [if_neg w5]
    by_cases w6 : w = 6
    · rw [if_pos w6]
      obtain ⟨r, μ1, μ2, e1, e2, e3⟩ := goI _ _ (op_person (xs (5 * i + 1)) (xs (5 * i + 2)))
      simp only [bd_n, gd_n, ca2_n, ca_n, nbtF, pbfT, Bool.not_true, Bool.not_false, if_true, if_false, a1, a2, a3, a4, x1, x2, x3, x4, c1, c2, c3, c4, iz6, iz7, rb, e1, e2, e3, eq_self]
    rw [if_neg w6]
    by_cases w7 : w = 7
    · rw [if_pos w7]
      obtain ⟨r, μ1, μ2, e1, e2, e3⟩ := goI _ _ (op_strip (xs (5 * i + 1)) (xs (5 * i + 2)))
      simp only [bd_n, gd_n, ca2_n, ca_n, nbtF, pbfT, Bool.not_true, Bool.not_false, if_true, if_false, a1, a2, a3, a4, x1, x2, x3, x4, c1, c2, c3, c4, iz6, iz7, rb, e1, e2, e3, eq_self]
    rw [if_neg w7]
    by_cases w8 : w = 8
    · rw [if_pos w8]
      obtain ⟨r, μ1, μ2, e1, e2, e3⟩ := goI _ _ (op_look (xs (5 * i + 1)) (xs (5 * i + 2)) (xs (5 * i + 3)))
      simp only [bd_n, gd_n, ca2_n, ca_n, nbtF, pbfT, Bool.not_true, Bool.not_false, if_true, if_false, a1, a2, a3, a4, x1, x2, x3, x4, c1, c2, c3, c4, iz6, iz7, rb, e1, e2, e3, eq_self]
    rw [if_neg w8]
    by_cases w9 : w = 9
    · rw [if_pos w9]
      obtain ⟨r, μ1, μ2, e1, e2, e3⟩ := goJ _ _ (op_seed (((xs (5 * i + 1)).toInt64 <<< ((32 : Int32).toInt64 &&& 63)) ||| ((xs (5 * i + 2)).toInt64 &&& 4294967295)))
      simp only [bd_n, gd_n, ca2_n, ca_n, nbtF, pbfT, Bool.not_true, Bool.not_false, if_true, if_false, a1, a2, a3, a4, x1, x2, x3, x4, c1, c2, c3, c4, iz6, iz7, rb, e1, e2, e3, lg_self]
    rw [if_neg w9]
    by_cases w10 : w = 10
    · rw [if_pos w10]
      obtain ⟨r, μ1, μ2, e1, e2, e3⟩ := goI _ _ (op_enter (xs (5 * i + 1)) (xs (5 * i + 2)))
      simp only [bd_n, gd_n, ca2_n, ca_n, nbtF, pbfT, Bool.not_true, Bool.not_false, if_true, if_false, a1, a2, a3, a4, x1, x2, x3, x4, c1, c2, c3, c4, iz6, iz7, rb, e1, e2, e3, eq_self]
    rw [if_neg w10]
    by_cases w11 : w = 11
    · rw [if_pos w11]
      obtain ⟨r, μ1, μ2, e1, e2, e3⟩ := goI _ _ (op_leave (xs (5 * i + 1)))
      simp only [bd_n, gd_n, ca2_n, ca_n, nbtF, pbfT, Bool.not_true, Bool.not_false, if_true, if_false, a1, a2, a3, a4, x1, x2, x3, x4, c1, c2, c3, c4, iz6, iz7, rb, e1, e2, e3, eq_self]
    rw [if_neg w11]
    by_cases w12 : w = 12
    · rw [if_pos w12]
      obtain ⟨r, μ1, μ2, e1, e2, e3⟩ := goI _ _ (op_hat (xs (5 * i + 1)))
      simp only [bd_n, gd_n, ca2_n, ca_n, nbtF, pbfT, Bool.not_true, Bool.not_false, if_true, if_false, a1, a2, a3, a4, x1, x2, x3, x4, c1, c2, c3, c4, iz6, iz7, rb, e1, e2, e3, eq_self]
    rw [if_neg w12]
    by_cases w13 : w = 13
    · rw [if_pos w13]
      obtain ⟨r, μ1, μ2, e1, e2, e3⟩ := goI _ _ (op_minute)
      simp only [bd_n, gd_n, ca2_n, ca_n, nbtF, pbfT, Bool.not_true, Bool.not_false, if_true, if_false, a1, a2, a3, a4, x1, x2, x3, x4, c1, c2, c3, c4, iz6, iz7, rb, e1, e2, e3, eq_self]
    rw [if_neg w13]
    by_cases w14 : w = 14
    · rw [if_pos w14]
      obtain ⟨r, μ1, μ2, e1, e2, e3⟩ := goI _ _ (op_stuck)
      simp only [bd_n, gd_n, ca2_n, ca_n, nbtF, pbfT, Bool.not_true, Bool.not_false, if_true, if_false, a1, a2, a3, a4, x1, x2, x3, x4, c1, c2, c3, c4, iz6, iz7, rb, e1, e2, e3, eq_self]
    rw [if_neg w14]
    by_cases w15 : w = 15
    · rw [if_pos w15]
      obtain ⟨r, μ1, μ2, e1, e2, e3⟩ := goI _ _ (op_tear (xs (5 * i + 1)) (xs (5 * i + 2)))
      simp only [bd_n, gd_n, ca2_n, ca_n, nbtF, pbfT, Bool.not_true, Bool.not_false, if_true, if_false, a1, a2, a3, a4, x1, x2, x3, x4, c1, c2, c3, c4, iz6, iz7, rb, e1, e2, e3, eq_self]
    rw [if_neg w15]
    by_cases w16 : w = 16
    · rw [if_pos w16]
      obtain ⟨r, μ1, μ2, e1, e2, e3⟩ := goI _ _ (op_day)
      simp only [bd_n, gd_n, ca2_n, ca_n, nbtF, pbfT, Bool.not_true, Bool.not_false, if_true, if_false, a1, a2, a3, a4, x1, x2, x3, x4, c1, c2, c3, c4, iz6, iz7, rb, e1, e2, e3, eq_self]
    rw [if_neg w16]
    by_cases w17 : w = 17
    · rw [if_pos w17]
      obtain ⟨r, μ1, μ2, e1, e2, e3⟩ := goI _ _ (op_undo)
      simp only [bd_n, gd_n, ca2_n, ca_n, nbtF, pbfT, Bool.not_true, Bool.not_false, if_true, if_false, a1, a2, a3, a4, x1, x2, x3, x4, c1, c2, c3, c4, iz6, iz7, rb, e1, e2, e3, eq_self]
    rw [if_neg w17]
    by_cases w18 : w = 18
    · rw [if_pos w18]
      obtain ⟨r, μ1, μ2, e1, e2, e3⟩ := goI _ _ (op_found (xs (5 * i + 1)) (xs (5 * i + 2)) (xs (5 * i + 3)))
      simp only [bd_n, gd_n, ca2_n, ca_n, nbtF, pbfT, Bool.not_true, Bool.not_false, if_true, if_false, a1, a2, a3, a4, x1, x2, x3, x4, c1, c2, c3, c4, iz6, iz7, rb, e1, e2, e3, eq_self]
    rw [if_neg w18]
    by_cases w19 : w = 19
    · rw [if_pos w19]
      obtain ⟨r, μ1, μ2, e1, e2, e3⟩ := goI _ _ (op_together (xs (5 * i + 1)))
      simp only [bd_n, gd_n, ca2_n, ca_n, nbtF, pbfT, Bool.not_true, Bool.not_false, if_true, if_false, a1, a2, a3, a4, x1, x2, x3, x4, c1, c2, c3, c4, iz6, iz7, rb, e1, e2, e3, eq_self]
    rw [if_neg w19]
    by_cases w20 : w = 20
    · rw [if_pos w20]
      obtain ⟨r, μ1, μ2, e1, e2, e3⟩ := goI _ _ (op_orders)
      simp only [bd_n, gd_n, ca2_n, ca_n, nbtF, pbfT, Bool.not_true, Bool.not_false, if_true, if_false, a1, a2, a3, a4, x1, x2, x3, x4, c1, c2, c3, c4, iz6, iz7, rb, e1, e2, e3, eq_self]
    rw [if_neg w20]
    by_cases w21 : w = 21
    · rw [if_pos w21]
      obtain ⟨r, μ1, μ2, e1, e2, e3⟩ := goI _ _ (op_orderAt (xs (5 * i + 1)))
      simp only [bd_n, gd_n, ca2_n, ca_n, nbtF, pbfT, Bool.not_true, Bool.not_false, if_true, if_false, a1, a2, a3, a4, x1, x2, x3, x4, c1, c2, c3, c4, iz6, iz7, rb, e1, e2, e3, eq_self]
    rw [if_neg w21]
    by_cases w22 : w = 22
    · rw [if_pos w22]
      obtain ⟨r, μ1, μ2, e1, e2, e3⟩ := goI _ _ (op_forgery (xs (5 * i + 1)) (xs (5 * i + 2)) (xs (5 * i + 3)))
      simp only [bd_n, gd_n, ca2_n, ca_n, nbtF, pbfT, Bool.not_true, Bool.not_false, if_true, if_false, a1, a2, a3, a4, x1, x2, x3, x4, c1, c2, c3, c4, iz6, iz7, rb, e1, e2, e3, eq_self]
    rw [if_neg w22]
    by_cases w23 : w = 23
    · rw [if_pos w23]
      obtain ⟨r, μ1, μ2, e1, e2, e3⟩ := goI _ _ (op_toSit (xs (5 * i + 1)) (xs (5 * i + 2)))
      simp only [bd_n, gd_n, ca2_n, ca_n, nbtF, pbfT, Bool.not_true, Bool.not_false, if_true, if_false, a1, a2, a3, a4, x1, x2, x3, x4, c1, c2, c3, c4, iz6, iz7, rb, e1, e2, e3, eq_self]
    rw [if_neg w23]
    by_cases w24 : w = 24
    · rw [if_pos w24]
      obtain ⟨r, μ1, μ2, e1, e2, e3⟩ := goI _ _ (op_between (xs (5 * i + 1)) (xs (5 * i + 2)))
      simp only [bd_n, gd_n, ca2_n, ca_n, nbtF, pbfT, Bool.not_true, Bool.not_false, if_true, if_false, a1, a2, a3, a4, x1, x2, x3, x4, c1, c2, c3, c4, iz6, iz7, rb, e1, e2, e3, eq_self]
    rw [if_neg w24]
    by_cases w25 : w = 25
    · rw [if_pos w25]
      obtain ⟨r, μ1, μ2, e1, e2, e3⟩ := goI _ _ (op_most (xs (5 * i + 1)) (xs (5 * i + 2)))
      simp only [bd_n, gd_n, ca2_n, ca_n, nbtF, pbfT, Bool.not_true, Bool.not_false, if_true, if_false, a1, a2, a3, a4, x1, x2, x3, x4, c1, c2, c3, c4, iz6, iz7, rb, e1, e2, e3, eq_self]
    rw [if_neg w25]
    by_cases w26 : w = 26
    · rw [if_pos w26]
      obtain ⟨r, μ1, μ2, e1, e2, e3⟩ := goI _ _ (op_eyes (xs (5 * i + 1)) (xs (5 * i + 2)))
      simp only [bd_n, gd_n, ca2_n, ca_n, nbtF, pbfT, Bool.not_true, Bool.not_false, if_true, if_false, a1, a2, a3, a4, x1, x2, x3, x4, c1, c2, c3, c4, iz6, iz7, rb, e1, e2, e3, eq_self]
    rw [if_neg w26]
    by_cases w27 : w = 27
    · rw [if_pos w27]
      by_cases q : xs (5 * i + 4) = 0
      · obtain ⟨r, μ1, μ2, e1, e2, e3⟩ := goJ _ _ (op_whose (xs (5 * i + 1)) (xs (5 * i + 2)) (xs (5 * i + 3)) 0)
        simp only [bd_n, gd_n, ca2_n, ca_n, nbtF, pbfT, Bool.not_true, Bool.not_false, if_true, if_false, a1, a2, a3, a4, x1, x2, x3, x4, c1, c2, c3, c4, iz6, iz7, rb, q, m_L_law_b923, m_L_law_b955, e1, e2, e3, lg_self]
      · obtain ⟨r, μ1, μ2, e1, e2, e3⟩ := goJ _ _ (op_whose (xs (5 * i + 1)) (xs (5 * i + 2)) (xs (5 * i + 3)) 1)
        simp only [bd_n, gd_n, ca2_n, ca_n, nbtF, pbfT, Bool.not_true, Bool.not_false, if_true, if_false, a1, a2, a3, a4, x1, x2, x3, x4, c1, c2, c3, c4, iz6, iz7, rb, q, m_L_law_b923, m_L_law_b955, e1, e2, e3, lg_self]
    rw [if_neg w27]
    by_cases w28 : w = 28
    · rw [if_pos w28]
      by_cases q : xs (5 * i + 3) = 0
      · obtain ⟨r, μ1, μ2, e1, e2, e3⟩ := goI _ _ (op_open (xs (5 * i + 1)) (xs (5 * i + 2)) 0)
        simp only [bd_n, gd_n, ca2_n, ca_n, nbtF, pbfT, Bool.not_true, Bool.not_false, if_true, if_false, a1, a2, a3, a4, x1, x2, x3, x4, c1, c2, c3, c4, iz6, iz7, rb, q, m_L_law_b988, m_L_law_b1015, e1, e2, e3, eq_self]
      · obtain ⟨r, μ1, μ2, e1, e2, e3⟩ := goI _ _ (op_open (xs (5 * i + 1)) (xs (5 * i + 2)) 1)
        simp only [bd_n, gd_n, ca2_n, ca_n, nbtF, pbfT, Bool.not_true, Bool.not_false, if_true, if_false, a1, a2, a3, a4, x1, x2, x3, x4, c1, c2, c3, c4, iz6, iz7, rb, q, m_L_law_b988, m_L_law_b1015, e1, e2, e3, eq_self]
    rw [if_neg w28]
    by_cases w29 : w = 29
    · rw [if_pos w29]
      obtain ⟨r, μ1, μ2, e1, e2, e3⟩ := goI _ _ (op_keep (xs (5 * i + 1)))
      simp only [bd_n, gd_n, ca2_n, ca_n, nbtF, pbfT, Bool.not_true, Bool.not_false, if_true, if_false, a1, a2, a3, a4, x1, x2, x3, x4, c1, c2, c3, c4, iz6, iz7, rb, e1, e2, e3, eq_self]
    rw [if_neg w29]
    by_cases w30 : w = 30
    · rw [if_pos w30]
      obtain ⟨r, μ1, μ2, e1, e2, e3⟩ := goI _ _ (op_again (xs (5 * i + 1)))
      simp only [bd_n, gd_n, ca2_n, ca_n, nbtF, pbfT, Bool.not_true, Bool.not_false, if_true, if_false, a1, a2, a3, a4, x1, x2, x3, x4, c1, c2, c3, c4, iz6, iz7, rb, e1, e2, e3, eq_self]
    rw [if_neg w30]
    exact cont μ σ iX iM (g.more (by omega))

/-! least terms -/
theorem lg_n {n : Nat} (h : n < 2 ^ 63) (h0 : n ≠ 0) : (lg_cmp (lN n) 0 = 0) = False := by
  have q : ¬ lN n = 0 := fun e => h0 ((pk_lEQ h (by decide)).mp (e.trans (show (0 : Int64) = lN 0 from rfl)))
  refine eq_false (fun e => ?_)
  unfold lg_cmp at e
  rw [if_neg q] at e
  split at e <;> revert e <;> decide
theorem lg_0 : (lg_cmp (lN 0) 0 = 0) = True := eq_true (by decide)
theorem nz_n {n : Nat} (h : n < 2 ^ 63) (h0 : n ≠ 0) : nzJ (lN n) = true := decide_eq_true (fun e => h0 ((pk_lEQ h (by decide)).mp (e.trans (show (0 : Int64) = lN 0 from rfl))))
theorem half_ {q r : Nat} (h0 : 0 < r) (h : r < q) : 2 * (q % r) < q := by
  rcases Nat.lt_or_ge q (2 * r) with a | a
  · rw [Nat.mod_eq_sub_mod (by omega), Nat.mod_eq_of_lt (by omega)]
    omega
  · have := Nat.mod_lt q h0
    omega
theorem gcd_st (p q : Nat) : Nat.gcd p q = Nat.gcd q (p % q) := by
  rw [Nat.gcd_comm p q, Nat.gcd_rec q p, Nat.gcd_comm (p % q) q]
theorem x_eu0 {v0 v2 : Int64} {v4 : Int32} {μ : Mu} {p i F : Nat} : m_X6_inLeastTerms_h9 SH v0 v2 v4 (F + 1) (lN p) (lN 0) (nI i) μ = m_X6_inLeastTerms_b44 SH v0 v2 v4 (lN p) μ := by
  show m_X6_inLeastTerms_b9 SH (m_X6_inLeastTerms_h9 SH v0 v2 v4 F) v0 v2 v4 (lN p) (lN 0) (nI i) μ = _
  by_cases h : (100 : Int32) ≤ nI i
  · simp only [bd_n, gd_n, ca2_n, ca_n, nbtF, pbfT, Bool.not_true, Bool.not_false, if_true, if_false, m_X6_inLeastTerms_b9, h]
  · simp only [bd_n, gd_n, ca2_n, ca_n, nbtF, pbfT, Bool.not_true, Bool.not_false, if_true, if_false, m_X6_inLeastTerms_b9, h, lg_0]
theorem x_eu1 {v0 v2 : Int64} {v4 : Int32} {μ : Mu} {p q i F : Nat} (hp : p < 2 ^ 31) (hq : q < 2 ^ 31) (h0 : q ≠ 0) (hi : i < 100) : m_X6_inLeastTerms_h9 SH v0 v2 v4 (F + 1) (lN p) (lN q) (nI i) μ = m_X6_inLeastTerms_h9 SH v0 v2 v4 F (lN q) (lN (p % q)) (nI (i + 1)) μ := by
  show m_X6_inLeastTerms_b9 SH (m_X6_inLeastTerms_h9 SH v0 v2 v4 F) v0 v2 v4 (lN p) (lN q) (nI i) μ = _
  have h : ((100 : Int32) ≤ nI i) = False := eq_false (nleL 100 hi (by decide))
  simp only [bd_n, gd_n, ca2_n, ca_n, nbtF, pbfT, Bool.not_true, Bool.not_false, if_true, if_false, m_X6_inLeastTerms_b9, h, lg_n (show q < 2 ^ 63 by omega) h0, nz_n (show q < 2 ^ 63 by omega) h0, pk_lRem (show p < 2 ^ 63 by omega) (show 0 < q by omega) (show q < 2 ^ 63 by omega), show nI i + 1 = nI (i + 1) from nI_add _ 1]
theorem x_eu {v0 v2 : Int64} {v4 : Int32} {μ : Mu} : ∀ (k p q i F : Nat), p < 2 ^ 31 → q < 2 ^ 31 → q < 2 ^ k → i + 2 * k ≤ 100 → 2 * k < F → m_X6_inLeastTerms_h9 SH v0 v2 v4 F (lN p) (lN q) (nI i) μ = m_X6_inLeastTerms_b44 SH v0 v2 v4 (lN (Nat.gcd p q)) μ := by
  intro k
  induction k with
  | zero =>
    intro p q i F hp hq hk hi hF
    obtain ⟨F, rfl⟩ : ∃ g, F = g + 1 := ⟨F - 1, by omega⟩
    have e : q = 0 := by have : q < 1 := hk; omega
    subst e
    rw [x_eu0, Nat.gcd_zero_right]
  | succ k ih =>
    intro p q i F hp hq hk hi hF
    obtain ⟨F, rfl⟩ : ∃ g, F = g + 1 + 1 := ⟨F - 2, by omega⟩
    by_cases h0 : q = 0
    · subst h0
      rw [x_eu0, Nat.gcd_zero_right]
    · have hr := Nat.mod_lt p (show 0 < q by omega)
      rw [x_eu1 hp hq h0 (by omega), gcd_st p q]
      by_cases h1 : p % q = 0
      · rw [h1, x_eu0, Nat.gcd_zero_right]
      · have hr2 := Nat.mod_lt q (show 0 < p % q by omega)
        have hh := half_ (show 0 < p % q by omega) hr
        rw [x_eu1 hq (by omega) h1 (by omega), gcd_st q (p % q)]
        exact ih _ _ _ _ (by omega) (by omega) (by rw [Nat.pow_succ] at hk; omega) (by omega) (by omega)
theorem x_ilt {a b : Nat} {u : Int32} {μ : Mu} (ha : a < 2 ^ 31) (hb : b < 2 ^ 31) (h0 : b ≠ 0) : m_X6_inLeastTerms SH (lN a) (lN b) u μ = some (if u = 0 then lN (b / Nat.gcd a b) else lN (a / Nat.gcd a b), μ) := by
  unfold m_X6_inLeastTerms
  have e := x_eu (v0 := lN a) (v2 := lN b) (v4 := u) (μ := μ) 31 a b 0 FU ha hb hb (by decide) (by decide)
  rw [show nI 0 = (0 : Int32) from rfl] at e
  rw [e]
  have g0 : 0 < Nat.gcd a b := Nat.gcd_pos_of_pos_right a (by omega)
  have g1 : Nat.gcd a b ≤ b := Nat.gcd_le_right a (by omega)
  by_cases hu : u = 0
  · simp only [bd_n, gd_n, ca2_n, ca_n, nbtF, pbfT, Bool.not_true, Bool.not_false, if_true, if_false, m_X6_inLeastTerms_b44, lg_n (show Nat.gcd a b < 2 ^ 63 by omega) (by omega), nz_n (show Nat.gcd a b < 2 ^ 63 by omega) (by omega), hu, pk_lDiv (show b < 2 ^ 63 by omega) g0 (show Nat.gcd a b < 2 ^ 63 by omega)]
  · simp only [bd_n, gd_n, ca2_n, ca_n, nbtF, pbfT, Bool.not_true, Bool.not_false, if_true, if_false, m_X6_inLeastTerms_b44, lg_n (show Nat.gcd a b < 2 ^ 63 by omega) (by omega), nz_n (show Nat.gcd a b < 2 ^ 63 by omega) (by omega), hu, pk_lDiv (show a < 2 ^ 63 by omega) g0 (show Nat.gcd a b < 2 ^ 63 by omega)]
theorem y_eu {μ : Mu} : ∀ (k p q F : Nat), p < 2 ^ 31 → q < 2 ^ 31 → q < 2 ^ k → 2 * k < F → m_X7_divisor_h6 SH F (lN p) (lN q) μ = some (lN (Nat.gcd p q), μ) := by
  have z : ∀ p F, m_X7_divisor_h6 SH (F + 1) (lN p) (lN 0) μ = some (lN p, μ) := fun p F => by
    show m_X7_divisor_b6 SH (m_X7_divisor_h6 SH F) (lN p) (lN 0) μ = _
    simp only [bd_n, gd_n, ca2_n, ca_n, nbtF, pbfT, Bool.not_true, Bool.not_false, if_true, if_false, m_X7_divisor_b6, lg_0]
  have s : ∀ p q F, p < 2 ^ 31 → q < 2 ^ 31 → q ≠ 0 → m_X7_divisor_h6 SH (F + 1) (lN p) (lN q) μ = m_X7_divisor_h6 SH F (lN q) (lN (p % q)) μ := fun p q F hp hq h0 => by
    show m_X7_divisor_b6 SH (m_X7_divisor_h6 SH F) (lN p) (lN q) μ = _
    simp only [bd_n, gd_n, ca2_n, ca_n, nbtF, pbfT, Bool.not_true, Bool.not_false, if_true, if_false, m_X7_divisor_b6, lg_n (show q < 2 ^ 63 by omega) h0, nz_n (show q < 2 ^ 63 by omega) h0, pk_lRem (show p < 2 ^ 63 by omega) (show 0 < q by omega) (show q < 2 ^ 63 by omega)]
  intro k
  induction k with
  | zero =>
    intro p q F hp hq hk hF
    obtain ⟨F, rfl⟩ : ∃ g, F = g + 1 := ⟨F - 1, by omega⟩
    have e : q = 0 := by have : q < 1 := hk; omega
    subst e
    rw [z, Nat.gcd_zero_right]
  | succ k ih =>
    intro p q F hp hq hk hF
    obtain ⟨F, rfl⟩ : ∃ g, F = g + 1 + 1 := ⟨F - 2, by omega⟩
    by_cases h0 : q = 0
    · subst h0
      rw [z, Nat.gcd_zero_right]
    · have hr := Nat.mod_lt p (show 0 < q by omega)
      rw [s _ _ _ hp hq h0, gcd_st p q]
      by_cases h1 : p % q = 0
      · rw [h1, z, Nat.gcd_zero_right]
      · have hr2 := Nat.mod_lt q (show 0 < p % q by omega)
        have hh := half_ (show 0 < p % q by omega) hr
        rw [s _ _ _ hq (by omega) h1, gcd_st q (p % q)]
        exact ih _ _ _ (by omega) (by omega) (by rw [Nat.pow_succ] at hk; omega) (by omega)
theorem y_div {a b : Nat} {μ : Mu} (ha : a < 2 ^ 31) (hb : b < 2 ^ 31) : m_X7_divisor SH (lN a) (lN b) μ = some (lN (Nat.gcd a b), μ) := y_eu 31 a b FU ha hb hb (by decide)
/-! powers -/
theorem y_pow_loop {v e : Nat} {μ : Mu} (he : e < 1000) : ∀ (d i F : Nat), i + d = e → d < F → m_X7_power_h5 SH (lN v) (nI e) F (lN (v ^ i)) (nI i) μ = some (lN (v ^ e), μ) := by
  intro d
  induction d with
  | zero =>
    intro i F hi hF
    obtain ⟨F, rfl⟩ : ∃ g, F = g + 1 := ⟨F - 1, by omega⟩
    have q : i = e := by omega
    subst q
    show m_X7_power_b5 SH (m_X7_power_h5 SH (lN v) (nI i) F) (lN v) (nI i) (lN (v ^ i)) (nI i) μ = _
    have h : (nI i ≤ nI i) = True := eq_true (nI_le (by omega) (by omega))
    simp only [bd_n, gd_n, ca2_n, ca_n, nbtF, pbfT, Bool.not_true, Bool.not_false, if_true, if_false, m_X7_power_b5, h]
  | succ d ih =>
    intro i F hi hF
    obtain ⟨F, rfl⟩ : ∃ g, F = g + 1 := ⟨F - 1, by omega⟩
    show m_X7_power_b5 SH (m_X7_power_h5 SH (lN v) (nI e) F) (lN v) (nI e) (lN (v ^ i)) (nI i) μ = _
    have h : (nI e ≤ nI i) = False := eq_false (nle_nI (by omega) (by omega))
    simp only [bd_n, gd_n, ca2_n, ca_n, nbtF, pbfT, Bool.not_true, Bool.not_false, if_true, if_false, m_X7_power_b5, h, lN_mul, ← Nat.pow_succ, show nI i + 1 = nI (i + 1) from nI_add _ 1]
    exact ih (i + 1) F (by omega) (by omega)
theorem y_pow {v e : Nat} {μ : Mu} (he : e < 1000) : m_X7_power SH (lN v) (nI e) μ = some (lN (v ^ e), μ) := by
  have q := y_pow_loop (v := v) (μ := μ) he e 0 FU (by omega) (by rw [FU_eq]; omega)
  rw [show nI 0 = (0 : Int32) from rfl, show lN (v ^ 0) = 1 from rfl] at q
  exact q
def bw (t k : Nat) : Nat → Nat
  | 0 => 1
  | i + 1 => bw t k i * (if k ≤ i then 10 - t else t)
theorem bw_lo {t k : Nat} : ∀ {i : Nat}, i ≤ k → bw t k i = t ^ i
  | 0, _ => rfl
  | i + 1, h => by
    show bw t k i * (if k ≤ i then 10 - t else t) = _
    rw [bw_lo (by omega), if_neg (by omega), Nat.pow_succ]
theorem bw_hi {t k : Nat} : ∀ (j : Nat), bw t k (k + j) = t ^ k * (10 - t) ^ j
  | 0 => by rw [Nat.add_zero, bw_lo (Nat.le_refl k), Nat.pow_zero, Nat.mul_one]
  | j + 1 => by
    show bw t k (k + j) * (if k ≤ k + j then 10 - t else t) = _
    rw [bw_hi j, if_pos (by omega), Nat.pow_succ, Nat.mul_assoc]
theorem bw_le {t k : Nat} (ht : t ≤ 10) : ∀ i, bw t k i ≤ 10 ^ i
  | 0 => Nat.le_refl 1
  | i + 1 => by
    rw [Nat.pow_succ]
    exact Nat.mul_le_mul (bw_le ht i) (by split <;> omega)
theorem ten_sub {t : Nat} (ht : t ≤ 10) : (10 - nI t : Int32).toInt64 = lN (10 - t) := by
  rw [show (10 : Int32) = nI 10 from rfl, pk_sub ht, nI_l (by omega)]
theorem x_bw_loop {μ : Mu} {q p n k : Nat} {P : Pl} (h : PR μ q P) (hv : PV P) (hp : p < pP P) (hn : n ≤ 8) (hk : k ≤ n) : ∀ (d i F : Nat), i + d = n → d < F → m_X2_blinkWeight_h6 SH q (nI p) (nI n) (nI k) F (lN (bw (pT P p) k i)) (nI i) μ = some (lN (bw (pT P p) k n), μ) := by
  have ht := hv.2.2.2.2 p hp
  intro d
  induction d with
  | zero =>
    intro i F hi hF
    obtain ⟨F, rfl⟩ : ∃ g, F = g + 1 := ⟨F - 1, by omega⟩
    have e : i = n := by omega
    subst e
    show m_X2_blinkWeight_b6 SH (m_X2_blinkWeight_h6 SH q (nI p) (nI i) (nI k) F) q (nI p) (nI i) (nI k) (lN (bw (pT P p) k i)) (nI i) μ = _
    have h : (nI i ≤ nI i) = True := eq_true (nI_le (by omega) (by omega))
    simp only [bd_n, gd_n, ca2_n, ca_n, nbtF, pbfT, Bool.not_true, Bool.not_false, if_true, if_false, m_X2_blinkWeight_b6, h]
  | succ d ih =>
    intro i F hi hF
    obtain ⟨F, rfl⟩ : ∃ g, F = g + 1 := ⟨F - 1, by omega⟩
    show m_X2_blinkWeight_b6 SH (m_X2_blinkWeight_h6 SH q (nI p) (nI n) (nI k) F) q (nI p) (nI n) (nI k) (lN (bw (pT P p) k i)) (nI i) μ = _
    have h1 : (nI n ≤ nI i) = False := eq_false (nle_nI (by omega) (by omega))
    have u := ih (i + 1) F (by omega) (by omega)
    rw [show bw (pT P p) k (i + 1) = bw (pT P p) k i * (if k ≤ i then 10 - pT P p else pT P p) from rfl] at u
    by_cases hki : k ≤ i
    · have h2 : (nI k ≤ nI i) = True := eq_true (nI_le hki (by omega))
      rw [if_pos hki] at u
      simp only [bd_n, gd_n, ca2_n, ca_n, nbtF, pbfT, Bool.not_true, Bool.not_false, if_true, if_false, m_X2_blinkWeight_b6, m_X2_blinkWeight_b38, h1, h2, h.1.iz, x_tenthsOf h hv hp, ten_sub (show pT P p ≤ 10 by omega), lN_mul, show nI i + 1 = nI (i + 1) from nI_add _ 1]
      exact u
    · have h2 : (nI k ≤ nI i) = False := eq_false (nle_nI (by omega) (by omega))
      rw [if_neg hki] at u
      simp only [bd_n, gd_n, ca2_n, ca_n, nbtF, pbfT, Bool.not_true, Bool.not_false, if_true, if_false, m_X2_blinkWeight_b6, m_X2_blinkWeight_b38, h1, h2, h.1.iz, x_tenthsOf h hv hp, nI_l (show pT P p < 2 ^ 31 by omega), lN_mul, show nI i + 1 = nI (i + 1) from nI_add _ 1]
      exact u
theorem x_bw {μ : Mu} {q p n k : Nat} {P : Pl} (h : PR μ q P) (hv : PV P) (hp : p < pP P) (hn : n ≤ 8) (hk : k ≤ n) : m_X2_blinkWeight SH q (nI p) (nI n) (nI k) μ = some (lN (bw (pT P p) k n), μ) := by
  have e := x_bw_loop h hv hp hn hk n 0 FU (by omega) (by rw [FU_eq]; omega)
  rw [show nI 0 = (0 : Int32) from rfl, show lN (bw (pT P p) k 0) = 1 from rfl] at e
  exact e
def wW (P : Pl) (n k p : Nat) : Nat := bw (pT P p) k n
theorem wW_le {P : Pl} {n k p : Nat} (hv : PV P) (hn : n ≤ 8) (hp : p < pP P) : wW P n k p ≤ 100000000 := by
  have h1 := bw_le (t := pT P p) (k := k) (by have := hv.2.2.2.2 p hp; omega) n
  have h2 : 10 ^ n ≤ 10 ^ 8 := Nat.pow_le_pow_right (by decide) hn
  have h3 : (10 ^ 8 : Nat) = 100000000 := by decide
  unfold wW
  omega
theorem wS_le {P : Pl} {n k : Nat} (hv : PV P) (hn : n ≤ 8) : ∀ i, i ≤ pP P → fb_sm (wW P n k) i ≤ i * 100000000 := fun i hi => fb_sm_bound (fun p hp => wW_le hv hn (by omega))
theorem x_who_ {μ : Mu} {σ : Sg} {c p n k : Nat} {u : Int32} (iX : InvX μ σ) (g : Good σ c) (hp : p < pP (sP σ)) (hn : n ≤ 8) (hk : k ≤ n) : ∀ (d i F : Nat), i + d = pP (sP σ) → d < F → m_X6_whose_h45 SH 1 (nI p) (nI n) (nI k) u F (lN (fb_sm (wW (sP σ) n k) i)) (nI i) μ = m_X6_whose_b79 SH 1 (nI p) (nI n) (nI k) u (lN (fb_sm (wW (sP σ) n k) (pP (sP σ)))) μ := by
  have hv := g.pv
  have hP5 := hv.2.2.1
  intro d
  induction d with
  | zero =>
    intro i F hi hF
    obtain ⟨F, rfl⟩ : ∃ g, F = g + 1 := ⟨F - 1, by omega⟩
    have e : i = pP (sP σ) := by omega
    subst e
    show m_X6_whose_b45 SH (m_X6_whose_h45 SH 1 (nI p) (nI n) (nI k) u F) 1 (nI p) (nI n) (nI k) u _ _ μ = _
    have h : (nI (pP (sP σ)) ≤ nI (pP (sP σ))) = True := eq_true (nI_le (by omega) (by omega))
    simp only [bd_n, gd_n, ca2_n, ca_n, nbtF, pbfT, Bool.not_true, Bool.not_false, if_true, if_false, m_X6_whose_b45, iz6, iX.pr.1.iz, iX.pr.2.2.2.1, h]
  | succ d ih =>
    intro i F hi hF
    obtain ⟨F, rfl⟩ : ∃ g, F = g + 1 := ⟨F - 1, by omega⟩
    show m_X6_whose_b45 SH (m_X6_whose_h45 SH 1 (nI p) (nI n) (nI k) u F) 1 (nI p) (nI n) (nI k) u _ _ μ = _
    have h : (nI (pP (sP σ)) ≤ nI i) = False := eq_false (nle_nI (by omega) (by omega))
    simp only [bd_n, gd_n, ca2_n, ca_n, nbtF, pbfT, Bool.not_true, Bool.not_false, if_true, if_false, m_X6_whose_b45, iz6, iX.pr.1.iz, iX.pr.2.2.2.1, h, x_bw iX.pr hv (show i < pP (sP σ) by omega) hn hk, lN_add, show nI i + 1 = nI (i + 1) from nI_add _ 1]
    exact ih (i + 1) F (by omega) (by omega)
theorem y_who_ {μ : Mu} {σ : Sg} {c p n k : Nat} {u : Int32} (iM : InvM μ σ) (g : Good σ c) (hp : p < pP (sP σ)) (hn : n ≤ 8) (hk : k ≤ n) : ∀ (d i F : Nat), i + d = pP (sP σ) → d < F → m_X7_whose_h53 SH 414 (nI p) (nI n) (nI k) u F (lN (fb_sm (wW (sP σ) n k) i)) (lN (if p < i then wW (sP σ) n k p else 0)) (nI i) μ = m_X7_whose_b124 SH u (lN (fb_sm (wW (sP σ) n k) (pP (sP σ)))) (lN (wW (sP σ) n k p)) μ := by
  have hv := g.pv
  have hP5 := hv.2.2.1
  intro d
  induction d with
  | zero =>
    intro i F hi hF
    obtain ⟨F, rfl⟩ : ∃ g, F = g + 1 := ⟨F - 1, by omega⟩
    have e : i = pP (sP σ) := by omega
    subst e
    show m_X7_whose_b53 SH (m_X7_whose_h53 SH 414 (nI p) (nI n) (nI k) u F) 414 (nI p) (nI n) (nI k) u _ _ _ μ = _
    have h : (nI (pP (sP σ)) ≤ nI (pP (sP σ))) = True := eq_true (nI_le (by omega) (by omega))
    rw [if_pos hp]
    simp only [bd_n, gd_n, ca2_n, ca_n, nbtF, pbfT, Bool.not_true, Bool.not_false, if_true, if_false, m_X7_whose_b53, iz7, iM.2.2.2.1.2.2.1, h]
  | succ d ih =>
    intro i F hi hF
    obtain ⟨F, rfl⟩ : ∃ g, F = g + 1 := ⟨F - 1, by omega⟩
    show m_X7_whose_b53 SH (m_X7_whose_h53 SH 414 (nI p) (nI n) (nI k) u F) 414 (nI p) (nI n) (nI k) u _ _ _ μ = _
    have h : (nI (pP (sP σ)) ≤ nI i) = False := eq_false (nle_nI (by omega) (by omega))
    have ht := hv.2.2.2.2 i (by omega)
    have hx : ix SH 8 418 (nI i) = true := ix_of (n := 5) rfl (by omega) (by decide)
    have hw : pT (sP σ) i ^ k * (10 - pT (sP σ) i) ^ (n - k) = wW (sP σ) n k i := by
      unfold wW
      rw [show n = k + (n - k) by omega, bw_hi, show k + (n - k) - k = n - k by omega]
    have u := ih (i + 1) F (by omega) (by omega)
    rw [fb_sm_succ] at u
    by_cases hpi : i = p
    · subst hpi
      rw [if_pos (by omega)] at u
      rw [if_neg (by omega)]
      have q : (nI i = nI i) = True := eq_true rfl
      simp only [bd_n, gd_n, ca2_n, ca_n, nbtF, pbfT, Bool.not_true, Bool.not_false, if_true, if_false, m_X7_whose_b53, iz7, iM.2.2.2.1.2.2.1, h, iM.1.1.2.2.2.1, hx, nI_clamp (show i < 2 ^ 31 by omega), iM.2.2.2.1.2.2.2.2 i (by omega), nI_l (show pT (sP σ) i < 2 ^ 31 by omega), ten_sub (show pT (sP σ) i ≤ 10 by omega), y_pow (show k < 1000 by omega), pk_sub hk, y_pow (show n - k < 1000 by omega), lN_mul, hw, lN_add, q, m_X7_whose_b115, show nI i + 1 = nI (i + 1) from nI_add _ 1]
      rw [Nat.zero_add]
      exact u
    · have q : (nI i = nI p) = False := eq_false (fun e => hpi ((nI_eq (by omega) (by omega)).mp e))
      have e2 : (if p < i + 1 then wW (sP σ) n k p else 0) = (if p < i then wW (sP σ) n k p else 0) := by
        by_cases a : p < i
        · rw [if_pos a, if_pos (by omega)]
        · rw [if_neg a, if_neg (by omega)]
      rw [e2] at u
      simp only [bd_n, gd_n, ca2_n, ca_n, nbtF, pbfT, Bool.not_true, Bool.not_false, if_true, if_false, m_X7_whose_b53, iz7, iM.2.2.2.1.2.2.1, h, iM.1.1.2.2.2.1, hx, nI_clamp (show i < 2 ^ 31 by omega), iM.2.2.2.1.2.2.2.2 i (by omega), nI_l (show pT (sP σ) i < 2 ^ 31 by omega), ten_sub (show pT (sP σ) i ≤ 10 by omega), y_pow (show k < 1000 by omega), pk_sub hk, y_pow (show n - k < 1000 by omega), lN_mul, hw, lN_add, q, m_X7_whose_b115, show nI i + 1 = nI (i + 1) from nI_add _ 1, Int64.add_zero]
      exact u
theorem fin_roJ {X M : Mu → Option (Int64 × Mu)} {μ : Mu} {σ : Sg} {c : Nat} {r : Int64} (iX : InvX μ σ) (iM : InvM μ σ) (g : Good σ c) (hX : X μ = some (r, μ)) (hM : M μ = some (r, sI μ 414 0 0)) : ∃ r μ1 μ2 σ', X μ = some (r, μ1) ∧ M μ1 = some (r, μ2) ∧ InvX μ2 σ' ∧ InvM μ2 σ' ∧ Good σ' (c + 1) :=
  ⟨r, μ, _, σ, hX, hM, iX.mono g thr_same, iM.thr 0, g.more (by omega)⟩
theorem op_whose (v n k u : Int32) : OpJ (m_X6_whose SH 1 v n k u) (m_X7_whose SH 414 v n k u) := by
  intro μ σ c iX iM g hc
  have iM' := iM.thr 0
  have hv := g.pv
  have hP5 := hv.2.2.1
  cases hp : isIn v (pP (sP σ)) with
  | false =>
    refine fin_roJ (r := -1) iX iM g ?_ ?_
    · simp only [bd_n, gd_n, ca2_n, ca_n, nbtF, pbfT, Bool.not_true, Bool.not_false, if_true, if_false, m_X6_whose, iz6, iX.pr.1.iz, x_hasPerson iX.pr hv, hp]
    · simp only [bd_n, gd_n, ca2_n, ca_n, nbtF, pbfT, Bool.not_true, Bool.not_false, if_true, if_false, m_X7_whose, iz7, y_noOne iM'.2.2.2.1 hv, hp]
  | true =>
  obtain ⟨p, hpp, ep⟩ := isIn_t hp (by omega)
  subst ep
  have L1 : (1 : Int64).toInt = 1 := by decide
  have L8 : (8 : Int64).toInt = 8 := by decide
  have L0 : (0 : Int64).toInt = 0 := by decide
  have I1 : (1 : Int32).toInt = 1 := by decide
  have I8 : (8 : Int32).toInt = 8 := by decide
  have I0 : (0 : Int32).toInt = 0 := by decide
  cases hn : inL n.toInt64 1 8 with
  | false =>
    have q : ¬ (1 ≤ n.toInt ∧ n.toInt ≤ 8) := fun e => by rw [← L1, ← L8, ← inL_iff, hn] at e; cases e
    refine fin_roJ (r := -2) iX iM g ?_ ?_
    · by_cases h1 : n < 1
      · simp only [bd_n, gd_n, ca2_n, ca_n, nbtF, pbfT, Bool.not_true, Bool.not_false, if_true, if_false, m_X6_whose, iz6, iX.pr.1.iz, x_hasPerson iX.pr hv, hp, h1]
      · have h8 : (8 : Int32) < n := by
          rw [fa_lt, I1] at h1
          rw [fa_lt, I8]
          omega
        simp only [bd_n, gd_n, ca2_n, ca_n, nbtF, pbfT, Bool.not_true, Bool.not_false, if_true, if_false, m_X6_whose, iz6, iX.pr.1.iz, x_hasPerson iX.pr hv, hp, h1, h8]
    · simp only [bd_n, gd_n, ca2_n, ca_n, nbtF, pbfT, Bool.not_true, Bool.not_false, if_true, if_false, m_X7_whose, iz7, y_noOne iM'.2.2.2.1 hv, hp, y_in, hn]
  | true =>
  have qn := inL_iff.mp hn
  rw [L1, L8] at qn
  have h1 : (n < 1) = False := eq_false (by rw [fa_lt, I1]; omega)
  have h8 : ((8 : Int32) < n) = False := eq_false (by rw [fa_lt, I8]; omega)
  cases hk : inL k.toInt64 0 n.toInt64 with
  | false =>
    have q : ¬ (0 ≤ k.toInt ∧ k.toInt ≤ n.toInt) := fun e => by rw [← L0, ← wide n, ← inL_iff, hk] at e; cases e
    refine fin_roJ (r := -2) iX iM g ?_ ?_
    · by_cases h2 : k < 0
      · simp only [bd_n, gd_n, ca2_n, ca_n, nbtF, pbfT, Bool.not_true, Bool.not_false, if_true, if_false, m_X6_whose, iz6, iX.pr.1.iz, x_hasPerson iX.pr hv, hp, h1, h8, h2]
      · have h3 : (k ≤ n) = False := eq_false (by
          rw [fa_lt, I0] at h2
          rw [fa_le]
          omega)
        simp only [bd_n, gd_n, ca2_n, ca_n, nbtF, pbfT, Bool.not_true, Bool.not_false, if_true, if_false, m_X6_whose, iz6, iX.pr.1.iz, x_hasPerson iX.pr hv, hp, h1, h8, h2, h3]
    · simp only [bd_n, gd_n, ca2_n, ca_n, nbtF, pbfT, Bool.not_true, Bool.not_false, if_true, if_false, m_X7_whose, iz7, y_noOne iM'.2.2.2.1 hv, hp, y_in, hn, hk]
  | true =>
  have qk := inL_iff.mp hk
  rw [L0, wide] at qk
  have h2 : (k < 0) = False := eq_false (by rw [fa_lt, I0]; omega)
  have h3 : (k ≤ n) = True := eq_true (by rw [fa_le]; omega)
  obtain ⟨n', hn', rfl⟩ := nI_of (x := n) (by rw [fa_lt, I0]; omega)
  obtain ⟨k', hk', rfl⟩ := nI_of (x := k) (by rw [fa_lt, I0]; omega)
  rw [nI_toInt hn'] at qn qk
  rw [nI_toInt hk'] at qk
  have n8 : n' ≤ 8 := by omega
  have kn : k' ≤ n' := by omega
  have e1 := x_who_ (u := u) iX g hpp n8 kn (pP (sP σ)) 0 FU (by omega) (by rw [FU_eq]; omega)
  have e2 := y_who_ (u := u) iM' g hpp n8 kn (pP (sP σ)) 0 FU (by omega) (by rw [FU_eq]; omega)
  rw [show nI 0 = (0 : Int32) from rfl, show lN (fb_sm (wW (sP σ) n' k') 0) = 0 from rfl] at e1 e2
  rw [if_neg (by omega), show lN 0 = 0 from rfl] at e2
  have bS := wS_le (n := n') (k := k') hv n8 (pP (sP σ)) (Nat.le_refl _)
  have bW := wW_le (n := n') (k := k') hv n8 hpp
  have lS : fb_sm (wW (sP σ) n' k') (pP (sP σ)) < 2 ^ 31 := by omega
  by_cases h0 : fb_sm (wW (sP σ) n' k') (pP (sP σ)) = 0
  · refine fin_roJ (r := -3) iX iM g ?_ ?_
    · simp only [bd_n, gd_n, ca2_n, ca_n, nbtF, pbfT, Bool.not_true, Bool.not_false, if_true, if_false, m_X6_whose, iz6, iX.pr.1.iz, x_hasPerson iX.pr hv, hp, h1, h8, h2, h3, e1, m_X6_whose_b79, h0, lg_0]
    · simp only [bd_n, gd_n, ca2_n, ca_n, nbtF, pbfT, Bool.not_true, Bool.not_false, if_true, if_false, m_X7_whose, iz7, y_noOne iM'.2.2.2.1 hv, hp, y_in, hn, hk, e2, m_X7_whose_b124, h0, lg_0]
  · have z := lg_n (show fb_sm (wW (sP σ) n' k') (pP (sP σ)) < 2 ^ 63 by omega) h0
    have g0 : 0 < Nat.gcd (wW (sP σ) n' k' p) (fb_sm (wW (sP σ) n' k') (pP (sP σ))) := Nat.gcd_pos_of_pos_right _ (by omega)
    have g1 : Nat.gcd (wW (sP σ) n' k' p) (fb_sm (wW (sP σ) n' k') (pP (sP σ))) ≤ fb_sm (wW (sP σ) n' k') (pP (sP σ)) := Nat.gcd_le_right _ (by omega)
    refine fin_roJ (r := if u = 0 then lN (fb_sm (wW (sP σ) n' k') (pP (sP σ)) / Nat.gcd (wW (sP σ) n' k' p) (fb_sm (wW (sP σ) n' k') (pP (sP σ)))) else lN (wW (sP σ) n' k' p / Nat.gcd (wW (sP σ) n' k' p) (fb_sm (wW (sP σ) n' k') (pP (sP σ))))) iX iM g ?_ ?_
    · have w := x_bw iX.pr hv hpp n8 kn
      rw [show bw (pT (sP σ) p) k' n' = wW (sP σ) n' k' p from rfl] at w
      simp only [bd_n, gd_n, ca2_n, ca_n, nbtF, pbfT, Bool.not_true, Bool.not_false, if_true, if_false, m_X6_whose, iz6, iX.pr.1.iz, x_hasPerson iX.pr hv, hp, h1, h8, h2, h3, e1, m_X6_whose_b79, z, w, x_ilt (u := u) (μ := μ) (show wW (sP σ) n' k' p < 2 ^ 31 by omega) lS h0]
    · simp only [bd_n, gd_n, ca2_n, ca_n, nbtF, pbfT, Bool.not_true, Bool.not_false, if_true, if_false, m_X7_whose, iz7, y_noOne iM'.2.2.2.1 hv, hp, y_in, hn, hk, e2, m_X7_whose_b124, z, y_div (show wW (sP σ) n' k' p < 2 ^ 31 by omega) lS, nz_n (show Nat.gcd (wW (sP σ) n' k' p) (fb_sm (wW (sP σ) n' k') (pP (sP σ))) < 2 ^ 63 by omega) (by omega), pk_lDiv (show fb_sm (wW (sP σ) n' k') (pP (sP σ)) < 2 ^ 63 by omega) g0 (by omega), pk_lDiv (show wW (sP σ) n' k' p < 2 ^ 63 by omega) g0 (by omega)]
      split <;> rfl

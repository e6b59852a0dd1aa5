/-! rows of sets told by hundreds -/
def st (n r k : Nat) : Nat := r / 100 ^ (n - 1 - k) % 100
theorem st_lt (n r k : Nat) : st n r k < 100 := Nat.mod_lt _ (by decide)
theorem hun_nI : ∀ j, j < 5 → hun j = nI (100 ^ j) := by decide
theorem h100_le : ∀ j, j < 5 → 0 < 100 ^ j ∧ 100 ^ j ≤ 100000000 := by decide
theorem y_hun_loop {j : Nat} {μ : Mu} (hj : j ≤ 4) : ∀ (d i F : Nat), i + d = j → d < F → m_X7_hundred_h4 SH (nI j) F (nI (100 ^ i)) (nI i) μ = some (nI (100 ^ j), μ) := by
  intro d
  induction d with
  | zero =>
    intro i F hi hF
    obtain ⟨F, rfl⟩ : ∃ g, F = g + 1 := ⟨F - 1, by omega⟩
    have e : i = j := by omega
    subst e
    show m_X7_hundred_b4 SH (m_X7_hundred_h4 SH (nI i) F) (nI i) (nI (100 ^ i)) (nI i) μ = _
    unfold m_X7_hundred_b4
    rw [if_pos (Int32.le_refl _)]
  | succ d ih =>
    intro i F hi hF
    obtain ⟨F, rfl⟩ : ∃ g, F = g + 1 := ⟨F - 1, by omega⟩
    rw [← ih (i + 1) F (by omega) (by omega)]
    show m_X7_hundred_b4 SH (m_X7_hundred_h4 SH (nI j) F) (nI j) (nI (100 ^ i)) (nI i) μ = _
    have u1 : (nI j ≤ nI i) = False := eq_false (nle_nI (by omega) (by omega))
    have u2 : nI (100 ^ i) * 100 = nI (100 ^ (i + 1)) := by rw [show (100 : Int32) = nI 100 from rfl, pk_mul, Nat.pow_succ]
    simp only [bd_n, gd_n, ca2_n, ca_n, nbtF, pbfT, Bool.not_true, Bool.not_false, if_true, if_false, m_X7_hundred_b4, u1, u2, show nI i + 1 = nI (i + 1) from nI_add _ 1]
theorem y_hundred {j : Nat} {μ : Mu} (hj : j ≤ 4) : m_X7_hundred SH (nI j) μ = some (nI (100 ^ j), μ) := y_hun_loop hj j 0 FU (by omega) (by rw [FU_eq]; omega)
theorem div_mod_I {r p : Nat} (hr : r < 2 ^ 31) (hp : 0 < p) (hp2 : p < 2 ^ 31) : (nI r / nI p) - (nI r / nI p) / 100 * 100 = nI (r / p % 100) := by
  have h1 : nI r / nI p = nI (r / p) := pk_div hr hp hp2
  rw [h1, show (100 : Int32) = nI 100 from rfl, pk_div (Nat.lt_of_le_of_lt (Nat.div_le_self _ _) hr) (by decide) (by decide), pk_mul, pk_sub (Nat.div_mul_le_self _ _)]
  congr 1
  have := Nat.div_add_mod (r / p) 100
  omega
theorem nz_nI {p : Nat} (h : 0 < p) (h2 : p < 2 ^ 31) : nzI (nI p) = true := by
  have : ¬ nI p = 0 := fun e => by have := (nI_eq (b := 0) h2 (by decide)).mp e; omega
  simp [nzI, this]
theorem sub2 {n k : Nat} (h : k < n) : nI n - 1 - nI k = nI (n - 1 - k) := by
  rw [show nI n - 1 = nI (n - 1) from pk_sub (a := n) (b := 1) (by omega), pk_sub (by omega)]
theorem y_setOf {n k r : Nat} {μ : Mu} (hk : k < n) (hn : n ≤ 4) (hr : r < 2 ^ 31) : m_X7_setOf SH (nI n) (nI r) (nI k) μ = some (nI (st n r k), μ) := by
  have hp := h100_le (n - 1 - k) (by omega)
  simp only [bd_n, gd_n, ca2_n, ca_n, nbtF, pbfT, Bool.not_true, Bool.not_false, if_true, if_false, m_X7_setOf, sub2 hk, y_hundred (μ := μ) (show n - 1 - k ≤ 4 by omega), nz_nI hp.1 (show 100 ^ (n - 1 - k) < 2 ^ 31 by omega), show nzI 100 = true from rfl, div_mod_I hr hp.1 (show 100 ^ (n - 1 - k) < 2 ^ 31 by omega)]
  rfl
theorem x_setOf {n k r : Nat} {μ : Mu} (hk : k < n) (hn : n ≤ 4) (hr : r < 2 ^ 31) : m_X6_setOf SH (nI r) (nI n) (nI k) μ = some (nI (st n r k), μ) := by
  have hp := h100_le (n - 1 - k) (by omega)
  have u1 : (nI (n - 1 - k) < 0) = False := eq_false (nlt0 (by omega))
  have u2 : (nI (n - 1 - k) < 5) = True := eq_true (ltL 5 (by omega) (by decide))
  have x1 : ixn 5 (nI (n - 1 - k)) = true := ixn_of (by omega) (by decide)
  have p1 : (nI (n - 1 - k)).toNatClampNeg = n - 1 - k := nI_clamp (by omega)
  simp only [bd_n, gd_n, ca2_n, ca_n, nbtF, pbfT, Bool.not_true, Bool.not_false, if_true, if_false, m_X6_setOf, sub2 hk, u1, u2, x1, p1, hun_nI (n - 1 - k) (by omega), nz_nI hp.1 (show 100 ^ (n - 1 - k) < 2 ^ 31 by omega), show nzI 100 = true from rfl, div_mod_I hr hp.1 (show 100 ^ (n - 1 - k) < 2 ^ 31 by omega)]
  rfl
def allF (p : Nat → Bool) : Nat → Nat → Bool
  | 0, _ => true
  | d + 1, i => p i && allF p d (i + 1)
theorem allF_t {p : Nat → Bool} : ∀ {d i : Nat}, allF p d i = true → ∀ k, i ≤ k → k < i + d → p k = true
  | 0, i, _, k, h1, h2 => absurd h2 (by omega)
  | d + 1, i, h, k, h1, h2 => by
    have h : (p i && allF p d (i + 1)) = true := h
    rw [Bool.and_eq_true] at h
    by_cases e : k = i
    · subst e; exact h.1
    · exact allF_t h.2 k (by omega) (by omega)
theorem allF_f {p : Nat → Bool} : ∀ {d i : Nat}, allF p d i = false → ∃ k, i ≤ k ∧ k < i + d ∧ p k = false
  | 0, i, h => by cases h
  | d + 1, i, h => by
    have h : (p i && allF p d (i + 1)) = false := h
    cases hp : p i with
    | false => exact ⟨i, by omega, by omega, hp⟩
    | true =>
      rw [hp, Bool.true_and] at h
      obtain ⟨k, h1, h2, h3⟩ := allF_f h
      exact ⟨k, by omega, by omega, h3⟩
theorem x_row_loop {n r : Nat} {μ : Mu} (hn : n ≤ 4) (hr : r < 2 ^ 31) : ∀ (d i F : Nat), i + d = n → d < F → m_X6_isRow_h27 SH (nI r) (nI n) F (nI i) μ = some (bI (allF (fun k => decide (st n r k ≤ 31)) d i), μ) := by
  intro d
  induction d with
  | zero =>
    intro i F hi hF
    obtain ⟨F, rfl⟩ : ∃ g, F = g + 1 := ⟨F - 1, by omega⟩
    have e : i = n := by omega
    subst e
    show m_X6_isRow_b27 SH (m_X6_isRow_h27 SH (nI r) (nI i) F) (nI r) (nI i) (nI i) μ = _
    unfold m_X6_isRow_b27
    rw [if_pos (Int32.le_refl _)]
    rfl
  | succ d ih =>
    intro i F hi hF
    obtain ⟨F, rfl⟩ : ∃ g, F = g + 1 := ⟨F - 1, by omega⟩
    show m_X6_isRow_b27 SH (m_X6_isRow_h27 SH (nI r) (nI n) F) (nI r) (nI n) (nI i) μ = some (bI (decide (st n r i ≤ 31) && allF (fun k => decide (st n r k ≤ 31)) d (i + 1)), μ)
    have u1 : (nI n ≤ nI i) = False := eq_false (nle_nI (by omega) (by omega))
    have hs := st_lt n r i
    by_cases c : st n r i ≤ 31
    · have u2 : (nI (st n r i) ≤ 31) = True := eq_true (nI_le (b := 31) c (by decide))
      rw [decide_eq_true c, Bool.true_and, ← ih (i + 1) F (by omega) (by omega)]
      simp only [bd_n, gd_n, ca2_n, ca_n, nbtF, pbfT, Bool.not_true, Bool.not_false, if_true, if_false, m_X6_isRow_b27, u1, x_setOf (μ := μ) (show i < n by omega) hn hr, u2, show nI i + 1 = nI (i + 1) from nI_add _ 1]
    · have u2 : (nI (st n r i) ≤ 31) = False := eq_false (nle_nI (n := st n r i) (i := 31) (by omega) (by omega))
      rw [decide_eq_false c, Bool.false_and]
      simp only [bd_n, gd_n, ca2_n, ca_n, nbtF, pbfT, Bool.not_true, Bool.not_false, if_true, if_false, m_X6_isRow_b27, u1, x_setOf (μ := μ) (show i < n by omega) hn hr, u2]
      rfl
theorem mask_iff : ∀ s, s < 100 → decide (nI s &&& ((31 : Int32) ^^^ (-1)) = 0) = decide (s ≤ 31) := by decide +kernel
theorem maskP_iff : ∀ p, p < 6 → ∀ s, s < 100 → decide (nI s &&& (((1 : Int32) <<< (nI p &&& 31) - 1) ^^^ (-1)) = 0) = decide (s < 2 ^ p) := by decide +kernel
theorem bI_and (b : Bool) : bI b &&& 1 = bI b := by cases b <;> rfl
theorem y_row_loop {n r : Nat} {w : Int32} {μ : Mu} {p : Nat → Bool} (hn : n ≤ 4) (hr : r < 2 ^ 31) (hw : ∀ k, k < n → decide (nI (st n r k) &&& (w ^^^ (-1)) = 0) = p k) : ∀ (d i F : Nat) (v : Bool), i + d = n → d < F → m_X7_isRow_h17 SH (nI n) (nI r) w F (bI v) (nI i) μ = some (bI (v && allF p d i), μ) := by
  intro d
  induction d with
  | zero =>
    intro i F v hi hF
    obtain ⟨F, rfl⟩ : ∃ g, F = g + 1 := ⟨F - 1, by omega⟩
    have e : i = n := by omega
    subst e
    show m_X7_isRow_b17 SH (m_X7_isRow_h17 SH (nI i) (nI r) w F) (nI i) (nI r) w (bI v) (nI i) μ = some (bI (v && true), μ)
    unfold m_X7_isRow_b17
    rw [if_pos (Int32.le_refl _), Bool.and_true, bI_and]
  | succ d ih =>
    intro i F v hi hF
    obtain ⟨F, rfl⟩ : ∃ g, F = g + 1 := ⟨F - 1, by omega⟩
    show m_X7_isRow_b17 SH (m_X7_isRow_h17 SH (nI n) (nI r) w F) (nI n) (nI r) w (bI v) (nI i) μ = some (bI (v && (p i && allF p d (i + 1))), μ)
    have u1 : (nI n ≤ nI i) = False := eq_false (nle_nI (by omega) (by omega))
    cases v with
    | false =>
      simp only [bd_n, gd_n, ca2_n, ca_n, nbtF, pbfT, Bool.not_true, Bool.not_false, if_true, if_false, m_X7_isRow_b17, u1]
      rfl
    | true =>
      rw [Bool.true_and]
      have hwi := hw i (by omega)
      have ihT := ih (i + 1) F true (by omega) (by omega)
      have ihF := ih (i + 1) F false (by omega) (by omega)
      rw [Bool.true_and] at ihT
      rw [Bool.false_and] at ihF
      cases hp : p i with
      | true =>
        rw [hp] at hwi
        have u2 : (nI (st n r i) &&& (w ^^^ (-1)) = 0) = True := eq_true (of_decide_eq_true hwi)
        rw [Bool.true_and, ← ihT]
        simp only [bd_n, gd_n, ca2_n, ca_n, nbtF, pbfT, Bool.not_true, Bool.not_false, if_true, if_false, m_X7_isRow_b17, u1, y_setOf (μ := μ) (show i < n by omega) hn hr, u2, m_X7_isRow_b46, show nI i + 1 = nI (i + 1) from nI_add _ 1]
        rfl
      | false =>
        rw [hp] at hwi
        have u2 : (nI (st n r i) &&& (w ^^^ (-1)) = 0) = False := eq_false (of_decide_eq_false hwi)
        rw [Bool.false_and, ← ihF]
        simp only [bd_n, gd_n, ca2_n, ca_n, nbtF, pbfT, Bool.not_true, Bool.not_false, if_true, if_false, m_X7_isRow_b17, u1, y_setOf (μ := μ) (show i < n by omega) hn hr, u2, m_X7_isRow_b46, show nI i + 1 = nI (i + 1) from nI_add _ 1]
        rfl
theorem y_row0 {n : Nat} {v w : Int32} {μ : Mu} (hn1 : 1 ≤ n) (hn : n ≤ 4) : ∀ F, m_X7_isRow_h17 SH (nI n) v w (F + 1) (bI false) 0 μ = some (0, μ) := by
  intro F
  show m_X7_isRow_b17 SH (m_X7_isRow_h17 SH (nI n) v w F) (nI n) v w (bI false) 0 μ = _
  have u1 : (nI n ≤ 0) = False := eq_false (nle_nI (n := n) (i := 0) (by omega) (by omega))
  simp only [bd_n, gd_n, ca2_n, ca_n, nbtF, pbfT, Bool.not_true, Bool.not_false, if_true, if_false, m_X7_isRow_b17, u1]
  rfl
/-- is it a row of n sets, and of which number? -/
theorem x_isRow {n : Nat} {v : Int32} {μ : Mu} (hn1 : 1 ≤ n) (hn : n ≤ 4) : (∃ r, r < 100 ^ n ∧ v = nI r ∧ m_X6_isRow SH v (nI n) μ = some (bI (allF (fun k => decide (st n r k ≤ 31)) n 0), μ)) ∨ (isIn v (100 ^ n) = false ∧ m_X6_isRow SH v (nI n) μ = some (0, μ)) := by
  have hp := h100_le n (by omega)
  have u1 : (nI n < 1) = False := eq_false (Int32.not_lt.mpr (leL 1 hn1 (by omega)))
  have u2 : ((4 : Int32) < nI n) = False := eq_false (Int32.not_lt.mpr (nI_le (b := 4) hn (by decide)))
  have x1 : ixn 5 (nI n) = true := ixn_of (by omega) (by decide)
  have p1 : (nI n).toNatClampNeg = n := nI_clamp (by omega)
  by_cases h : isIn v (100 ^ n) = true
  · obtain ⟨r, hr, rfl⟩ := isIn_t h (by omega)
    refine Or.inl ⟨r, hr, rfl, ?_⟩
    have u3 : (nI r < 0) = False := eq_false (nlt0 (by omega))
    have u4 : (nI r < nI (100 ^ n)) = True := eq_true (nI_lt hr (by omega))
    have e := x_row_loop (μ := μ) hn (show r < 2 ^ 31 by omega) n 0 FU (by omega) (by rw [FU_eq]; omega)
    rw [show nI 0 = (0 : Int32) from rfl] at e
    simp only [bd_n, gd_n, ca2_n, ca_n, nbtF, pbfT, Bool.not_true, Bool.not_false, if_true, if_false, m_X6_isRow, u1, u2, u3, x1, p1, hun_nI n (by omega), u4, e]
  · have h : isIn v (100 ^ n) = false := by simpa using h
    refine Or.inr ⟨h, ?_⟩
    by_cases h0 : v < 0
    · simp only [bd_n, gd_n, ca2_n, ca_n, nbtF, pbfT, Bool.not_true, Bool.not_false, if_true, if_false, m_X6_isRow, u1, u2, h0]
    · rcases isIn_f h with q | q
      · exact absurd q h0
      · have u4 : (v < nI (100 ^ n)) = False := eq_false (Int32.not_lt.mpr q)
        simp only [bd_n, gd_n, ca2_n, ca_n, nbtF, pbfT, Bool.not_true, Bool.not_false, if_true, if_false, m_X6_isRow, u1, u2, h0, x1, p1, hun_nI n (by omega), u4]
theorem y_isRow {n : Nat} {v w : Int32} {μ : Mu} {p : Nat → Nat → Bool} (hn1 : 1 ≤ n) (hn : n ≤ 4) (hw : ∀ r k, k < n → decide (nI (st n r k) &&& (w ^^^ (-1)) = 0) = p r k) : (∃ r, r < 100 ^ n ∧ v = nI r ∧ m_X7_isRow SH (nI n) v w μ = some (bI (allF (p r) n 0), μ)) ∨ (isIn v (100 ^ n) = false ∧ m_X7_isRow SH (nI n) v w μ = some (0, μ)) := by
  have hp := h100_le n (by omega)
  have hy : m_X7_hundred SH (nI n) μ = some (nI (100 ^ n), μ) := y_hundred hn
  have hin : m_X7_in SH v.toInt64 0 ((nI (100 ^ n) - 1).toInt64) μ = some (bI (isIn v (100 ^ n)), μ) := by rw [y_in, inL_pred (by omega)]
  by_cases h : isIn v (100 ^ n) = true
  · obtain ⟨r, hr, rfl⟩ := isIn_t h (by omega)
    refine Or.inl ⟨r, hr, rfl, ?_⟩
    rw [h] at hin
    have e := y_row_loop (w := w) (p := p r) (μ := μ) hn (show r < 2 ^ 31 by omega) (hw r) n 0 FU true (by omega) (by rw [FU_eq]; omega)
    rw [Bool.true_and, show nI 0 = (0 : Int32) from rfl] at e
    simp only [bd_n, gd_n, ca2_n, ca_n, nbtF, pbfT, Bool.not_true, Bool.not_false, if_true, if_false, m_X7_isRow, hy, hin, e]
  · have h : isIn v (100 ^ n) = false := by simpa using h
    refine Or.inr ⟨h, ?_⟩
    rw [h] at hin
    have e := y_row0 (v := v) (w := w) (μ := μ) hn1 hn 65535
    have e : m_X7_isRow_h17 SH (nI n) v w FU (bI false) 0 μ = some (0, μ) := by rw [FU_eq]; exact e
    simp only [bd_n, gd_n, ca2_n, ca_n, nbtF, pbfT, Bool.not_true, Bool.not_false, if_true, if_false, m_X7_isRow, hy, hin, e]
theorem y_isRow31 {n : Nat} {v : Int32} {μ : Mu} (hn1 : 1 ≤ n) (hn : n ≤ 4) : (∃ r, r < 100 ^ n ∧ v = nI r ∧ m_X7_isRow SH (nI n) v 31 μ = some (bI (allF (fun k => decide (st n r k ≤ 31)) n 0), μ)) ∨ (isIn v (100 ^ n) = false ∧ m_X7_isRow SH (nI n) v 31 μ = some (0, μ)) :=
  y_isRow (p := fun r k => decide (st n r k ≤ 31)) hn1 hn (fun r k _ => mask_iff _ (st_lt n r k))

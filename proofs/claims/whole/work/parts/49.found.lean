/-! found -/
theorem n14 (w : Int32) : (∃ n, 1 ≤ n ∧ n ≤ 4 ∧ w = nI n ∧ inL w.toInt64 1 4 = true) ∨ ((w < 1 ∨ 4 < w) ∧ inL w.toInt64 1 4 = false) := by
  cases hb : inL w.toInt64 1 4 with
  | true =>
    have h := inL_iff.mp hb
    rw [show (1 : Int64).toInt = 1 from rfl, show (4 : Int64).toInt = 4 from rfl] at h
    have h5 : isIn w 5 = true := by rw [isIn_iff (by decide)]; omega
    obtain ⟨n, hn, e⟩ := isIn_t h5 (by decide)
    refine Or.inl ⟨n, ?_, by omega, e, rfl⟩
    rcases Nat.eq_zero_or_pos n with q | q
    · subst q
      rw [e] at h
      exact absurd h.1 (by decide)
    · exact q
  | false =>
    refine Or.inr ⟨?_, rfl⟩
    by_cases h1 : w < 1
    · exact Or.inl h1
    · refine Or.inr ?_
      by_cases h4 : 4 < w
      · exact h4
      · exfalso
        have : inL w.toInt64 1 4 = true := by
          rw [inL_iff, show (1 : Int64).toInt = 1 from rfl, show (4 : Int64).toInt = 4 from rfl]
          rw [fa_lt] at h1 h4
          rw [show (1 : Int32).toInt = 1 from rfl] at h1
          rw [show (4 : Int32).toInt = 4 from rfl] at h4
          omega
        rw [hb] at this
        cases this
def shw (f : Nat → Int32) (s n r i : Nat) (k : Nat) : Bool := decide (f (50 + 19 * s + 3 + (4 * (i + k) + 1)) = nI (st n r k))
theorem x_shows {μ : Mu} {t s n r i : Nat} {f : Nat → Int32} (ht : Tp μ t) (hs : stripR μ t f s) (hn : n ≤ 4) (hr : r < 2 ^ 31) (hi : i + n ≤ 4) : ∀ (d k F : Nat), k + d = n → d < F → m_X6_showsRow_h3 SH t (nI i) (nI n) (nI r) F (nI k) μ = some (bI (allF (shw f s n r i) d k), μ) := by
  intro d
  induction d with
  | zero =>
    intro k F hk hF
    obtain ⟨F, rfl⟩ : ∃ g, F = g + 1 := ⟨F - 1, by omega⟩
    have e : k = n := by omega
    subst e
    show m_X6_showsRow_b3 SH (m_X6_showsRow_h3 SH t (nI i) (nI k) (nI r) F) t (nI i) (nI k) (nI r) (nI k) μ = _
    unfold m_X6_showsRow_b3
    rw [if_pos (Int32.le_refl _)]
    rfl
  | succ d ih =>
    intro k F hk hF
    obtain ⟨F, rfl⟩ : ∃ g, F = g + 1 := ⟨F - 1, by omega⟩
    show m_X6_showsRow_b3 SH (m_X6_showsRow_h3 SH t (nI i) (nI n) (nI r) F) t (nI i) (nI n) (nI r) (nI k) μ = some (bI (shw f s n r i k && allF (shw f s n r i) d (k + 1)), μ)
    have u1 : (nI n ≤ nI k) = False := eq_false (nle_nI (by omega) (by omega))
    have hc : m_X5_cell SH t (nI (i + k)) 1 μ = some (f (50 + 19 * s + 3 + (4 * (i + k) + 1)), μ) := by
      rw [← hs.2.2.2 (4 * (i + k) + 1) (by omega)]
      exact x_cell (w := 1) ht (by omega) (by decide)
    unfold shw
    by_cases c : f (50 + 19 * s + 3 + (4 * (i + k) + 1)) = nI (st n r k)
    · rw [decide_eq_true c, Bool.true_and]
      have := ih (k + 1) F (by omega) (by omega)
      unfold shw at this
      rw [← this]
      simp only [bd_n, gd_n, ca2_n, ca_n, nbtF, pbfT, Bool.not_true, Bool.not_false, if_true, if_false, m_X6_showsRow_b3, u1, ht.iz, show nI i + nI k = nI (i + k) from nI_add _ _, hc, x_setOf (μ := μ) (show k < n by omega) hn hr, c, show nI k + 1 = nI (k + 1) from nI_add _ 1]
    · rw [decide_eq_false c, Bool.false_and]
      simp only [bd_n, gd_n, ca2_n, ca_n, nbtF, pbfT, Bool.not_true, Bool.not_false, if_true, if_false, m_X6_showsRow_b3, u1, ht.iz, show nI i + nI k = nI (i + k) from nI_add _ _, hc, x_setOf (μ := μ) (show k < n by omega) hn hr, c]
      rfl
def whB (tt i n : Nat) : Bool := decide (tt ≤ i) || decide (i + n ≤ tt)
def srch (p : Nat → Bool) : Nat → Nat → Int32
  | 0, _ => -9
  | d + 1, i => if p i = true then nI i else srch p d (i + 1)
theorem x_whole {μ : Mu} {t tt i n : Nat} (ht : Tp μ t) (h2 : gI μ t 2 = nI tt) (htt : tt ≤ 3) (hi : i + n ≤ 4) : m_X5_isWhole SH t (nI i) (nI n) μ = some (bI (whB tt i n), μ) := by
  unfold whB
  by_cases c : tt ≤ i
  · have u1 : (nI tt ≤ nI i) = True := eq_true (nI_le c (by omega))
    rw [decide_eq_true c, Bool.true_or]
    simp only [bd_n, gd_n, ca2_n, ca_n, nbtF, pbfT, Bool.not_true, Bool.not_false, if_true, if_false, m_X5_isWhole, ht.iz, h2, u1, m_X5_isWhole_b18]
    rfl
  · have u1 : (nI tt ≤ nI i) = False := eq_false (nle_nI (by omega) (by omega))
    rw [decide_eq_false c, Bool.false_or]
    by_cases c2 : i + n ≤ tt
    · have u2 : (nI tt < nI (i + n)) = False := eq_false (Int32.not_lt.mpr (nI_le c2 (by omega)))
      rw [decide_eq_true c2]
      simp only [bd_n, gd_n, ca2_n, ca_n, nbtF, pbfT, Bool.not_true, Bool.not_false, if_true, if_false, m_X5_isWhole, ht.iz, h2, u1, nI_add, u2, m_X5_isWhole_b18]
      rfl
    · have u2 : (nI tt < nI (i + n)) = True := eq_true (nI_lt (by omega) (by omega))
      rw [decide_eq_false c2]
      simp only [bd_n, gd_n, ca2_n, ca_n, nbtF, pbfT, Bool.not_true, Bool.not_false, if_true, if_false, m_X5_isWhole, ht.iz, h2, u1, nI_add, u2]
      rfl
def fndB (f : Nat → Int32) (s n r tt i : Nat) : Bool := whB tt i n && allF (shw f s n r i) n 0
theorem x_fnd {μ : Mu} {t s n r tt : Nat} {f : Nat → Int32} (ht : Tp μ t) (hs : stripR μ t f s) (h2 : gI μ t 2 = nI tt) (htt : tt ≤ 3) (hn1 : 1 ≤ n) (hn : n ≤ 4) (hr : r < 2 ^ 31) : ∀ (d i F : Nat), i + d = 5 - n → d < F → m_X6_found_h38 SH (nI n) (nI r) t F (nI i) μ = some (srch (fndB f s n r tt) d i, μ) := by
  intro d
  induction d with
  | zero =>
    intro i F hi hF
    obtain ⟨F, rfl⟩ : ∃ g, F = g + 1 := ⟨F - 1, by omega⟩
    show m_X6_found_b38 SH (m_X6_found_h38 SH (nI n) (nI r) t F) (nI n) (nI r) t (nI i) μ = _
    unfold m_X6_found_b38
    have u4 : (4 : Int32) < nI (i + n) := nI_lt (a := 4) (b := i + n) (by omega) (by omega)
    rw [nI_add, if_pos u4]
    rfl
  | succ d ih =>
    intro i F hi hF
    obtain ⟨F, rfl⟩ : ∃ g, F = g + 1 := ⟨F - 1, by omega⟩
    show m_X6_found_b38 SH (m_X6_found_h38 SH (nI n) (nI r) t F) (nI n) (nI r) t (nI i) μ = some (if fndB f s n r tt i = true then nI i else srch (fndB f s n r tt) d (i + 1), μ)
    have u1 : ((4 : Int32) < nI i + nI n) = False := eq_false (by rw [nI_add]; exact Int32.not_lt.mpr (nI_le (b := 4) (by omega) (by decide)))
    have hw := x_whole (i := i) (n := n) ht h2 htt (by omega)
    have hsh := x_shows (i := i) ht hs hn hr (by omega) n 0 FU (by omega) (by rw [FU_eq]; omega)
    have hsh : m_X6_showsRow SH t (nI i) (nI n) (nI r) μ = some (bI (allF (shw f s n r i) n 0), μ) := hsh
    have ih' := ih (i + 1) F (by omega) (by omega)
    rw [show fndB f s n r tt i = (whB tt i n && allF (shw f s n r i) n 0) from rfl]
    cases h1 : whB tt i n with
    | false =>
      rw [h1] at hw
      rw [Bool.false_and, if_neg (by decide), ← ih']
      simp only [bd_n, gd_n, ca2_n, ca_n, nbtF, pbfT, Bool.not_true, Bool.not_false, if_true, if_false, m_X6_found_b38, u1, ht.iz, hw, m_X6_found_b72, show nI i + 1 = nI (i + 1) from nI_add _ 1]
    | true =>
      rw [h1] at hw
      rw [Bool.true_and]
      cases h2 : allF (shw f s n r i) n 0 with
      | false =>
        rw [h2] at hsh
        rw [if_neg (by decide), ← ih']
        simp only [bd_n, gd_n, ca2_n, ca_n, nbtF, pbfT, Bool.not_true, Bool.not_false, if_true, if_false, m_X6_found_b38, u1, ht.iz, hw, hsh, m_X6_found_b72, show nI i + 1 = nI (i + 1) from nI_add _ 1]
      | true =>
        rw [h2] at hsh
        rw [if_pos rfl]
        simp only [bd_n, gd_n, ca2_n, ca_n, nbtF, pbfT, Bool.not_true, Bool.not_false, if_true, if_false, m_X6_found_b38, u1, ht.iz, hw, hsh]
theorem y_shows {μ : Mu} {s n r i : Nat} {f : Nat → Int32} {k43 : Int32 → Mu → Option (Int32 × Mu)} (h : MR μ f) (hs : s < 8) (hn : n ≤ 4) (hr : r < 2 ^ 31) (hi : i + n ≤ 4) : ∀ (d k F : Nat) (v : Bool), k + d = n → d < F → m_X7_found_h85 SH k43 414 (nI s) (nI n) (nI r) (nI i) F (bI v) (nI k) μ = m_X7_found_b130 SH k43 414 (nI s) (nI n) (nI r) (nI i) (bI (v && allF (shw f s n r i) d k)) μ := by
  intro d
  induction d with
  | zero =>
    intro k F v hk hF
    obtain ⟨F, rfl⟩ : ∃ g, F = g + 1 := ⟨F - 1, by omega⟩
    have e : k = n := by omega
    subst e
    show m_X7_found_b85 SH k43 (m_X7_found_h85 SH k43 414 (nI s) (nI k) (nI r) (nI i) F) 414 (nI s) (nI k) (nI r) (nI i) (bI v) (nI k) μ = m_X7_found_b130 SH k43 414 (nI s) (nI k) (nI r) (nI i) (bI (v && true)) μ
    unfold m_X7_found_b85
    rw [if_pos (Int32.le_refl _), Bool.and_true]
  | succ d ih =>
    intro k F v hk hF
    obtain ⟨F, rfl⟩ : ∃ g, F = g + 1 := ⟨F - 1, by omega⟩
    show m_X7_found_b85 SH k43 (m_X7_found_h85 SH k43 414 (nI s) (nI n) (nI r) (nI i) F) 414 (nI s) (nI n) (nI r) (nI i) (bI v) (nI k) μ = m_X7_found_b130 SH k43 414 (nI s) (nI n) (nI r) (nI i) (bI (v && (shw f s n r i k && allF (shw f s n r i) d (k + 1)))) μ
    have u1 : (nI n ≤ nI k) = False := eq_false (nle_nI (by omega) (by omega))
    cases v with
    | false =>
      rw [Bool.false_and]
      simp only [bd_n, gd_n, ca2_n, ca_n, nbtF, pbfT, Bool.not_true, Bool.not_false, if_true, if_false, m_X7_found_b85, u1]
    | true =>
      rw [Bool.true_and]
      have hc : m_X7_lookOf SH 414 (nI s) (nI (i + k)) 1 μ = some (f (50 + 19 * s + 3 + (4 * (i + k) + 1)), μ) := by
        have := y_lookOf (i := s) (l := i + k) (w := 1) h (by omega)
        rw [show 50 + 19 * s + (3 + 4 * (i + k) + 1) = 50 + 19 * s + 3 + (4 * (i + k) + 1) by omega] at this
        exact this
      have ihT := ih (k + 1) F true (by omega) (by omega)
      have ihF := ih (k + 1) F false (by omega) (by omega)
      rw [Bool.true_and] at ihT
      rw [Bool.false_and] at ihF
      by_cases c : f (50 + 19 * s + 3 + (4 * (i + k) + 1)) = nI (st n r k)
      · rw [show shw f s n r i k = true from decide_eq_true c, Bool.true_and, ← ihT]
        simp only [bd_n, gd_n, ca2_n, ca_n, nbtF, pbfT, Bool.not_true, Bool.not_false, if_true, if_false, m_X7_found_b85, u1, iz7, show nI i + nI k = nI (i + k) from nI_add _ _, hc, y_setOf (μ := μ) (show k < n by omega) hn hr, c, m_X7_found_b122, show nI k + 1 = nI (k + 1) from nI_add _ 1]
        rfl
      · rw [show shw f s n r i k = false from decide_eq_false c, Bool.false_and, ← ihF]
        simp only [bd_n, gd_n, ca2_n, ca_n, nbtF, pbfT, Bool.not_true, Bool.not_false, if_true, if_false, m_X7_found_b85, u1, iz7, show nI i + nI k = nI (i + k) from nI_add _ _, hc, y_setOf (μ := μ) (show k < n by omega) hn hr, c, m_X7_found_b122, show nI k + 1 = nI (k + 1) from nI_add _ 1]
        rfl
theorem y_fnd {μ : Mu} {s n r tt : Nat} {f : Nat → Int32} (h : MR μ f) (hs : s < 8) (h2 : f (50 + 19 * s + 1) = nI tt) (htt : tt ≤ 3) (hn1 : 1 ≤ n) (hn : n ≤ 4) (hr : r < 2 ^ 31) : ∀ (d i F : Nat), i + d = 5 - n → d < F → m_X7_found_h43 SH 414 (nI s) (nI n) (nI r) F (nI i) μ = some (srch (fndB f s n r tt) d i, μ) := by
  intro d
  induction d with
  | zero =>
    intro i F hi hF
    obtain ⟨F, rfl⟩ : ∃ g, F = g + 1 := ⟨F - 1, by omega⟩
    show m_X7_found_b43 SH (m_X7_found_h43 SH 414 (nI s) (nI n) (nI r) F) 414 (nI s) (nI n) (nI r) (nI i) μ = _
    unfold m_X7_found_b43
    have u4 : (4 : Int32) < nI (i + n) := nI_lt (a := 4) (b := i + n) (by omega) (by omega)
    rw [nI_add, if_pos u4]
    rfl
  | succ d ih =>
    intro i F hi hF
    obtain ⟨F, rfl⟩ : ∃ g, F = g + 1 := ⟨F - 1, by omega⟩
    show m_X7_found_b43 SH (m_X7_found_h43 SH 414 (nI s) (nI n) (nI r) F) 414 (nI s) (nI n) (nI r) (nI i) μ = some (if fndB f s n r tt i = true then nI i else srch (fndB f s n r tt) d (i + 1), μ)
    have u1 : ((4 : Int32) < nI (i + n)) = False := eq_false (Int32.not_lt.mpr (nI_le (b := 4) (by omega) (by decide)))
    have hof : m_X7_of SH 414 (nI s) 1 μ = some (nI tt, μ) := by rw [← h2]; exact y_of (w := 1) h (by omega)
    have hsh := fun v => y_shows (k43 := m_X7_found_h43 SH 414 (nI s) (nI n) (nI r) F) (i := i) h hs hn hr (by omega) n 0 FU v (by omega) (by rw [FU_eq]; omega)
    have E : m_X7_found_b43 SH (m_X7_found_h43 SH 414 (nI s) (nI n) (nI r) F) 414 (nI s) (nI n) (nI r) (nI i) μ = m_X7_found_h85 SH (m_X7_found_h43 SH 414 (nI s) (nI n) (nI r) F) 414 (nI s) (nI n) (nI r) (nI i) FU (bI (whB tt i n)) 0 μ := by
      unfold whB
      by_cases c : tt ≤ i
      · have u3 : (nI tt ≤ nI i) = True := eq_true (nI_le c (by omega))
        rw [decide_eq_true c, Bool.true_or]
        simp only [bd_n, gd_n, ca2_n, ca_n, nbtF, pbfT, Bool.not_true, Bool.not_false, if_true, if_false, m_X7_found_b43, nI_add, u1, iz7, hof, u3, m_X7_found_b75, m_X7_found_b80]
        rfl
      · have u3 : (nI tt ≤ nI i) = False := eq_false (nle_nI (by omega) (by omega))
        rw [decide_eq_false c, Bool.false_or]
        by_cases c2 : i + n ≤ tt
        · have u4 : (nI tt < nI (i + n)) = False := eq_false (Int32.not_lt.mpr (nI_le c2 (by omega)))
          rw [decide_eq_true c2]
          simp only [bd_n, gd_n, ca2_n, ca_n, nbtF, pbfT, Bool.not_true, Bool.not_false, if_true, if_false, m_X7_found_b43, nI_add, u1, iz7, hof, u3, u4, m_X7_found_b75, m_X7_found_b80]
          rfl
        · have u4 : (nI tt < nI (i + n)) = True := eq_true (nI_lt (by omega) (by omega))
          rw [decide_eq_false c2]
          simp only [bd_n, gd_n, ca2_n, ca_n, nbtF, pbfT, Bool.not_true, Bool.not_false, if_true, if_false, m_X7_found_b43, nI_add, u1, iz7, hof, u3, u4, m_X7_found_b80]
          rfl
    have hq := hsh (whB tt i n)
    rw [show nI 0 = (0 : Int32) from rfl] at hq
    rw [E, hq]
    show m_X7_found_b130 SH (m_X7_found_h43 SH 414 (nI s) (nI n) (nI r) F) 414 (nI s) (nI n) (nI r) (nI i) (bI (fndB f s n r tt i)) μ = _
    cases hb : fndB f s n r tt i with
    | true =>
      rw [if_pos rfl]
      simp only [bd_n, gd_n, ca2_n, ca_n, nbtF, pbfT, Bool.not_true, Bool.not_false, if_true, if_false, m_X7_found_b130]
    | false =>
      rw [if_neg (by decide)]
      simp only [bd_n, gd_n, ca2_n, ca_n, nbtF, pbfT, Bool.not_true, Bool.not_false, if_true, if_false, m_X7_found_b130, show nI i + 1 = nI (i + 1) from nI_add _ 1]
      exact ih (i + 1) F (by omega) (by omega)
theorem op_found (v w z : Int32) : OpI (m_X6_found SH 1 v w z) (m_X7_found SH 414 v w z) := by
  intro μ σ c iX iM g hc
  have iM' := iM.thr 0
  have hsz := g.gp.sz
  have hk4 : gI μ 11 4 = nI (szF (sN σ).1) := iX.sr.2.2.2.2.1.trans hsz.1
  have hX := x_hasStrip iX.sr.1 hk4 hsz.2 v
  cases hp : isIn v (szF (sN σ).1) with
  | false =>
    refine fin_ro (r := -1) iX iM g ?_ ?_
    · simp only [bd_n, gd_n, ca2_n, ca_n, nbtF, pbfT, Bool.not_true, Bool.not_false, if_true, if_false, m_X6_found, iz6, iz411, iX.1.now, hX, hp]
    · simp only [bd_n, gd_n, ca2_n, ca_n, nbtF, pbfT, Bool.not_true, Bool.not_false, if_true, if_false, m_X7_found, iz7, y_noStrip iM'.1 hsz.1 hsz.2, hp]
  | true =>
  obtain ⟨s, hs, es⟩ := isIn_t hp (by omega)
  subst es
  have one0 : ((0 : Int32) = 0) = True := eq_true rfl
  rcases n14 w with ⟨n, hn1, hn4, ew, hb⟩ | ⟨hw, hb⟩
  · subst ew
    have hy : m_X7_noStrip SH 414 (nI s) (sI μ 414 0 0) = _ := y_noStrip iM'.1 hsz.1 hsz.2 (nI s)
    rcases x_isRow (v := z) (μ := μ) hn1 hn4 with ⟨r, hr, ez, hx⟩ | ⟨hz, hx⟩
    · subst ez
      have hp4 := h100_le n (by omega)
      rcases y_isRow31 (v := nI r) (μ := sI μ 414 0 0) hn1 hn4 with ⟨r2, hr2, ez2, hyr⟩ | ⟨hz2, hyr⟩
      · have e2 : r = r2 := (nI_eq (by omega) (by omega)).mp ez2
        subst e2
        cases ha : allF (fun k => decide (st n r k ≤ 31)) n 0 with
        | false =>
          rw [ha] at hx hyr
          refine fin_ro (r := -2) iX iM g ?_ ?_
          · simp only [bd_n, gd_n, ca2_n, ca_n, nbtF, pbfT, Bool.not_true, Bool.not_false, if_true, if_false, m_X6_found, iz6, iz411, iX.1.now, hX, hp, hx]
          · simp only [bd_n, gd_n, ca2_n, ca_n, nbtF, pbfT, Bool.not_true, Bool.not_false, if_true, if_false, m_X7_found, iz7, hy, hp, y_in, hb, hyr]
        | true =>
          rw [ha] at hx hyr
          obtain ⟨tt, htt, et⟩ := g.gp.torn s hs
          have hst := iX.sr.2.2.2.2.2.2.1 s hs
          have htp := iX.sr.1.tpi (i := s) (by omega)
          have e1 := x_fnd htp hst (hst.2.1.trans et) htt hn1 hn4 (show r < 2 ^ 31 by omega) (5 - n) 0 FU (by omega) (by rw [FU_eq]; omega)
          have e2 := y_fnd iM'.1 (show s < 8 by omega) et htt hn1 hn4 (show r < 2 ^ 31 by omega) (5 - n) 0 FU (by omega) (by rw [FU_eq]; omega)
          rw [show nI 0 = (0 : Int32) from rfl] at e1 e2
          have x1 : ix SH 11 12 (nI s) = true := iX.sr.1.ix1 (by omega)
          have p1 : (nI s).toNatClampNeg = s := nI_clamp (by omega)
          refine fin_ro (r := srch (fndB (sN σ).1 s n r tt) (5 - n) 0) iX iM g ?_ ?_
          · simp only [bd_n, gd_n, ca2_n, ca_n, nbtF, pbfT, Bool.not_true, Bool.not_false, if_true, if_false, m_X6_found, iz6, iz411, iX.1.now, hX, hp, hx, show gR μ 11 5 = 12 from iX.sr.1.2.1, x1, p1, show m_X6_found_h38 SH (nI n) (nI r) (gR μ 12 s) FU 0 μ = _ from e1]
          · simp only [bd_n, gd_n, ca2_n, ca_n, nbtF, pbfT, Bool.not_true, Bool.not_false, if_true, if_false, m_X7_found, iz7, hy, hp, y_in, hb, hyr, e2]
      · rw [isIn_nI hr (by omega)] at hz2
        cases hz2
    · rcases y_isRow31 (v := z) (μ := sI μ 414 0 0) hn1 hn4 with ⟨r2, hr2, ez2, hyr⟩ | ⟨hz2, hyr⟩
      · have hp4 := h100_le n (by omega)
        rw [ez2, isIn_nI hr2 (by omega)] at hz
        cases hz
      · refine fin_ro (r := -2) iX iM g ?_ ?_
        · simp only [bd_n, gd_n, ca2_n, ca_n, nbtF, pbfT, Bool.not_true, Bool.not_false, if_true, if_false, m_X6_found, iz6, iz411, iX.1.now, hX, hp, hx]
        · simp only [bd_n, gd_n, ca2_n, ca_n, nbtF, pbfT, Bool.not_true, Bool.not_false, if_true, if_false, m_X7_found, iz7, hy, hp, y_in, hb, hyr]
  · have hy : m_X7_noStrip SH 414 (nI s) (sI μ 414 0 0) = _ := y_noStrip iM'.1 hsz.1 hsz.2 (nI s)
    have hx : m_X6_isRow SH z w μ = some (0, μ) := by
      unfold m_X6_isRow
      by_cases h1 : w < 1
      · rw [if_pos h1]
      · rw [if_neg h1, if_pos (hw.resolve_left h1)]
    refine fin_ro (r := -2) iX iM g ?_ ?_
    · simp only [bd_n, gd_n, ca2_n, ca_n, nbtF, pbfT, Bool.not_true, Bool.not_false, if_true, if_false, m_X6_found, iz6, iz411, iX.1.now, hX, hp, hx]
    · simp only [bd_n, gd_n, ca2_n, ca_n, nbtF, pbfT, Bool.not_true, Bool.not_false, if_true, if_false, m_X7_found, iz7, hy, hp, y_in, hb]

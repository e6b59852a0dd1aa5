/-! looks in a row: look j is look j % 4 of strip j / 4 -/
def bo (f : Nat → Int32) (j : Nat) : Int32 := f (50 + 19 * (j / 4))
def mi (f : Nat → Int32) (j : Nat) : Int32 := f (50 + 19 * (j / 4) + 3 + 4 * (j % 4))
def se (f : Nat → Int32) (j : Nat) : Int32 := f (50 + 19 * (j / 4) + 3 + (4 * (j % 4) + 1))
def mN (f : Nat → Int32) (j : Nat) : Nat := (mi f j).toNatClampNeg
def sQ (f : Nat → Int32) (j : Nat) : Nat := (se f j).toNatClampNeg
def LkOK (f : Nat → Int32) (N : Nat) : Prop := ∀ j, j < N → mi f j = nI (mN f j) ∧ mN f j < 512 ∧ se f j = nI (sQ f j) ∧ sQ f j < 32
theorem GP.lks {P : Pl} {c : Nat} {f : Nat → Int32} (h : GP P c f) (hc : c < 512) : LkOK f (4 * szF f) := by
  intro j hj
  obtain ⟨k1, ⟨m, hm, k2, k3, k4⟩, k5⟩ := h
  obtain ⟨⟨t, ht, e0⟩, ⟨s, hs, e1⟩, _⟩ := k3 (j / 4) (by omega) (j % 4) (by omega)
  have e0 : mi f j = nI t := e0
  have e1 : se f j = nI s := e1
  have a : mN f j = t := by unfold mN; rw [e0, nI_clamp (by omega)]
  have b : sQ f j = s := by unfold sQ; rw [e1, nI_clamp (by omega)]
  rw [a, b]
  exact ⟨e0, by omega, e1, hs⟩
theorem lin_b {f : Nat → Int32} {i l : Nat} (hl : l < 4) : bo f (4 * i + l) = f (50 + 19 * i) ∧ mi f (4 * i + l) = f (50 + 19 * i + 3 + 4 * l) ∧ se f (4 * i + l) = f (50 + 19 * i + 3 + (4 * l + 1)) := by
  unfold bo mi se
  rw [(lin hl).1, (lin hl).2]
  exact ⟨rfl, rfl, rfl⟩
theorem ys_has {s p : Nat} {μ : Mu} (hs : s < 256) (hp : p < 8) : m_X7_has SH (nI s) (nI p) μ = some (bI (hasB s p), μ) := by
  rw [← hasI s hs p hp]
  unfold m_X7_has
  by_cases c : (nI s >>> (nI p &&& 31)) &&& 1 = 1
  · rw [if_pos c, decide_eq_true c]; rfl
  · rw [if_neg c, decide_eq_false c]; rfl
def isLk (f : Nat → Int32) (b a j : Nat) : Bool := decide (bo f j = nI b) && decide (mi f j = nI a)
/-- the first, and the last -/
def shF (f : Nat → Int32) (b a : Nat) : Nat → Nat → Int32
  | 0, _ => -9
  | d + 1, j => if isLk f b a j = true then se f j else shF f b a d (j + 1)
def shL (f : Nat → Int32) (b a : Nat) : Nat → Int32
  | 0 => -9
  | j + 1 => if isLk f b a j = true then se f j else shL f b a j
theorem x_shown_in {μ : Mu} {i b a R : Nat} {f : Nat → Int32} {k2 : Int32 → Mu → Option (Int32 × Mu)} (h : SR μ 11 f) (hi : i < szF f) (hz : szF f ≤ 8) (hk : k2 (nI (i + 1)) μ = some (shF f b a R (4 * (i + 1)), μ)) : ∀ (d l F : Nat), l + d = 4 → d < F → m_X4_shownAt_h19 SH k2 11 (nI b) (nI a) (nI i) F (nI l) μ = some (shF f b a (R + d) (4 * i + l), μ) := by
  have hst := h.2.2.2.2.2.2.1 i hi
  have htp := h.1.tpi (i := i) (by omega)
  have x1 : ix SH 11 12 (nI i) = true := h.1.ix1 (by omega)
  have p1 : (nI i).toNatClampNeg = i := nI_clamp (by omega)
  intro d
  induction d with
  | zero =>
    intro l F hl hF
    obtain ⟨F, rfl⟩ : ∃ g, F = g + 1 := ⟨F - 1, by omega⟩
    have e : l = 4 := by omega
    subst e
    show m_X4_shownAt_b19 SH k2 (m_X4_shownAt_h19 SH k2 11 (nI b) (nI a) (nI i) F) 11 (nI b) (nI a) (nI i) (nI 4) μ = _
    simp only [bd_n, gd_n, ca2_n, ca_n, nbtF, pbfT, Bool.not_true, Bool.not_false, if_true, if_false, m_X4_shownAt_b19, show ((4 : Int32) ≤ nI 4) = True from eq_true (by decide), m_X4_shownAt_b73, show nI i + 1 = nI (i + 1) from nI_add _ 1, hk]
    rfl
  | succ d ih =>
    intro l F hl hF
    obtain ⟨F, rfl⟩ : ∃ g, F = g + 1 := ⟨F - 1, by omega⟩
    show m_X4_shownAt_b19 SH k2 (m_X4_shownAt_h19 SH k2 11 (nI b) (nI a) (nI i) F) 11 (nI b) (nI a) (nI i) (nI l) μ = some (if isLk f b a (4 * i + l) = true then se f (4 * i + l) else shF f b a (R + d) (4 * i + l + 1), μ)
    obtain ⟨l1, l2, l3⟩ := lin_b (f := f) (i := i) (l := l) (by omega)
    have u1 : ((4 : Int32) ≤ nI l) = False := eq_false (nleL 4 (by omega) (by decide))
    have c0 : m_X5_cell SH (gR μ 12 i) (nI l) 0 μ = some (mi f (4 * i + l), μ) := by
      rw [l2]
      exact (x_cell (w := 0) htp (show l < 4 by omega) (by decide)).trans (by rw [hst.2.2.2 _ (by omega)]; rfl)
    have c1 : m_X5_cell SH (gR μ 12 i) (nI l) 1 μ = some (se f (4 * i + l), μ) := by
      rw [l3]
      exact (x_cell (w := 1) htp (show l < 4 by omega) (by decide)).trans (by rw [hst.2.2.2 _ (by omega)])
    have hb : gI μ (gR μ 12 i) 0 = bo f (4 * i + l) := by rw [l1]; exact hst.1
    have ih' := ih (l + 1) F (by omega) (by omega)
    rw [show 4 * i + (l + 1) = 4 * i + l + 1 by omega] at ih'
    unfold isLk
    by_cases c : bo f (4 * i + l) = nI b
    · rw [decide_eq_true c, Bool.true_and]
      by_cases c2 : mi f (4 * i + l) = nI a
      · rw [decide_eq_true c2, if_pos rfl]
        simp only [bd_n, gd_n, ca2_n, ca_n, nbtF, pbfT, Bool.not_true, Bool.not_false, if_true, if_false, m_X4_shownAt_b19, u1, iz411, show gR μ 11 5 = 12 from h.1.2.1, x1, p1, show iz SH 5 (gR μ 12 i) = true from htp.iz, hb, c, c0, c2, m_X4_shownAt_b54, c1]
      · rw [decide_eq_false c2, if_neg (by decide), ← ih']
        simp only [bd_n, gd_n, ca2_n, ca_n, nbtF, pbfT, Bool.not_true, Bool.not_false, if_true, if_false, m_X4_shownAt_b19, u1, iz411, show gR μ 11 5 = 12 from h.1.2.1, x1, p1, show iz SH 5 (gR μ 12 i) = true from htp.iz, hb, c, c0, c2, m_X4_shownAt_b67, show nI l + 1 = nI (l + 1) from nI_add _ 1]
    · rw [decide_eq_false c, Bool.false_and, if_neg (by decide), ← ih']
      simp only [bd_n, gd_n, ca2_n, ca_n, nbtF, pbfT, Bool.not_true, Bool.not_false, if_true, if_false, m_X4_shownAt_b19, u1, iz411, show gR μ 11 5 = 12 from h.1.2.1, x1, p1, show iz SH 5 (gR μ 12 i) = true from htp.iz, hb, c, m_X4_shownAt_b67, show nI l + 1 = nI (l + 1) from nI_add _ 1]
theorem x_shown_out {μ : Mu} {k b a : Nat} {f : Nat → Int32} (h : SR μ 11 f) (hk : f 202 = nI k) (hk8 : k ≤ 8) : ∀ (d i F : Nat), i + d = k → d < F → m_X4_shownAt_h2 SH 11 (nI b) (nI a) F (nI i) μ = some (shF f b a (4 * d) (4 * i), μ) := by
  have hzk : szF f = k := by unfold szF; rw [hk, nI_clamp (by omega)]
  have h4 : gI μ 11 4 = nI k := h.2.2.2.2.1.trans hk
  intro d
  induction d with
  | zero =>
    intro i F hi hF
    obtain ⟨F, rfl⟩ : ∃ g, F = g + 1 := ⟨F - 1, by omega⟩
    have e : i = k := by omega
    subst e
    show m_X4_shownAt_b2 SH (m_X4_shownAt_h2 SH 11 (nI b) (nI a) F) 11 (nI b) (nI a) (nI i) μ = _
    simp only [bd_n, gd_n, ca2_n, ca_n, nbtF, pbfT, Bool.not_true, Bool.not_false, if_true, if_false, m_X4_shownAt_b2, iz411, h4, show (nI i ≤ nI i) = True from eq_true (Int32.le_refl _)]
    rfl
  | succ d ih =>
    intro i F hi hF
    obtain ⟨F, rfl⟩ : ∃ g, F = g + 1 := ⟨F - 1, by omega⟩
    show m_X4_shownAt_b2 SH (m_X4_shownAt_h2 SH 11 (nI b) (nI a) F) 11 (nI b) (nI a) (nI i) μ = _
    have u1 : (nI k ≤ nI i) = False := eq_false (nle_nI (by omega) (by omega))
    have u2 : ((8 : Int32) ≤ nI i) = False := eq_false (nleL 8 (by omega) (by decide))
    have e := x_shown_in (k2 := m_X4_shownAt_h2 SH 11 (nI b) (nI a) F) (R := 4 * d) h (show i < szF f by omega) (by omega) (ih (i + 1) F (by omega) (by omega)) 4 0 FU (by omega) (by rw [FU_eq]; omega)
    rw [show nI 0 = (0 : Int32) from rfl] at e
    simp only [bd_n, gd_n, ca2_n, ca_n, nbtF, pbfT, Bool.not_true, Bool.not_false, if_true, if_false, m_X4_shownAt_b2, iz411, h4, u1, u2, e]
    rfl
theorem x_shown {μ : Mu} {b a : Nat} {f : Nat → Int32} (h : SR μ 11 f) (hk : f 202 = nI (szF f)) (hk8 : szF f ≤ 8) : m_X4_shownAt SH 11 (nI b) (nI a) μ = some (shF f b a (4 * szF f) 0, μ) := x_shown_out h hk hk8 (szF f) 0 FU (by omega) (by rw [FU_eq]; omega)
theorem y_shown_in {μ : Mu} {i b a : Nat} {f : Nat → Int32} {k6 : Int32 → Int32 → Mu → Option (Int32 × Mu)} (h : MR μ f) (hi : i < 8) : ∀ (d l F : Nat), l + d = 4 → d < F → m_X7_shown_h22 SH k6 414 (nI b) (nI a) (nI i) F (shL f b a (4 * i + l)) (nI l) μ = k6 (shL f b a (4 * (i + 1))) (nI (i + 1)) μ := by
  intro d
  induction d with
  | zero =>
    intro l F hl hF
    obtain ⟨F, rfl⟩ : ∃ g, F = g + 1 := ⟨F - 1, by omega⟩
    have e : l = 4 := by omega
    subst e
    show m_X7_shown_b22 SH k6 (m_X7_shown_h22 SH k6 414 (nI b) (nI a) (nI i) F) 414 (nI b) (nI a) (shL f b a (4 * i + 4)) (nI i) (nI 4) μ = _
    simp only [bd_n, gd_n, ca2_n, ca_n, nbtF, pbfT, Bool.not_true, Bool.not_false, if_true, if_false, m_X7_shown_b22, show ((4 : Int32) ≤ nI 4) = True from eq_true (by decide), m_X7_shown_b72, show nI i + 1 = nI (i + 1) from nI_add _ 1]
    rfl
  | succ d ih =>
    intro l F hl hF
    obtain ⟨F, rfl⟩ : ∃ g, F = g + 1 := ⟨F - 1, by omega⟩
    show m_X7_shown_b22 SH k6 (m_X7_shown_h22 SH k6 414 (nI b) (nI a) (nI i) F) 414 (nI b) (nI a) (shL f b a (4 * i + l)) (nI i) (nI l) μ = _
    obtain ⟨l1, l2, l3⟩ := lin_b (f := f) (i := i) (l := l) (by omega)
    have u1 : ((4 : Int32) ≤ nI l) = False := eq_false (nleL 4 (by omega) (by decide))
    have c0 : m_X7_lookOf SH 414 (nI i) (nI l) 0 μ = some (mi f (4 * i + l), μ) := by
      rw [l2]
      exact (y_lookOf (w := 0) h (show 50 + 19 * i + (3 + 4 * l + 0) < 205 by omega)).trans (by rw [show 50 + 19 * i + (3 + 4 * l + 0) = 50 + 19 * i + 3 + 4 * l by omega])
    have c1 : m_X7_lookOf SH 414 (nI i) (nI l) 1 μ = some (se f (4 * i + l), μ) := by
      rw [l3]
      exact (y_lookOf (w := 1) h (show 50 + 19 * i + (3 + 4 * l + 1) < 205 by omega)).trans (by rw [show 50 + 19 * i + (3 + 4 * l + 1) = 50 + 19 * i + 3 + (4 * l + 1) by omega])
    have hb : m_X7_of SH 414 (nI i) 0 μ = some (bo f (4 * i + l), μ) := by rw [l1]; exact y_of (w := 0) h (by omega)
    rw [← ih (l + 1) F (by omega) (by omega), show 4 * i + (l + 1) = 4 * i + l + 1 by omega]
    have st : shL f b a (4 * i + l + 1) = if isLk f b a (4 * i + l) = true then se f (4 * i + l) else shL f b a (4 * i + l) := rfl
    rw [st]
    unfold isLk
    by_cases c : bo f (4 * i + l) = nI b
    · rw [decide_eq_true c, Bool.true_and]
      by_cases c2 : mi f (4 * i + l) = nI a
      · rw [decide_eq_true c2, if_pos rfl]
        simp only [bd_n, gd_n, ca2_n, ca_n, nbtF, pbfT, Bool.not_true, Bool.not_false, if_true, if_false, m_X7_shown_b22, u1, iz7, hb, c, c0, c2, c1, m_X7_shown_b65, show nI l + 1 = nI (l + 1) from nI_add _ 1]
      · rw [decide_eq_false c2, if_neg (by decide)]
        simp only [bd_n, gd_n, ca2_n, ca_n, nbtF, pbfT, Bool.not_true, Bool.not_false, if_true, if_false, m_X7_shown_b22, u1, iz7, hb, c, c0, c2, m_X7_shown_b64, m_X7_shown_b65, show nI l + 1 = nI (l + 1) from nI_add _ 1]
    · rw [decide_eq_false c, Bool.false_and, if_neg (by decide)]
      simp only [bd_n, gd_n, ca2_n, ca_n, nbtF, pbfT, Bool.not_true, Bool.not_false, if_true, if_false, m_X7_shown_b22, u1, iz7, hb, c, m_X7_shown_b64, m_X7_shown_b65, show nI l + 1 = nI (l + 1) from nI_add _ 1]
theorem y_shown_out {μ : Mu} {k b a : Nat} {f : Nat → Int32} (h : MR μ f) (hk : f 202 = nI k) (hk8 : k ≤ 8) : ∀ (d i F : Nat), i + d = k → d < F → m_X7_shown_h6 SH 414 (nI b) (nI a) F (shL f b a (4 * i)) (nI i) μ = some (shL f b a (4 * k), μ) := by
  have m202 : gI μ 422 202 = nI k := (h.2 202 (by decide)).trans hk
  intro d
  induction d with
  | zero =>
    intro i F hi hF
    obtain ⟨F, rfl⟩ : ∃ g, F = g + 1 := ⟨F - 1, by omega⟩
    have e : i = k := by omega
    subst e
    show m_X7_shown_b6 SH (m_X7_shown_h6 SH 414 (nI b) (nI a) F) 414 (nI b) (nI a) (shL f b a (4 * i)) (nI i) μ = _
    simp only [bd_n, gd_n, ca2_n, ca_n, nbtF, pbfT, Bool.not_true, Bool.not_false, if_true, if_false, m_X7_shown_b6, iz7, h.1.pg, ixL202, c202, m202, show (nI i ≤ nI i) = True from eq_true (Int32.le_refl _)]
  | succ d ih =>
    intro i F hi hF
    obtain ⟨F, rfl⟩ : ∃ g, F = g + 1 := ⟨F - 1, by omega⟩
    show m_X7_shown_b6 SH (m_X7_shown_h6 SH 414 (nI b) (nI a) F) 414 (nI b) (nI a) (shL f b a (4 * i)) (nI i) μ = _
    have u1 : (nI k ≤ nI i) = False := eq_false (nle_nI (by omega) (by omega))
    have e := y_shown_in (k6 := m_X7_shown_h6 SH 414 (nI b) (nI a) F) (b := b) (a := a) h (show i < 8 by omega) 4 0 FU (by omega) (by rw [FU_eq]; omega)
    rw [show nI 0 = (0 : Int32) from rfl, Nat.add_zero, ih (i + 1) F (by omega) (by omega)] at e
    simp only [bd_n, gd_n, ca2_n, ca_n, nbtF, pbfT, Bool.not_true, Bool.not_false, if_true, if_false, m_X7_shown_b6, iz7, h.1.pg, ixL202, c202, m202, u1, e]
theorem y_shown {μ : Mu} {b a : Nat} {f : Nat → Int32} (h : MR μ f) (hk : f 202 = nI (szF f)) (hk8 : szF f ≤ 8) : m_X7_shown SH 414 (nI b) (nI a) μ = some (shL f b a (4 * szF f), μ) := y_shown_out h hk hk8 (szF f) 0 FU (by omega) (by rw [FU_eq]; omega)
theorem shF_no {f : Nat → Int32} {b a : Nat} : ∀ {d j : Nat}, (∀ q, j ≤ q → q < j + d → isLk f b a q = false) → shF f b a d j = -9
  | 0, j, _ => rfl
  | d + 1, j, h => by
    show (if isLk f b a j = true then se f j else shF f b a d (j + 1)) = -9
    rw [h j (by omega) (by omega), if_neg (by decide)]
    exact shF_no (fun q h1 h2 => h q (by omega) (by omega))
theorem shF_at {f : Nat → Int32} {b a q : Nat} (hq : isLk f b a q = true) : ∀ {d j : Nat}, j ≤ q → q < j + d → (∀ z, j ≤ z → z < q → isLk f b a z = false) → shF f b a d j = se f q
  | 0, j, h1, h2, _ => absurd h2 (by omega)
  | d + 1, j, h1, h2, h3 => by
    show (if isLk f b a j = true then se f j else shF f b a d (j + 1)) = se f q
    by_cases e : j = q
    · rw [e, hq, if_pos rfl]
    · rw [h3 j (by omega) (by omega), if_neg (by decide)]
      exact shF_at hq (by omega) (by omega) (fun z hz1 hz2 => h3 z (by omega) hz2)
theorem shL_no {f : Nat → Int32} {b a : Nat} : ∀ {d : Nat}, (∀ q, q < d → isLk f b a q = false) → shL f b a d = -9
  | 0, _ => rfl
  | d + 1, h => by
    show (if isLk f b a d = true then se f d else shL f b a d) = -9
    rw [h d (by omega), if_neg (by decide)]
    exact shL_no (fun q h1 => h q (by omega))
theorem shL_at {f : Nat → Int32} {b a q : Nat} (hq : isLk f b a q = true) : ∀ {d : Nat}, q < d → (∀ z, q < z → z < d → isLk f b a z = false) → shL f b a d = se f q
  | 0, h2, _ => absurd h2 (by omega)
  | d + 1, h2, h3 => by
    show (if isLk f b a d = true then se f d else shL f b a d) = se f q
    by_cases e : d = q
    · rw [e, hq, if_pos rfl]
    · rw [h3 d (by omega) (by omega), if_neg (by decide)]
      exact shL_at hq (by omega) (fun z hz1 hz2 => h3 z hz1 (by omega))
theorem isLk_t {f : Nat → Int32} {b a j : Nat} (h : isLk f b a j = true) : bo f j = nI b ∧ mi f j = nI a := by
  unfold isLk at h
  simp only [Bool.and_eq_true, decide_eq_true_eq] at h
  exact h
/-- one look at most of a booth at a minute -/
theorem GP.one {P : Pl} {c b a : Nat} {f : Nat → Int32} (h : GP P c f) {q z : Nat} (hq : q < 4 * szF f) (hz : z < 4 * szF f) (h1 : isLk f b a q = true) (h2 : isLk f b a z = true) : q = z := by
  have a1 := isLk_t h1
  have a2 := isLk_t h2
  have := h.2.2.2.2.2.2.2.1 (q / 4) (z / 4) (q % 4) (z % 4) (by omega) (by omega) (by omega) (by omega) (a1.1.trans a2.1.symm) (a1.2.trans a2.2.symm)
  omega
theorem GP.sh {P : Pl} {c b a : Nat} {f : Nat → Int32} (h : GP P c f) : shF f b a (4 * szF f) 0 = shL f b a (4 * szF f) := by
  by_cases e : ∃ q, q < 4 * szF f ∧ isLk f b a q = true
  · obtain ⟨q, hq, h1⟩ := e
    have no : ∀ z, z < 4 * szF f → z ≠ q → isLk f b a z = false := fun z hz hne => by
      cases hb : isLk f b a z with
      | false => rfl
      | true => exact absurd (h.one hz hq hb h1) hne
    rw [shF_at h1 (Nat.zero_le _) (by omega) (fun z h2 h3 => no z (by omega) (by omega)), shL_at h1 hq (fun z h2 h3 => no z h3 (by omega))]
  · have no : ∀ z, z < 4 * szF f → isLk f b a z = false := fun z hz => by
      cases hb : isLk f b a z with
      | false => rfl
      | true => exact absurd ⟨z, hz, hb⟩ e
    rw [shF_no (fun z h2 h3 => no z (by omega)), shL_no (fun z h3 => no z h3)]
theorem shL_ok {f : Nat → Int32} {b a : Nat} : ∀ {N : Nat}, LkOK f N → shL f b a N = -9 ∨ ∃ q, q < N ∧ isLk f b a q = true ∧ shL f b a N = nI (sQ f q) ∧ sQ f q < 32
  | 0, _ => Or.inl rfl
  | N + 1, h => by
    have st : shL f b a (N + 1) = if isLk f b a N = true then se f N else shL f b a N := rfl
    cases hb : isLk f b a N with
    | true =>
      rw [hb, if_pos rfl] at st
      have := h N (by omega)
      exact Or.inr ⟨N, by omega, hb, st.trans this.2.2.1, this.2.2.2⟩
    | false =>
      rw [hb, if_neg (by decide)] at st
      rcases shL_ok (b := b) (a := a) (fun j hj => h j (by omega) : LkOK f N) with q | ⟨q, h1, h2, h3, h4⟩
      · exact Or.inl (st.trans q)
      · exact Or.inr ⟨q, by omega, h2, st.trans h3, h4⟩

/-! the reference: pointers, page, plan -/
def Mp (μ : Mu) : Prop := gR μ 414 1 = 415 ∧ gR μ 414 7 = 416 ∧ gR μ 414 8 = 417 ∧ gR μ 414 9 = 418 ∧ gR μ 414 13 = 419 ∧ gR μ 414 14 = 420 ∧ gR μ 414 15 = 421 ∧ gR μ 414 16 = 422 ∧ gR μ 414 18 = 423 ∧ gR μ 414 19 = 424 ∧ gR μ 414 21 = 425 ∧ gR μ 414 22 = 426 ∧ gR μ 414 23 = 427 ∧ gR μ 414 24 = 428 ∧ gR μ 414 25 = 429 ∧ gR μ 414 26 = 430 ∧ gR μ 414 28 = 431
theorem Mp.pg {μ : Mu} (h : Mp μ) : gR μ 414 16 = 422 := h.2.2.2.2.2.2.2.1
theorem Mp.mono {μ μ' : Mu} (h : Mp μ) (hs : ∀ k, gR μ' 414 k = gR μ 414 k) : Mp μ' := by
  unfold Mp at h ⊢
  simp only [hs]
  exact h
theorem iz7 : iz SH 7 414 = true := rfl
/-- the page holds f -/
def MR (μ : Mu) (f : Nat → Int32) : Prop := Mp μ ∧ ∀ k, k < 205 → gI μ 422 k = f k
theorem MR.ix {i : Nat} (hi : i < 205) : ix SH 8 422 (nI i) = true := ix_of (n := 205) rfl hi (by decide)
def MPl (μ : Mu) (P : Pl) : Prop := gI μ 414 4 = nI (pW P) ∧ gI μ 414 5 = nI (pB P) ∧ gI μ 414 6 = nI (pP P) ∧ (∀ b, b < pB P → gI μ 416 b = nI (pF P b) ∧ gI μ 417 b = nI (pE P b)) ∧ ∀ p, p < pP P → gI μ 418 p = nI (pT P p)
/-! in -/
def inL (v a b : Int64) : Bool := decide (a ≤ v) && decide (v ≤ b)
theorem y_in {v a b : Int64} {μ : Mu} : m_X7_in SH v a b μ = some (bI (inL v a b), μ) := by
  unfold m_X7_in
  have e1 : lg_cmp v a < 0 ↔ ¬ a ≤ v := by
    rw [← lg_cmp_ge v a]
    exact Int32.not_le.symm
  have e2 : 0 < lg_cmp v b ↔ ¬ v ≤ b := by
    rw [← lg_cmp_le v b]
    exact Int32.not_le.symm
  by_cases h1 : a ≤ v
  · rw [if_neg (fun q => (e1.mp q) h1)]
    by_cases h2 : v ≤ b
    · rw [if_neg (fun q => (e2.mp q) h2)]
      simp [inL, h1, h2, bI]
    · rw [if_pos (e2.mpr h2)]
      simp [inL, h2, bI]
  · rw [if_pos (e1.mpr h1)]
    simp [inL, h1, bI]
theorem le64 (a b : Int64) : a ≤ b ↔ a.toInt ≤ b.toInt := Int64.le_iff_toInt_le
theorem wide (v : Int32) : v.toInt64.toInt = v.toInt := Int32.toInt_toInt64 v
theorem inL_iff {v : Int32} {a b : Int64} : inL v.toInt64 a b = true ↔ a.toInt ≤ v.toInt ∧ v.toInt ≤ b.toInt := by
  simp only [inL, Bool.and_eq_true, decide_eq_true_eq, le64, wide]
theorem isIn_iff {v : Int32} {n : Nat} (hn : n < 2 ^ 31) : isIn v n = true ↔ 0 ≤ v.toInt ∧ v.toInt < n := by
  simp only [isIn, Bool.and_eq_true, Bool.not_eq_true', decide_eq_false_iff_not, fa_lt, fa_le, nI_toInt hn]
  have : (0 : Int32).toInt = 0 := rfl
  rw [this]
  omega
theorem inL_of {v : Int32} {b : Int64} {n : Nat} (hn : n < 2 ^ 31) (hb : b.toInt = (n : Int) - 1) : inL v.toInt64 0 b = isIn v n := by
  rw [Bool.eq_iff_iff, inL_iff, isIn_iff hn, hb, show (0 : Int64).toInt = 0 from rfl]
  omega
theorem inL_pred {v : Int32} {n : Nat} (hn : n < 2 ^ 30) : inL v.toInt64 0 ((nI n - 1).toInt64) = isIn v n := by
  refine inL_of (by omega) ?_
  rw [wide, show (1 : Int32) = nI 1 from rfl, pk_sub_toInt (by omega) (by decide)]
  rfl
theorem y_noBooth {μ : Mu} {P : Pl} (h : MPl μ P) (hv : PV P) (v : Int32) : m_X7_noBooth SH 414 v μ = some (bI (!isIn v (pB P)), μ) := by
  have := hv.2.1
  unfold m_X7_noBooth
  rw [gd_of iz7, h.2.1, y_in, inL_pred (by omega)]
  cases isIn v (pB P) <;> rfl
theorem y_noOne {μ : Mu} {P : Pl} (h : MPl μ P) (hv : PV P) (v : Int32) : m_X7_noOne SH 414 v μ = some (bI (!isIn v (pP P)), μ) := by
  have := hv.2.2.1
  unfold m_X7_noOne
  rw [gd_of iz7, h.2.2.1, y_in, inL_pred (by omega)]
  cases isIn v (pP P) <;> rfl
theorem c202 : (202 : Int32).toNatClampNeg = 202 := rfl
theorem c203 : (203 : Int32).toNatClampNeg = 203 := rfl
theorem c204 : (204 : Int32).toNatClampNeg = 204 := rfl
theorem c15 : (15 : Int32).toNatClampNeg = 15 := rfl
theorem ixL202 : ix SH 8 422 202 = true := by decide
theorem ixL203 : ix SH 8 422 203 = true := by decide
theorem ixL204 : ix SH 8 422 204 = true := by decide
theorem ixL15 : ix SH 8 422 15 = true := by decide
theorem y_noStrip {μ : Mu} {f : Nat → Int32} {k : Nat} (h : MR μ f) (hk : f 202 = nI k) (hk8 : k ≤ 8) (v : Int32) : m_X7_noStrip SH 414 v μ = some (bI (!isIn v k), μ) := by
  unfold m_X7_noStrip
  simp only [bd, h.1.pg]
  rw [gd_of iz7, gd_of ixL202, c202, h.2 202 (by decide), hk, y_in, inL_pred (by omega)]
  cases isIn v k <;> rfl
theorem of_ix (i w : Nat) : (50 + 19 * nI i) + nI w = nI (50 + 19 * i + w) := by
  rw [show (50 : Int32) = nI 50 from rfl, show (19 : Int32) = nI 19 from rfl, pk_mul, nI_add, nI_add]
theorem y_of {μ : Mu} {f : Nat → Int32} {i w : Nat} (h : MR μ f) (hi : 50 + 19 * i + w < 205) : m_X7_of SH 414 (nI i) (nI w) μ = some (f (50 + 19 * i + w), μ) := by
  unfold m_X7_of
  simp only [bd, h.1.pg]
  rw [gd_of iz7, of_ix, gd_of (MR.ix hi), nI_clamp (by omega), h.2 _ hi]
theorem look_ix (l w : Nat) : (3 + 4 * nI l) + nI w = nI (3 + 4 * l + w) := by
  rw [show (3 : Int32) = nI 3 from rfl, show (4 : Int32) = nI 4 from rfl, pk_mul, nI_add, nI_add]
theorem y_lookOf {μ : Mu} {f : Nat → Int32} {i l w : Nat} (h : MR μ f) (hi : 50 + 19 * i + (3 + 4 * l + w) < 205) : m_X7_lookOf SH 414 (nI i) (nI l) (nI w) μ = some (f (50 + 19 * i + (3 + 4 * l + w)), μ) := by
  unfold m_X7_lookOf
  rw [gd_of iz7, look_ix, y_of h hi]
  rfl
theorem y_in_loop {μ : Mu} {f : Nat → Int32} {P : Pl} {b : Int32} (h : MR μ f) (hP : MPl μ P) (hv : PV P) : ∀ (d i F : Nat), i + d = pP P → d < F → m_X7_inOf_h4 SH 414 b F (inG f b i) (nI i) μ = some (inG f b (pP P), μ) := by
  have h5 := hv.2.2.1
  intro d
  induction d with
  | zero =>
    intro i F hi hF
    obtain ⟨F, rfl⟩ : ∃ g, F = g + 1 := ⟨F - 1, by omega⟩
    have e : i = pP P := by omega
    subst e
    show m_X7_inOf_b4 SH (m_X7_inOf_h4 SH 414 b F) 414 b (inG f b (pP P)) (nI (pP P)) μ = _
    unfold m_X7_inOf_b4
    rw [gd_of iz7, hP.2.2.1, if_pos (Int32.le_refl _)]
  | succ d ih =>
    intro i F hi hF
    obtain ⟨F, rfl⟩ : ∃ g, F = g + 1 := ⟨F - 1, by omega⟩
    show m_X7_inOf_b4 SH (m_X7_inOf_h4 SH 414 b F) 414 b (inG f b i) (nI i) μ = _
    unfold m_X7_inOf_b4 m_X7_inOf_b30
    simp only [bd, h.1.pg]
    rw [gd_of iz7, hP.2.2.1, if_neg (nle_nI (by omega) (by omega)), gd_of (MR.ix (by omega)), nI_clamp (by omega), h.2 i (by omega), nI_1]
    have k := ih (i + 1) F (by omega) (by omega)
    rw [show inG f b (i + 1) = (if f i = b then inG f b i ||| (1 <<< (nI i &&& 31)) else inG f b i) from rfl] at k
    by_cases c : f i = b
    · rw [if_pos c]
      rw [if_pos c] at k
      exact k
    · rw [if_neg c]
      rw [if_neg c] at k
      rw [show inG f b i ||| 0 = inG f b i from by simp]
      exact k
theorem y_inOf {μ : Mu} {f : Nat → Int32} {P : Pl} (h : MR μ f) (hP : MPl μ P) (hv : PV P) (b : Int32) : m_X7_inOf SH 414 b μ = some (inG f b (pP P), μ) := by
  have h5 := hv.2.2.1
  exact y_in_loop h hP hv (pP P) 0 FU (by omega) (by rw [FU_eq]; omega)
theorem y_torn_loop {μ : Mu} {k : Nat} {f : Nat → Int32} (h : MR μ f) (hk : f 202 = nI k) (hk8 : k ≤ 8) (ht : ∀ i, i < k → ∃ t, t ≤ 3 ∧ f (50 + 19 * i + 1) = nI t) : ∀ (d i F : Nat), i + d = k → d < F → m_X7_tornOnes_h4 SH 414 F (tornG f i) (nI i) μ = some (tornG f k, μ) := by
  intro d
  induction d with
  | zero =>
    intro i F hi hF
    obtain ⟨F, rfl⟩ : ∃ g, F = g + 1 := ⟨F - 1, by omega⟩
    have e : i = k := by omega
    subst e
    show m_X7_tornOnes_b4 SH (m_X7_tornOnes_h4 SH 414 F) 414 (tornG f i) (nI i) μ = _
    unfold m_X7_tornOnes_b4
    simp only [bd, h.1.pg]
    rw [gd_of iz7, gd_of ixL202, c202, h.2 202 (by decide), hk, if_pos (Int32.le_refl _)]
  | succ d ih =>
    intro i F hi hF
    obtain ⟨F, rfl⟩ : ∃ g, F = g + 1 := ⟨F - 1, by omega⟩
    show m_X7_tornOnes_b4 SH (m_X7_tornOnes_h4 SH 414 F) 414 (tornG f i) (nI i) μ = _
    unfold m_X7_tornOnes_b4 m_X7_tornOnes_b33
    simp only [bd, h.1.pg]
    have e := y_of (w := 1) h (i := i) (by omega)
    rw [show (nI 1) = (1 : Int32) from rfl] at e
    rw [gd_of iz7, gd_of ixL202, c202, h.2 202 (by decide), hk, if_neg (nle_nI (by omega) (by omega)), e]
    simp only [ca2]
    rw [nI_1]
    have kk := ih (i + 1) F (by omega) (by omega)
    rw [show tornG f (i + 1) = (if f (50 + 19 * i + 1) = 0 then tornG f i else tornG f i ||| (1 <<< (nI i &&& 31))) from rfl] at kk
    obtain ⟨t, ht3, et⟩ := ht i (by omega)
    rw [et] at kk ⊢
    by_cases c : t = 0
    · subst c
      rw [if_pos (by decide), show tornG f i ||| 0 = tornG f i from by simp]
      rw [if_pos (by decide)] at kk
      exact kk
    · rw [if_neg (nI_nle (by omega) (by omega))]
      rw [if_neg (nI_ne0 (by omega) (by omega))] at kk
      exact kk
theorem y_tornOnes {μ : Mu} {k : Nat} {f : Nat → Int32} (h : MR μ f) (hk : f 202 = nI k) (hk8 : k ≤ 8) (ht : ∀ i, i < k → ∃ t, t ≤ 3 ∧ f (50 + 19 * i + 1) = nI t) : m_X7_tornOnes SH 414 μ = some (tornG f k, μ) := y_torn_loop h hk hk8 ht k 0 FU (by omega) (by rw [FU_eq]; omega)
/-! many -/
def mnI (v : Int32) : Nat → Int32
  | 0 => 0
  | i + 1 => mnI v i + ((v >>> (nI i &&& 31)) &&& 1)
theorem y_many_loop {μ : Mu} {v : Int32} : ∀ (d i F : Nat), i + d = 8 → d < F → m_X7_many_h4 SH v F (mnI v i) (nI i) μ = some (mnI v 8, μ) := by
  intro d
  induction d with
  | zero =>
    intro i F hi hF
    obtain ⟨F, rfl⟩ : ∃ g, F = g + 1 := ⟨F - 1, by omega⟩
    have e : i = 8 := by omega
    subst e
    show m_X7_many_b4 SH (m_X7_many_h4 SH v F) v (mnI v 8) (nI 8) μ = _
    unfold m_X7_many_b4
    rw [if_pos (by decide)]
  | succ d ih =>
    intro i F hi hF
    obtain ⟨F, rfl⟩ : ∃ g, F = g + 1 := ⟨F - 1, by omega⟩
    show m_X7_many_b4 SH (m_X7_many_h4 SH v F) v (mnI v i) (nI i) μ = _
    unfold m_X7_many_b4
    simp only [bd]
    rw [if_neg (nleL 8 (by omega) (by decide)), nI_1]
    exact ih (i + 1) F (by omega) (by omega)
theorem mnI_pop : ∀ s, s < 256 → mnI (nI s) 8 = nI (popc s) := by decide +kernel
theorem y_many {μ : Mu} {s : Nat} (hs : s < 256) : m_X7_many SH (nI s) μ = some (nI (popc s), μ) := by
  rw [← mnI_pop s hs]
  exact y_many_loop 8 0 FU rfl (by rw [FU_eq]; omega)

/-! the class's scene: what is read off it -/
theorem nleL (k : Nat) {i : Nat} (h : i < k) (hk : k < 2 ^ 31) : ¬ (OfNat.ofNat k : Int32) ≤ nI i := nI_ge h hk
theorem leL (k : Nat) {i : Nat} (h : k ≤ i) (hk : i < 2 ^ 31) : (OfNat.ofNat k : Int32) ≤ nI i := nI_le h hk
theorem ltL (k : Nat) {i : Nat} (h : i < k) (hk : k < 2 ^ 31) : nI i < (OfNat.ofNat k : Int32) := nI_lt h hk
theorem isInL_f (k : Nat) {v : Int32} (h : isIn v k = false) : v < 0 ∨ (OfNat.ofNat k : Int32) ≤ v := isIn_f h
theorem Sp.sh {μ : Mu} {a d : Nat} (h : Sp μ a) (hd : d < 26) : SH (a + d) = SHs d := scB_sh h.1 hd
theorem Sp.iz {μ : Mu} {a : Nat} (h : Sp μ a) : iz SH 4 a = true := iz_of (n := 10) (h.sh (d := 0) (by omega))
theorem Sp.ix3 {μ : Mu} {a i : Nat} (h : Sp μ a) (hi : i < 5) : ix SH 8 (a + 3) (nI i) = true := ix_of (n := 5) (h.sh (by omega)) hi (by decide)
theorem Sp.ix4 {μ : Mu} {a i : Nat} (h : Sp μ a) (hi : i < 5) : ix SH 8 (a + 4) (nI i) = true := ix_of (n := 5) (h.sh (by omega)) hi (by decide)
theorem Sp.ix5 {μ : Mu} {a i : Nat} (h : Sp μ a) (hi : i < 5) : ix SH 8 (a + 5) (nI i) = true := ix_of (n := 5) (h.sh (by omega)) hi (by decide)
theorem Sp.ix1 {μ : Mu} {a i : Nat} (h : Sp μ a) (hi : i < 8) : ix SH 11 (a + 1) (nI i) = true := ix_of (n := 8) (h.sh (by omega)) hi (by decide)
theorem Sp.ix2 {μ : Mu} {a i : Nat} (h : Sp μ a) (hi : i < 2) : ix SH 11 (a + 2) (nI i) = true := ix_of (n := 2) (h.sh (by omega)) hi (by decide)
/-- a strip object with its row -/
def Tp (μ : Mu) (t : Nat) : Prop := SH t = (5, 5) ∧ SH (t + 1) = (8, 16) ∧ gR μ t 4 = t + 1
theorem Sp.tp {μ : Mu} {a j : Nat} (h : Sp μ a) (hj : j < 10) : Tp μ (a + 6 + 2 * j) := by
  refine ⟨?_, ?_, ?_⟩
  · rw [Nat.add_assoc, h.sh (by omega)]
    have h1 : ¬ (6 + 2 * j = 0) := by omega
    have h2 : ¬ (6 + 2 * j = 1) := by omega
    have h3 : ¬ (6 + 2 * j = 2) := by omega
    have h4 : ¬ (6 + 2 * j ≤ 5) := by omega
    have h5 : (6 + 2 * j) % 2 = 0 := by omega
    unfold SHs
    rw [if_neg h1, if_neg h2, if_neg h3, if_neg h4, if_pos h5]
  · rw [show a + 6 + 2 * j + 1 = a + (7 + 2 * j) by omega, h.sh (by omega)]
    have h1 : ¬ (7 + 2 * j = 0) := by omega
    have h2 : ¬ (7 + 2 * j = 1) := by omega
    have h3 : ¬ (7 + 2 * j = 2) := by omega
    have h4 : ¬ (7 + 2 * j ≤ 5) := by omega
    have h5 : ¬ (7 + 2 * j) % 2 = 0 := by omega
    unfold SHs
    rw [if_neg h1, if_neg h2, if_neg h3, if_neg h4, if_neg h5]
  · rw [h.2.2.2.2.2.2.2.2.2 j hj]
    omega
theorem Sp.tpi {μ : Mu} {a i : Nat} (h : Sp μ a) (hi : i < 8) : Tp μ (gR μ (a + 1) i) := by
  obtain ⟨j, hj, e⟩ := h.st hi
  rw [e]
  exact h.tp (by omega)
theorem Sp.tpb {μ : Mu} {a b : Nat} (h : Sp μ a) (hb : b < 2) : Tp μ (a + 22 + 2 * b) := by
  have := h.tp (j := 8 + b) (by omega)
  rw [show a + 6 + 2 * (8 + b) = a + 22 + 2 * b by omega] at this
  exact this
theorem Tp.iz {μ : Mu} {t : Nat} (h : Tp μ t) : iz SH 5 t = true := iz_of h.1
theorem Tp.ix {μ : Mu} {t k : Nat} (h : Tp μ t) (hk : k < 16) : ix SH 8 (t + 1) (nI k) = true := ix_of h.2.1 hk (by decide)
theorem x_cell {μ : Mu} {t l w : Nat} (h : Tp μ t) (hl : l < 4) (hw : w < 4) : m_X5_cell SH t (nI l) (nI w) μ = some (gI μ (t + 1) (4 * l + w), μ) := by
  unfold m_X5_cell
  have e : nI l * 4 + nI w = nI (4 * l + w) := by
    rw [show (4 : Int32) = nI 4 from rfl, pk_mul, nI_add, Nat.mul_comm]
  rw [if_neg (nlt0 (by omega)), if_neg (nleL 4 hl (by decide)), if_neg (nlt0 (by omega)), if_pos (ltL 4 hw (by decide)), gd_of h.iz, e]
  simp only [bd, h.2.2]
  rw [gd_of (h.ix (by omega)), nI_clamp (by omega)]
theorem x_has {v w : Int32} {μ : Mu} (hw : isIn w 5 = true) : m_X6_has SH v w μ = some (bI (decide ((v >>> (w &&& 31)) &&& 1 = 1)), μ) := by
  obtain ⟨i, hi, rfl⟩ := isIn_t hw (by decide)
  unfold m_X6_has
  rw [if_neg (nlt0 (by omega)), if_neg (nleL 5 hi (by decide))]
  by_cases h : (v >>> (nI i &&& 31)) &&& 1 = 1
  · rw [if_pos h]; simp [h, bI]
  · rw [if_neg h]; simp [h, bI]
theorem x_has0 {v w : Int32} {μ : Mu} (hw : isIn w 5 = false) : m_X6_has SH v w μ = some (0, μ) := by
  unfold m_X6_has
  rcases isInL_f 5 hw with h | h
  · rw [if_pos h]
  · by_cases h0 : w < 0
    · rw [if_pos h0]
    · rw [if_neg h0, if_pos h]
theorem x_isOfPeople {v : Int32} {μ : Mu} : m_X4_isOfPeople SH v μ = some (bI (isIn v 5), μ) := by
  unfold m_X4_isOfPeople
  cases h : isIn v 5
  · rcases isInL_f 5 h with q | q
    · rw [if_pos q]; rfl
    · by_cases h0 : v < 0
      · rw [if_pos h0]; rfl
      · rw [if_neg h0, if_pos q]; rfl
  · obtain ⟨i, hi, rfl⟩ := isIn_t h (by decide)
    rw [if_neg (nlt0 (by omega)), if_neg (nleL 5 hi (by decide))]
    rfl
theorem x_placeOf {μ : Mu} {a p : Nat} (h : Sp μ a) (hp : p < 5) : m_X4_placeOf SH a (nI p) μ = some (gI μ (a + 3) p, μ) := by
  unfold m_X4_placeOf
  rw [x_isOfPeople, isIn_nI hp (by decide)]
  simp only [ca2, bI_t, bd, h.2.2.2.1]
  rw [if_neg (by decide), gd_of h.iz, gd_of (h.ix3 hp), nI_clamp (by omega)]
theorem x_placeOfN {μ : Mu} {a : Nat} : m_X4_placeOf SH a (-9) μ = some (-9, μ) := by
  unfold m_X4_placeOf
  rw [x_isOfPeople, show isIn (-9) 5 = false from by decide]
  simp only [ca2, bI_f, if_true]
theorem x_leftOf {μ : Mu} {a p : Nat} (h : Sp μ a) (hp : p < 5) : m_X4_leftOf SH a (nI p) μ = some (gI μ (a + 4) p, μ) := by
  unfold m_X4_leftOf
  rw [x_isOfPeople, isIn_nI hp (by decide)]
  simp only [ca2, bI_t, bd, h.2.2.2.2.1]
  rw [if_neg (by decide), gd_of h.iz, gd_of (h.ix4 hp), nI_clamp (by omega)]
theorem x_leftAt {μ : Mu} {a p : Nat} (h : Sp μ a) (hp : p < 5) : m_X4_leftAt SH a (nI p) μ = some (gI μ (a + 5) p, μ) := by
  unfold m_X4_leftAt
  rw [x_isOfPeople, isIn_nI hp (by decide)]
  simp only [ca2, bI_t, bd, h.2.2.2.2.2.1]
  rw [if_neg (by decide), gd_of h.iz, gd_of (h.ix5 hp), nI_clamp (by omega)]
theorem x_hasStrip {μ : Mu} {a k : Nat} (h : Sp μ a) (hk : gI μ a 4 = nI k) (hk8 : k ≤ 8) (v : Int32) : m_X4_hasStrip SH a v μ = some (bI (isIn v k), μ) := by
  unfold m_X4_hasStrip
  rw [gd_of h.iz, hk]
  have e := has_gen (v := v) (n := k) (m := 8) hk8 (by decide) (A := some ((1 : Int32), μ)) (B := some ((0 : Int32), μ))
  refine Eq.trans e ?_
  cases isIn v k <;> rfl
theorem x_begunLooks {μ : Mu} {a b : Nat} (h : Sp μ a) (hb : b < 2) : m_X4_begunLooks SH a (nI b) μ = some (gI μ (a + 22 + 2 * b) 1, μ) := by
  unfold m_X4_begunLooks
  rw [if_neg (nlt0 (by omega)), if_neg (nleL 2 hb (by decide)), gd_of h.iz]
  simp only [bd, h.2.2.1]
  rw [gd_of (h.ix2 hb), nI_clamp (by omega), h.2.2.2.2.2.2.1 b hb, gd_of (h.tpb hb).iz]
/-- who is at b, as bits -/
def inG (f : Nat → Int32) (b : Int32) : Nat → Int32
  | 0 => 0
  | p + 1 => if f p = b then inG f b p ||| (1 <<< (nI p &&& 31)) else inG f b p
theorem x_who_loop {μ : Mu} {a : Nat} {f : Nat → Int32} {b : Int32} (h : Sp μ a) (hf : ∀ p, p < 5 → gI μ (a + 3) p = f p) : ∀ (d i F : Nat), i + d = 5 → d < F → m_X4_whoIsIn_h4 SH a b F (inG f b i) (nI i) μ = some (inG f b 5, μ) := by
  intro d
  induction d with
  | zero =>
    intro i F hi hF
    obtain ⟨F, rfl⟩ : ∃ g, F = g + 1 := ⟨F - 1, by omega⟩
    have e : i = 5 := by omega
    subst e
    show m_X4_whoIsIn_b4 SH (m_X4_whoIsIn_h4 SH a b F) a b (inG f b 5) (nI 5) μ = _
    unfold m_X4_whoIsIn_b4
    rw [if_pos (by decide)]
  | succ d ih =>
    intro i F hi hF
    obtain ⟨F, rfl⟩ : ∃ g, F = g + 1 := ⟨F - 1, by omega⟩
    show m_X4_whoIsIn_b4 SH (m_X4_whoIsIn_h4 SH a b F) a b (inG f b i) (nI i) μ = _
    unfold m_X4_whoIsIn_b4 m_X4_whoIsIn_b25
    simp only [bd, h.2.2.2.1]
    rw [if_neg (nleL 5 (by omega) (by decide)), gd_of h.iz, gd_of (h.ix3 (by omega)), nI_clamp (by omega), hf i (by omega), nI_1]
    have k := ih (i + 1) F (by omega) (by omega)
    unfold inG at k
    by_cases c : f i = b
    · rw [if_pos c]
      rw [if_pos c] at k
      exact k
    · rw [if_neg c]
      rw [if_neg c] at k
      exact k
theorem x_whoIsIn {μ : Mu} {a : Nat} {f : Nat → Int32} (h : SR μ a f) (b : Int32) : m_X4_whoIsIn SH a b μ = some (inG f b 5, μ) := x_who_loop h.1 (fun p hp => (h.2.2.2.2.2.1 p hp).1) 5 0 FU rfl (by decide)
/-! bits -/
theorem sh1 : ∀ p, p < 31 → (1 : Int32) <<< (nI p &&& 31) = nI (2 ^ p) := by decide
theorem inG_lt (f : Nat → Int32) (b : Int32) : ∀ N, N ≤ 30 → ∃ s, s < 2 ^ N ∧ inG f b N = nI s
  | 0, _ => ⟨0, by decide, rfl⟩
  | p + 1, h => by
    obtain ⟨s, hs, e⟩ := inG_lt f b p (by omega)
    unfold inG
    by_cases c : f p = b
    · rw [if_pos c, e, sh1 p (by omega), fa_or]
      refine ⟨s ||| 2 ^ p, ?_, rfl⟩
      exact Nat.or_lt_two_pow (Nat.lt_of_lt_of_le hs (Nat.pow_le_pow_right (by decide) (by omega))) (Nat.pow_lt_pow_right (by decide) (by omega))
    · rw [if_neg c, e]
      exact ⟨s, Nat.lt_of_lt_of_le hs (Nat.pow_le_pow_right (by decide) (by omega)), rfl⟩
theorem inG_more {f : Nat → Int32} {b : Int32} {n : Nat} : ∀ {N : Nat}, n ≤ N → (∀ p, n ≤ p → p < N → ¬ f p = b) → inG f b N = inG f b n
  | 0, h, _ => by
    have : n = 0 := by omega
    rw [this]
  | N + 1, h, hn => by
    by_cases e : n = N + 1
    · rw [e]
    · conv => lhs; unfold inG
      rw [if_neg (hn N (by omega) (by omega))]
      exact inG_more (by omega) (fun p h1 h2 => hn p h1 (by omega))
/-- how many bits of the lowest eight -/
def popc (s : Nat) : Nat := s % 2 + s / 2 % 2 + s / 4 % 2 + s / 8 % 2 + s / 16 % 2 + s / 32 % 2 + s / 64 % 2 + s / 128 % 2
def bcI (v0 : Int32) : Int32 :=
  bd (v0 - (((v0.toUInt32 >>> ((1 : Int32).toUInt32 &&& Int32.toUInt32 31)).toInt32) &&& 1431655765)) fun w1 =>
  bd ((w1 &&& 858993459) + (((w1.toUInt32 >>> ((2 : Int32).toUInt32 &&& Int32.toUInt32 31)).toInt32) &&& 858993459)) fun w2 =>
  bd ((w2 + ((w2.toUInt32 >>> ((4 : Int32).toUInt32 &&& Int32.toUInt32 31)).toInt32)) &&& 252645135) fun w3 =>
  bd (w3 + ((w3.toUInt32 >>> ((8 : Int32).toUInt32 &&& Int32.toUInt32 31)).toInt32)) fun w4 =>
  bd (w4 + ((w4.toUInt32 >>> ((16 : Int32).toUInt32 &&& Int32.toUInt32 31)).toInt32)) fun w5 =>
  w5 &&& 63
theorem bcI_pop : ∀ s, s < 256 → bcI (nI s) = nI (popc s) := by decide +kernel
theorem x_bitCount {s : Nat} {μ : Mu} (hs : s < 256) : m_J6_bitCount_0f7a4 SH (nI s) μ = some (nI (popc s), μ) := by
  rw [← bcI_pop s hs]
  rfl
/-- the class's own torn ones, all on a strip -/
def tornG (f : Nat → Int32) : Nat → Int32
  | 0 => 0
  | i + 1 => if f (50 + 19 * i + 1) = 0 then tornG f i else tornG f i ||| (1 <<< (nI i &&& 31))
theorem x_torn_loop {μ : Mu} {a k : Nat} {f : Nat → Int32} (h : SR μ a f) (hk : f 202 = nI k) (hk8 : k ≤ 8) : ∀ (d i F : Nat), i + d = k → d < F → m_X4_tornOnes_h4 SH a F (tornG f i) (nI i) μ = some (tornG f k, μ) := by
  obtain ⟨h0, h1, h2, h3, h4, h5, h6, h7⟩ := h
  have hz : szF f = k := by rw [szF, hk, nI_clamp (by omega)]
  intro d
  induction d with
  | zero =>
    intro i F hi hF
    obtain ⟨F, rfl⟩ : ∃ g, F = g + 1 := ⟨F - 1, by omega⟩
    have e : i = k := by omega
    subst e
    show m_X4_tornOnes_b4 SH (m_X4_tornOnes_h4 SH a F) a (tornG f i) (nI i) μ = _
    unfold m_X4_tornOnes_b4
    rw [gd_of h0.iz, h4, hk, if_pos (Int32.le_refl _)]
  | succ d ih =>
    intro i F hi hF
    obtain ⟨F, rfl⟩ : ∃ g, F = g + 1 := ⟨F - 1, by omega⟩
    show m_X4_tornOnes_b4 SH (m_X4_tornOnes_h4 SH a F) a (tornG f i) (nI i) μ = _
    unfold m_X4_tornOnes_b4 m_X4_tornOnes_b36
    simp only [bd, h0.2.1]
    have ht := h6 i (by omega)
    rw [gd_of h0.iz, h4, hk, if_neg (nle_nI (by omega) (by omega)), if_neg (nleL 8 (by omega) (by decide)), gd_of (h0.ix1 (by omega)), nI_clamp (by omega), gd_of (h0.tpi (by omega)).iz, ht.2.1, nI_1]
    have k := ih (i + 1) F (by omega) (by omega)
    rw [show tornG f (i + 1) = (if f (50 + 19 * i + 1) = 0 then tornG f i else tornG f i ||| (1 <<< (nI i &&& 31))) from rfl] at k
    by_cases c : f (50 + 19 * i + 1) = 0
    · rw [if_pos c]
      rw [if_pos c] at k
      exact k
    · rw [if_neg c]
      rw [if_neg c] at k
      exact k
theorem x_tornOnes {μ : Mu} {a k : Nat} {f : Nat → Int32} (h : SR μ a f) (hk : f 202 = nI k) (hk8 : k ≤ 8) : m_X4_tornOnes SH a μ = some (tornG f k, μ) := x_torn_loop h hk hk8 k 0 FU (by omega) (by rw [FU_eq]; omega)

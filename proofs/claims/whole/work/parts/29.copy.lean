/-! a strip copied -/
theorem x_scopy {μ : Mu} {t u : Nat} (ht : Tp μ t) (hu : Tp μ u) (h1 : u ≠ t) (h2 : u ≠ t + 1) (h3 : u + 1 ≠ t) : ∃ μ', m_X5_copyFrom SH t u μ = some μ' ∧ (∀ x k, gR μ' x k = gR μ x k) ∧ (∀ x k, gJ μ' x k = gJ μ x k) ∧ same (fun x => x ≠ t ∧ x ≠ t + 1) μ μ' ∧ (∀ k, k < 4 → gI μ' t k = gI μ u k) ∧ ∀ k, k < 16 → gI μ' (t + 1) k = gI μ (u + 1) k := by
  refine ⟨cpI (sI (sI (sI (sI μ t 0 (gI μ u 0)) t 1 (gI μ u 1)) t 2 (gI μ u 2)) t 3 (gI μ u 3)) (u + 1) (t + 1) 0 0 16, ?_, ?_⟩
  · unfold m_X5_copyFrom
    rw [gd_of hu.iz, gd_of ht.iz]
    simp only [bd, gI_sI, gR_sI, if_neg h1]
    rw [ht.2.2, hu.2.2, ht.2.1]
    have e : nI 16 = nI 16 := rfl
    have q1 : ixC SH (u + 1) 0 (nI (8, 16).2) = true := ixC_of (p := 0) (k := 16) hu.2.1 (by omega) (by decide)
    have q2 : ixC SH (t + 1) 0 (nI (8, 16).2) = true := ixC_of (p := 0) (k := 16) ht.2.1 (by omega) (by decide)
    rw [gd_of (iz_of ht.2.1), gd_of q1, gd_of q2]
    rfl
  · refine ⟨fun x k => rfl, fun x k => rfl, ?_, ?_, ?_⟩
    · intro x hx
      refine ⟨fun k => ?_, fun _ => rfl, fun _ => rfl⟩
      rw [gI_cpI, if_neg hx.2, gI_sI, if_neg hx.1, gI_sI, if_neg hx.1, gI_sI, if_neg hx.1, gI_sI, if_neg hx.1]
    · intro k hk
      have : ¬ t = t + 1 := by omega
      rw [gI_cpI, if_neg this]
      simp only [gI_sI, if_true]
      rcases (show k = 0 ∨ k = 1 ∨ k = 2 ∨ k = 3 by omega) with rfl | rfl | rfl | rfl <;> simp
    · intro k hk
      have a1 : ¬ u + 1 = t := h3
      rw [gI_cpI, if_pos rfl, if_pos ⟨Nat.zero_le _, by omega⟩]
      simp only [gI_sI, if_neg a1]
      rw [Nat.zero_add, Nat.sub_zero]
/-! a scene copied: the scenes a and b are apart -/
def Cpy (μ0 μi : Mu) (a b n : Nat) : Prop := (∀ x k, gR μi x k = gR μ0 x k) ∧ (∀ x k, gJ μi x k = gJ μ0 x k) ∧ same (fun x => x < a + 6 ∨ a + 22 ≤ x) μ0 μi ∧ ∀ j, j < n → (∀ k, k < 4 → gI μi (gR μ0 (a + 1) j) k = gI μ0 (gR μ0 (b + 1) j) k) ∧ ∀ k, k < 16 → gI μi (gR μ0 (a + 1) j + 1) k = gI μ0 (gR μ0 (b + 1) j + 1) k
theorem x_copy1 {μ0 : Mu} {a b n : Nat} (ha : Sp μ0 a) (hb : Sp μ0 b) (hab : a + 26 ≤ b ∨ b + 26 ≤ a) (hn : gI μ0 a 4 = nI n) (hn8 : n ≤ 8) : ∀ (d i F : Nat) (μi : Mu), i + d = n → d < F → Cpy μ0 μi a b i → ∃ μ', m_X4_copyFrom_h42 SH a b F (nI i) μi = m_X4_copyFrom_b77 SH a b μ' ∧ Cpy μ0 μ' a b n := by
  intro d
  induction d with
  | zero =>
    intro i F μi hi hF hC
    obtain ⟨F, rfl⟩ : ∃ g, F = g + 1 := ⟨F - 1, by omega⟩
    have e : i = n := by omega
    subst e
    refine ⟨μi, ?_, hC⟩
    show m_X4_copyFrom_b42 SH (m_X4_copyFrom_h42 SH a b F) a b (nI i) μi = _
    unfold m_X4_copyFrom_b42
    rw [gd_of ha.iz, hC.2.2.1.I (b := a) (by omega), hn, if_pos (Int32.le_refl _)]
  | succ d ih =>
    intro i F μi hi hF hC
    obtain ⟨F, rfl⟩ : ∃ g, F = g + 1 := ⟨F - 1, by omega⟩
    obtain ⟨c1, c2, c3, c4⟩ := hC
    have ra : gR μi a 5 = a + 1 := (c1 _ _).trans ha.2.1
    have rb : gR μi b 5 = b + 1 := (c1 _ _).trans hb.2.1
    obtain ⟨j, hj, ej⟩ := ha.st (i := i) (by omega)
    obtain ⟨j2, hj2, ej2⟩ := hb.st (i := i) (by omega)
    have hta : Tp μi (gR μ0 (a + 1) i) := by
      have := ha.tpi (i := i) (by omega)
      exact ⟨this.1, this.2.1, (c1 _ _).trans this.2.2⟩
    have htb : Tp μi (gR μ0 (b + 1) i) := by
      have := hb.tpi (i := i) (by omega)
      exact ⟨this.1, this.2.1, (c1 _ _).trans this.2.2⟩
    obtain ⟨μ', e', r', j', s', k1, k2⟩ := x_scopy hta htb (by omega) (by omega) (by omega)
    obtain ⟨μ2, e2, C2⟩ := ih (i + 1) F μ' (by omega) (by omega) ⟨fun x k => (r' x k).trans (c1 x k), fun x k => (j' x k).trans (c2 x k), c3.trans (s'.mono (fun x hx => by omega)), fun q hq => by
      by_cases hqi : q = i
      · subst hqi
        refine ⟨fun k hk => ?_, fun k hk => ?_⟩
        · rw [k1 k hk, c3.I (b := gR μ0 (b + 1) q) (by omega)]
        · rw [k2 k hk, c3.I (b := gR μ0 (b + 1) q + 1) (by omega)]
      · obtain ⟨jq, hjq, ejq⟩ := ha.st (i := q) (by omega)
        have hne : gR μ0 (a + 1) q ≠ gR μ0 (a + 1) i := fun e => hqi (ha.2.2.2.2.2.2.2.2.1 q i (by omega) (by omega) e)
        refine ⟨fun k hk => ?_, fun k hk => ?_⟩
        · rw [s'.I (b := gR μ0 (a + 1) q) ⟨hne, by omega⟩]
          exact (c4 q (by omega)).1 k hk
        · rw [s'.I (b := gR μ0 (a + 1) q + 1) ⟨by omega, by omega⟩]
          exact (c4 q (by omega)).2 k hk⟩
    refine ⟨μ2, ?_, C2⟩
    rw [← e2]
    show m_X4_copyFrom_b42 SH (m_X4_copyFrom_h42 SH a b F) a b (nI i) μi = _
    unfold m_X4_copyFrom_b42
    simp only [bd, ra, rb]
    rw [gd_of ha.iz, c3.I (b := a) (by omega), hn, if_neg (nle_nI (by omega) (by omega)), if_neg (nleL 8 (by omega) (by decide)), gd_of (ha.ix1 (by omega)), nI_clamp (by omega), gd_of hb.iz, gd_of (hb.ix1 (by omega)), c1, c1, gd_of hta.iz, e', ca_s, nI_1]
def Cpb (μ0 μi : Mu) (a b n : Nat) : Prop := (∀ x k, gR μi x k = gR μ0 x k) ∧ (∀ x k, gJ μi x k = gJ μ0 x k) ∧ same (fun x => x < a + 22 ∨ a + 26 ≤ x) μ0 μi ∧ ∀ j, j < n → (∀ k, k < 4 → gI μi (a + 22 + 2 * j) k = gI μ0 (b + 22 + 2 * j) k) ∧ ∀ k, k < 16 → gI μi (a + 22 + 2 * j + 1) k = gI μ0 (b + 22 + 2 * j + 1) k
theorem x_copy2 {μ0 : Mu} {a b : Nat} (ha : Sp μ0 a) (hb : Sp μ0 b) (hab : a + 26 ≤ b ∨ b + 26 ≤ a) : ∀ (d i F : Nat) (μi : Mu), i + d = 2 → d < F → Cpb μ0 μi a b i → ∃ μ', m_X4_copyFrom_h79 SH a b F (nI i) μi = m_X4_copyFrom_b105 SH a b μ' ∧ Cpb μ0 μ' a b 2 := by
  intro d
  induction d with
  | zero =>
    intro i F μi hi hF hC
    obtain ⟨F, rfl⟩ : ∃ g, F = g + 1 := ⟨F - 1, by omega⟩
    have e : i = 2 := by omega
    subst e
    refine ⟨μi, ?_, hC⟩
    show m_X4_copyFrom_b79 SH (m_X4_copyFrom_h79 SH a b F) a b (nI 2) μi = _
    unfold m_X4_copyFrom_b79
    rw [if_pos (by decide)]
  | succ d ih =>
    intro i F μi hi hF hC
    obtain ⟨F, rfl⟩ : ∃ g, F = g + 1 := ⟨F - 1, by omega⟩
    obtain ⟨c1, c2, c3, c4⟩ := hC
    have ra : gR μi a 6 = a + 2 := (c1 _ _).trans ha.2.2.1
    have rb : gR μi b 6 = b + 2 := (c1 _ _).trans hb.2.2.1
    have ra2 : gR μi (a + 2) i = a + 22 + 2 * i := (c1 _ _).trans (ha.2.2.2.2.2.2.1 i (by omega))
    have rb2 : gR μi (b + 2) i = b + 22 + 2 * i := (c1 _ _).trans (hb.2.2.2.2.2.2.1 i (by omega))
    have hta : Tp μi (a + 22 + 2 * i) := by
      have := ha.tpb (b := i) (by omega)
      exact ⟨this.1, this.2.1, (c1 _ _).trans this.2.2⟩
    have htb : Tp μi (b + 22 + 2 * i) := by
      have := hb.tpb (b := i) (by omega)
      exact ⟨this.1, this.2.1, (c1 _ _).trans this.2.2⟩
    obtain ⟨μ', e', r', j', s', k1, k2⟩ := x_scopy hta htb (by omega) (by omega) (by omega)
    obtain ⟨μ2, e2, C2⟩ := ih (i + 1) F μ' (by omega) (by omega) ⟨fun x k => (r' x k).trans (c1 x k), fun x k => (j' x k).trans (c2 x k), c3.trans (s'.mono (fun x hx => by omega)), fun q hq => by
      by_cases hqi : q = i
      · subst hqi
        refine ⟨fun k hk => ?_, fun k hk => ?_⟩
        · rw [k1 k hk, c3.I (b := b + 22 + 2 * q) (by omega)]
        · rw [k2 k hk, c3.I (b := b + 22 + 2 * q + 1) (by omega)]
      · refine ⟨fun k hk => ?_, fun k hk => ?_⟩
        · rw [s'.I (b := a + 22 + 2 * q) ⟨by omega, by omega⟩]
          exact (c4 q (by omega)).1 k hk
        · rw [s'.I (b := a + 22 + 2 * q + 1) ⟨by omega, by omega⟩]
          exact (c4 q (by omega)).2 k hk⟩
    refine ⟨μ2, ?_, C2⟩
    rw [← e2]
    show m_X4_copyFrom_b79 SH (m_X4_copyFrom_h79 SH a b F) a b (nI i) μi = _
    unfold m_X4_copyFrom_b79
    simp only [bd, ra, rb]
    rw [if_neg (nleL 2 (by omega) (by decide)), gd_of ha.iz, gd_of (ha.ix2 (by omega)), nI_clamp (by omega), gd_of hb.iz, gd_of (hb.ix2 (by omega)), ra2, rb2, gd_of hta.iz, e', ca_s, nI_1]
theorem Sp.cps {μ μ' : Mu} {a : Nat} (h : Sp μ a) (hr : ∀ x k, gR μ' x k = gR μ x k) : Sp μ' a := by
  obtain ⟨k0, k1, k2, k3, k4, k5, k6, k7, k8, k9⟩ := h
  exact ⟨k0, (hr _ _).trans k1, (hr _ _).trans k2, (hr _ _).trans k3, (hr _ _).trans k4, (hr _ _).trans k5, fun i hi => (hr _ _).trans (k6 i hi), fun i hi => by rw [hr]; exact k7 i hi, fun i j hi hj => by rw [hr, hr]; exact k8 i j hi hj, fun j hj => (hr _ _).trans (k9 j hj)⟩
theorem c0L : (0 : Int32).toNatClampNeg = 0 := rfl
theorem c5L : (5 : Int32).toNatClampNeg = 5 := rfl
theorem x_copyFrom {μ : Mu} {a b : Nat} {f : Nat → Int32} (ha : Sp μ a) (hb : SR μ b f) (hab : a + 26 ≤ b ∨ b + 26 ≤ a) (hf : f 202 = nI (szF f)) (hz : szF f ≤ 8) (hlk : ∀ q, q < 2 → lkF f q ≤ 4) : ∃ μ', m_X4_copyFrom SH a b μ = some μ' ∧ SR μ' a f ∧ gJ μ' a 0 = gJ μ b 0 ∧ (∀ x k, gR μ' x k = gR μ x k) ∧ same (fun x => x < a ∨ a + 26 ≤ x) μ μ' := by
  obtain ⟨hb0, b1, b2, b3, b4, b5, b6, b7⟩ := hb
  have hne : ¬ b = a := by omega
  obtain ⟨μ0, hμ0⟩ : ∃ m, m = sI (sI (sI (sI (sJ μ a 0 (gJ μ b 0)) a 1 (gI μ b 1)) a 2 (gI μ b 2)) a 3 (gI μ b 3)) a 4 (gI μ b 4) := ⟨_, rfl⟩
  have r0 : ∀ x k, gR μ0 x k = gR μ x k := fun x k => by rw [hμ0]; rfl
  have s0 : same (fun x => x ≠ a) μ μ0 := by
    rw [hμ0]
    exact ((((same_sJ (by simp)).trans (same_sI (by simp))).trans (same_sI (by simp))).trans (same_sI (by simp))).trans (same_sI (by simp))
  have g1 : gI μ0 a 1 = gI μ b 1 := by rw [hμ0]; simp [gI_sI]
  have g2 : gI μ0 a 2 = gI μ b 2 := by rw [hμ0]; simp [gI_sI]
  have g3 : gI μ0 a 3 = gI μ b 3 := by rw [hμ0]; simp [gI_sI]
  have g4 : gI μ0 a 4 = gI μ b 4 := by rw [hμ0]; simp [gI_sI]
  have gj : gJ μ0 a 0 = gJ μ b 0 := by rw [hμ0]; simp [gJ_sI, gJ_sJ]
  have ha0 := ha.cps r0
  have hb00 := hb0.cps r0
  have hn : gI μ0 a 4 = nI (szF f) := g4.trans (b4.trans hf)
  obtain ⟨μ1, e1, C1⟩ := x_copy1 ha0 hb00 hab hn hz (szF f) 0 FU μ0 (by omega) (by rw [FU_eq]; omega) ⟨fun _ _ => rfl, fun _ _ => rfl, same.rf, fun j hj => absurd hj (by omega)⟩
  obtain ⟨c11, c12, c13, c14⟩ := C1
  have r1 : ∀ x k, gR μ1 x k = gR μ x k := fun x k => (c11 x k).trans (r0 x k)
  obtain ⟨μ2, e2, C2⟩ := x_copy2 (μ0 := μ1) (ha.cps r1) (hb0.cps r1) hab 2 0 FU μ1 rfl (by rw [FU_eq]; omega) ⟨fun _ _ => rfl, fun _ _ => rfl, same.rf, fun j hj => absurd hj (by omega)⟩
  obtain ⟨c21, c22, c23, c24⟩ := C2
  have r2 : ∀ x k, gR μ2 x k = gR μ x k := fun x k => (c21 x k).trans (r1 x k)
  have hA := ha.cps r2
  have hB := hb0.cps r2
  obtain ⟨μ3, hμ3⟩ : ∃ m, m = cpI (cpI (cpI μ2 (b + 3) (a + 3) 0 0 5) (b + 4) (a + 4) 0 0 5) (b + 5) (a + 5) 0 0 5 := ⟨_, rfl⟩
  have r3 : ∀ x k, gR μ3 x k = gR μ x k := fun x k => by rw [hμ3]; exact r2 x k
  have j3 : ∀ x k, gJ μ3 x k = gJ μ0 x k := fun x k => by rw [hμ3]; exact (c22 x k).trans (c12 x k)
  have s3 : same (fun x => x ≠ a + 3 ∧ x ≠ a + 4 ∧ x ≠ a + 5) μ2 μ3 := by
    rw [hμ3]
    exact ((same_cpI (by simp)).trans (same_cpI (by simp))).trans (same_cpI (by simp))
  have sb : same (fun x => b ≤ x ∧ x < b + 26) μ μ2 := ((s0.mono (fun x hx => by omega)).trans (c13.mono (fun x hx => by omega))).trans (c23.mono (fun x hx => by omega))
  have p3 : ∀ d, d = 3 ∨ d = 4 ∨ d = 5 → ∀ p, p < 5 → gI μ3 (a + d) p = gI μ (b + d) p := by
    intro d hd p hp
    rw [← sb.I (b := b + d) (by omega) p, hμ3]
    rcases hd with rfl | rfl | rfl
    · rw [gI_cpI, if_neg (by omega), gI_cpI, if_neg (by omega), gI_cpI, if_pos rfl, if_pos ⟨Nat.zero_le _, by omega⟩, Nat.zero_add, Nat.sub_zero]
    · rw [gI_cpI, if_neg (by omega), gI_cpI, if_pos rfl, if_pos ⟨Nat.zero_le _, by omega⟩, gI_cpI, if_neg (by omega), Nat.zero_add, Nat.sub_zero]
    · rw [gI_cpI, if_pos rfl, if_pos ⟨Nat.zero_le _, by omega⟩, gI_cpI, if_neg (by omega), gI_cpI, if_neg (by omega), Nat.zero_add, Nat.sub_zero]
  refine ⟨μ3, ?_, ⟨ha.cps r3, ?_, ?_, ?_, ?_, ?_, ?_, ?_⟩, ?_, r3, ?_⟩
  · have e0 : m_X4_copyFrom SH a b μ = m_X4_copyFrom_h42 SH a b FU (nI 0) μ0 := by
      unfold m_X4_copyFrom
      rw [gd_of hb0.iz, gd_of ha.iz]
      simp only [bd, gI_sI, gI_sJ, if_neg hne]
      rw [hμ0]
      rfl
    rw [e0, e1]
    unfold m_X4_copyFrom_b77
    refine Eq.trans e2 ?_
    unfold m_X4_copyFrom_b105
    have q : ∀ d, d = 3 ∨ d = 4 ∨ d = 5 → SH (a + d) = (8, 5) ∧ SH (b + d) = (8, 5) := by
      intro d hd
      rcases hd with rfl | rfl | rfl
      · exact ⟨ha.sh (by decide), hb0.sh (by decide)⟩
      · exact ⟨ha.sh (by decide), hb0.sh (by decide)⟩
      · exact ⟨ha.sh (by decide), hb0.sh (by decide)⟩
    have qc : ∀ x, SH x = (8, 5) → ixC SH x 0 5 = true := fun x hx => ixC_of (p := 0) (k := 5) hx (by omega) (by decide)
    simp only [bd, gR_cpI, hA.2.2.2.1, hA.2.2.2.2.1, hA.2.2.2.2.2.1, hB.2.2.2.1, hB.2.2.2.2.1, hB.2.2.2.2.2.1, c0L, c5L]
    rw [gd_of hB.iz, gd_of hA.iz, gd_of (qc _ (q 3 (by decide)).2), gd_of (qc _ (q 3 (by decide)).1), gd_of (qc _ (q 4 (by decide)).2), gd_of (qc _ (q 4 (by decide)).1), gd_of (qc _ (q 5 (by decide)).2), gd_of (qc _ (q 5 (by decide)).1), hμ3]
  · rw [s3.I (b := a) (by omega), c23.I (b := a) (by omega), c13.I (b := a) (by omega), g1]; exact b1
  · rw [s3.I (b := a) (by omega), c23.I (b := a) (by omega), c13.I (b := a) (by omega), g2]; exact b2
  · rw [s3.I (b := a) (by omega), c23.I (b := a) (by omega), c13.I (b := a) (by omega), g3]; exact b3
  · rw [s3.I (b := a) (by omega), c23.I (b := a) (by omega), c13.I (b := a) (by omega), g4]; exact b4
  · intro p hp
    rw [p3 3 (by decide) p hp, p3 4 (by decide) p hp, p3 5 (by decide) p hp]
    exact b5 p hp
  · intro i hi
    rw [r3]
    obtain ⟨j, hj, ej⟩ := ha.st (i := i) (by omega)
    obtain ⟨j2, hj2, ej2⟩ := hb0.st (i := i) (by omega)
    have k1 := (c14 i hi).1
    have k2 := (c14 i hi).2
    rw [r0, r0] at k1 k2
    have fwd : ∀ x k, a + 6 ≤ x → x < a + 22 → gI μ3 x k = gI μ1 x k := fun x k h1 h2 => by rw [s3.I (b := x) (by omega), c23.I (b := x) (by omega)]
    have bck : ∀ x k, b ≤ x → x < b + 26 → gI μ0 x k = gI μ x k := fun x k h1 h2 => s0.I (b := x) (by omega) k
    obtain ⟨w1, w2, w3, w4⟩ := b6 i hi
    refine ⟨?_, ?_, ?_, fun k hk => ?_⟩
    · rw [fwd _ _ (by omega) (by omega), k1 0 (by decide), bck _ _ (by omega) (by omega)]; exact w1
    · rw [fwd _ _ (by omega) (by omega), k1 2 (by decide), bck _ _ (by omega) (by omega)]; exact w2
    · rw [fwd _ _ (by omega) (by omega), k1 3 (by decide), bck _ _ (by omega) (by omega)]; exact w3
    · rw [fwd _ _ (by omega) (by omega), k2 k hk, bck _ _ (by omega) (by omega)]; exact w4 k hk
  · intro q hq
    have k1 := (c24 q hq).1
    have k2 := (c24 q hq).2
    have fwd : ∀ x k, a + 22 ≤ x → x < a + 26 → gI μ3 x k = gI μ2 x k := fun x k h1 h2 => s3.I (b := x) (by omega) k
    have bck : ∀ x k, b ≤ x → x < b + 26 → gI μ1 x k = gI μ x k := fun x k h1 h2 => by rw [c13.I (b := x) (by omega), s0.I (b := x) (by omega)]
    obtain ⟨w1, w2, w3, w4, w5⟩ := b7 q hq
    have := hlk q hq
    refine ⟨?_, ?_, ?_, ?_, fun k hk => ?_⟩
    · rw [fwd _ _ (by omega) (by omega), k1 0 (by decide), bck _ _ (by omega) (by omega)]; exact w1
    · rw [fwd _ _ (by omega) (by omega), k1 1 (by decide), bck _ _ (by omega) (by omega)]; exact w2
    · rw [fwd _ _ (by omega) (by omega), k1 2 (by decide), bck _ _ (by omega) (by omega)]; exact w3
    · rw [fwd _ _ (by omega) (by omega), k1 3 (by decide), bck _ _ (by omega) (by omega)]; exact w4
    · rw [fwd _ _ (by omega) (by omega), k2 k (by omega), bck _ _ (by omega) (by omega)]; exact w5 k hk
  · rw [j3]; exact gj
  · refine ((s0.mono (fun x hx => by omega)).trans ((c13.mono (fun x hx => by omega)).trans (c23.mono (fun x hx => by omega)))).trans (s3.mono (fun x hx => by omega))

/-! together: the class counts -/
def GF (μ0 μ : Mu) (f : Nat → Int32) : Prop := GB μ0 μ f ∧ ∀ k, k < mT f → gI μ 355 k = nI (mk (cE f k) (mT f))
theorem GF.w {μ0 μ : Mu} {f : Nat → Int32} {k : Nat} {v : Int32} (h : GF μ0 μ f) : GF μ0 (sI μ 356 k v) f := ⟨h.1.w (by decide), fun j hj => by rw [gI_o (by decide)]; exact h.2 j hj⟩
theorem x_fits {μ0 μ : Mu} {f : Nat → Int32} {l : Nat} (h : GF μ0 μ f) (hp : P3 μ0) (h8 : mT f ≤ 8) (hl : l < mT f) : m_X0_fitsOf SH 353 (nI l) μ = some (nI (mk (cE f l) (mT f)), μ) := by
  have n0 : (nI l < 0) = False := eq_false (nlt0 (by omega))
  have n1 : (nI (mT f) ≤ nI l) = False := eq_false (nle_nI hl (by omega))
  have n2 : ((8 : Int32) ≤ nI l) = False := eq_false (nleL 8 (by omega) (by decide))
  have p2 : gR μ 353 2 = 355 := by rw [h.1.1.2]; exact hp.2.1
  have x1 : ix SH 8 355 (nI l) = true := ix_of (n := 8) rfl (by omega) (by decide)
  simp only [bd_n, gd_n, ca2_n, ca_n, nbtF, pbfT, Bool.not_true, Bool.not_false, if_true, if_false, m_X0_fitsOf, n0, iz0, h.1.2.1, n1, n2, p2, x1, nI_clamp (show l < 2 ^ 31 by omega), h.2 l hl]
def lb (s : Nat) : Nat := if s % 2 = 1 then 0 else if s / 2 % 2 = 1 then 1 else if s / 4 % 2 = 1 then 2 else if s / 8 % 2 = 1 then 3 else if s / 16 % 2 = 1 then 4 else if s / 32 % 2 = 1 then 5 else if s / 64 % 2 = 1 then 6 else 7
theorem lb_all : ∀ s, s < 256 → s ≠ 0 → lb s < 8 ∧ hasB s (lb s) = true ∧ 2 ^ lb s ≤ s ∧ nI s &&& (nI s - 1) = nI (s - 2 ^ lb s) := by decide +kernel
def nt74 (v0 v1 : Int32) : Int32 := v1 + ((v0.toUInt32 >>> ((1 : Int32).toUInt32 &&& Int32.toUInt32 31)).toInt32)
def nt62 (v0 v1 : Int32) : Int32 := if v0 ≤ 4 then nt74 v0 v1 else nt74 ((v0.toUInt32 >>> ((2 : Int32).toUInt32 &&& Int32.toUInt32 31)).toInt32) (v1 + 2)
def nt49 (v0 v1 : Int32) : Int32 := if v0 ≤ 16 then nt62 v0 v1 else nt62 ((v0.toUInt32 >>> ((4 : Int32).toUInt32 &&& Int32.toUInt32 31)).toInt32) (v1 + 4)
def nt34 (v0 v1 : Int32) : Int32 := if v0 ≤ 256 then nt49 v0 v1 else nt49 ((v0.toUInt32 >>> ((8 : Int32).toUInt32 &&& Int32.toUInt32 31)).toInt32) (v1 + 8)
theorem nt62_ {v0 v1 : Int32} {μ : Mu} : m_J6_numberOfTrailingZeros_0f7a4_b62 SH v0 v1 μ = some (nt62 v0 v1, μ) := by
  unfold m_J6_numberOfTrailingZeros_0f7a4_b62 nt62
  split <;> rfl
theorem nt49_ {v0 v1 : Int32} {μ : Mu} : m_J6_numberOfTrailingZeros_0f7a4_b49 SH v0 v1 μ = some (nt49 v0 v1, μ) := by
  unfold m_J6_numberOfTrailingZeros_0f7a4_b49 nt49
  split
  · exact nt62_
  · exact nt62_
theorem nt34_ {v0 v1 : Int32} {μ : Mu} : m_J6_numberOfTrailingZeros_0f7a4_b34 SH v0 v1 μ = some (nt34 v0 v1, μ) := by
  unfold m_J6_numberOfTrailingZeros_0f7a4_b34 nt34
  split
  · exact nt49_
  · exact nt49_
theorem nt_all : ∀ s, s < 256 → s ≠ 0 → (0 < ((nI s ^^^ (-1)) &&& (nI s - 1)) → ((nI s ^^^ (-1)) &&& (nI s - 1)) ≤ 65536 ∧ nt34 ((nI s ^^^ (-1)) &&& (nI s - 1)) 1 = nI (lb s)) ∧ (¬ 0 < ((nI s ^^^ (-1)) &&& (nI s - 1)) → ((nI s ^^^ (-1)) &&& (nI s - 1)) &&& 32 = nI (lb s)) := by decide +kernel
theorem x_ntz {s : Nat} {μ : Mu} (hs : s < 256) (h0 : s ≠ 0) : m_J6_numberOfTrailingZeros_0f7a4 SH (nI s) μ = some (nI (lb s), μ) := by
  have h := nt_all s hs h0
  unfold m_J6_numberOfTrailingZeros_0f7a4
  rw [bd_n]
  by_cases q : 0 < ((nI s ^^^ (-1)) &&& (nI s - 1))
  · rw [if_pos q, if_pos (h.1 q).1, nt34_, (h.1 q).2]
  · rw [if_neg q, h.2 q]
theorem x_mn2 {a b : Nat} {μ : Mu} (ha : a < 2 ^ 31) (hb : b < 2 ^ 31) : m_J9_min_7cf53 SH (nI a) (nI b) μ = some (nI (min a b), μ) := by
  unfold m_J9_min_7cf53
  by_cases h : b < a
  · rw [if_pos (nI_lt h ha), Nat.min_eq_right (by omega)]
  · rw [if_neg (nI_nlt (by omega) hb), Nat.min_eq_left (by omega)]
theorem sub_3 : ∀ m, m < 9 → ∀ a, a < 9 → ∀ b, b < 9 → a ≤ m + b → nI m - (nI a - nI b) = nI (m + b - a) := by decide +kernel
theorem sh_m : ∀ m, m < 9 → (1 : Int32) <<< (nI m &&& 31) = nI (2 ^ m) ∧ (1 : Int32) <<< (nI m &&& 31) - 1 = nI (2 ^ m - 1) ∧ 2 ^ m ≤ 256 := by decide +kernel
theorem pop9 : ∀ s, s < 256 → popc s < 9 := by decide +kernel
theorem mnD_m {D : Nat → Nat} {m : Nat} : ∀ k, mnD D m k ≤ m
  | 0 => Nat.le_refl m
  | k + 1 => by have := mnD_m (D := D) (m := m) k; show min (mnD D m k) (D k) ≤ m; omega
theorem iz56 : iz SH 8 356 = true := rfl
theorem len56 : (SH 356).2 = 256 := rfl
theorem x_put_loop {μ0 : Mu} {f : Nat → Int32} (hp : P3 μ0) (hz : szF f ≤ 8) : ∀ (d s F : Nat) (μ : Mu), s + d = 2 ^ mT f → d < F → 1 ≤ s → GF μ0 μ f → (∀ u, u < s → gI μ 356 u = nI (NBm (tT f) (gE f) (szF f) u)) → ∃ μ', m_X0_putTogetherAtMost_h14 SH 353 F (nI (mnD (Dm (tT f) (gE f) (szF f)) (mT f) s)) (nI s) μ = some (nI (mnD (Dm (tT f) (gE f) (szF f)) (mT f) (2 ^ mT f)), μ') ∧ SC μ0 μ' := by
  have m8 : mT f ≤ 8 := Nat.le_trans (cn_le _ _) hz
  obtain ⟨sh1, sh2, sh3⟩ := sh_m (mT f) (by omega)
  intro d
  induction d with
  | zero =>
    intro s F μ hs hF s1 hg ht
    obtain ⟨F, rfl⟩ : ∃ g, F = g + 1 := ⟨F - 1, by omega⟩
    have e : s = 2 ^ mT f := by omega
    subst e
    refine ⟨μ, ?_, hg.1.1⟩
    show m_X0_putTogetherAtMost_b14 SH (m_X0_putTogetherAtMost_h14 SH 353 F) 353 _ (nI (2 ^ mT f)) μ = _
    have h : (nI (2 ^ mT f) ≤ nI (2 ^ mT f)) = True := eq_true (nI_le (by omega) (by omega))
    simp only [bd_n, gd_n, ca2_n, ca_n, nbtF, pbfT, Bool.not_true, Bool.not_false, if_true, if_false, m_X0_putTogetherAtMost_b14, iz0, hg.1.2.1, sh1, h]
  | succ d ih =>
    intro s F μ hs hF s1 hg ht
    obtain ⟨F, rfl⟩ : ∃ g, F = g + 1 := ⟨F - 1, by omega⟩
    have s8 : s < 256 := by omega
    obtain ⟨l1, l2, l3, l4⟩ := lb_all s s8 (by omega)
    have lm : lb s < mT f := Nat.lt_of_not_le (fun q => by rw [hasB_ge (show s < 2 ^ mT f by omega) q] at l2; cases l2)
    have pos := Nat.two_pow_pos (lb s)
    have n1 : (nI (2 ^ mT f) ≤ nI s) = False := eq_false (nle_nI (by omega) (by omega))
    have n2 : (nI 256 ≤ nI s) = False := eq_false (nle_nI (by omega) (by decide))
    have p3 : gR μ 353 3 = 356 := by rw [hg.1.1.2]; exact hp.2.2
    have x1 : ix SH 8 356 (nI s) = true := ix_of (n := 256) rfl s8 (by decide)
    have x2 : ix SH 8 356 (nI (s - 2 ^ lb s)) = true := ix_of (n := 256) rfl (by omega) (by decide)
    have t1 := ht (s - 2 ^ lb s) (by omega)
    have nb8 : NBm (tT f) (gE f) (szF f) s < 256 := Nat.lt_of_lt_of_le (mk_lt _ _) sh3
    have or1 : nI (NBm (tT f) (gE f) (szF f) (s - 2 ^ lb s)) ||| nI (mk (cE f (lb s)) (mT f)) = nI (NBm (tT f) (gE f) (szF f) s) := by
      rw [fa_or, nbm_st s8 lm l1 l2]
    have pb := pop9 s s8
    have pn := pop9 _ nb8
    have pm : popc s ≤ mT f := by rw [pop_m m8 (show s < 2 ^ mT f by omega)]; exact cn_le _ _
    have sb : nI (mT f) - (nI (popc s) - nI (popc (NBm (tT f) (gE f) (szF f) s))) = nI (Dm (tT f) (gE f) (szF f) s) := sub_3 _ (by omega) _ pb _ pn (by omega)
    have dm : Dm (tT f) (gE f) (szF f) s ≤ 16 := by
      have dd : Dm (tT f) (gE f) (szF f) s = mT f + popc (NBm (tT f) (gE f) (szF f) s) - popc s := rfl
      omega
    have mm := mnD_m (D := Dm (tT f) (gE f) (szF f)) (m := mT f) s
    obtain ⟨μ', e1, e2⟩ := ih (s + 1) F (sI μ 356 s (nI (NBm (tT f) (gE f) (szF f) s))) (by omega) (by omega) (by omega) hg.w (fun u hu => by
      by_cases q : u = s
      · rw [q, gI_w]
      · rw [gI_k q]; exact ht u (by omega))
    refine ⟨μ', ?_, e2⟩
    show m_X0_putTogetherAtMost_b14 SH (m_X0_putTogetherAtMost_h14 SH 353 F) 353 _ (nI s) μ = _
    have hm : ∀ μ, m_J9_min_7cf53 SH (nI (mnD (Dm (tT f) (gE f) (szF f)) (mT f) s)) (nI (Dm (tT f) (gE f) (szF f) s)) μ = some (nI (mnD (Dm (tT f) (gE f) (szF f)) (mT f) (s + 1)), μ) := fun μ => x_mn2 (by omega) (by omega)
    simp only [bd_n, gd_n, ca2_n, ca_n, nbtF, pbfT, Bool.not_true, Bool.not_false, if_true, if_false, m_X0_putTogetherAtMost_b14, iz0, hg.1.2.1, sh1, n1, p3, iz56, len56, n2, l4, x2, nI_clamp (show s - 2 ^ lb s < 2 ^ 31 by omega), t1, x_ntz s8 (show s ≠ 0 by omega), x_fits hg hp m8 lm, x1, nI_clamp (show s < 2 ^ 31 by omega), or1, x_bitCount s8, gI_w, x_bitCount nb8, gI_o (show 353 ≠ 356 by decide), sb, hm, gR_sI, show nI s + 1 = nI (s + 1) from nI_add _ 1]
    exact e1
theorem x_put {μ0 μ : Mu} {f : Nat → Int32} (hp : P3 μ0) (hz : szF f ≤ 8) (hg : GF μ0 μ f) : ∃ μ', m_X0_putTogetherAtMost SH 353 μ = some (nI (Mt (E1 (tT f) (gE f)) (szF f) (szF f) (tT f)), μ') ∧ SC μ0 μ' := by
  have m8 : mT f ≤ 8 := Nat.le_trans (cn_le _ _) hz
  obtain ⟨sh1, sh2, sh3⟩ := sh_m (mT f) (by omega)
  have pos := Nat.two_pow_pos (mT f)
  have p3 : gR μ 353 3 = 356 := by rw [hg.1.1.2]; exact hp.2.2
  obtain ⟨μ', e1, e2⟩ := x_put_loop hp hz (2 ^ mT f - 1) 1 FU (sI μ 356 0 0) (by omega) (by rw [FU_eq]; omega) (by omega) hg.w (fun u hu => by
    have : u = 0 := by omega
    subst this
    rw [gI_w, nbm_0]
    rfl)
  have d0 : mnD (Dm (tT f) (gE f) (szF f)) (mT f) 1 = mT f := by
    show min (mT f) (mT f + popc (NBm (tT f) (gE f) (szF f) 0) - popc 0) = mT f
    rw [nbm_0, show popc 0 = 0 from rfl]
    omega
  rw [d0, mo_eq hz, show nI 1 = (1 : Int32) from rfl] at e1
  refine ⟨μ', ?_, e2⟩
  have x0 : ix SH 8 356 0 = true := by decide
  simp only [bd_n, gd_n, ca2_n, ca_n, nbtF, pbfT, Bool.not_true, Bool.not_false, if_true, if_false, m_X0_putTogetherAtMost, iz0, hg.1.2.1, p3, x0, show (0 : Int32).toNatClampNeg = 0 from rfl]
  exact e1

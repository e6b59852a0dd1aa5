/-! together: the class's ways -/
theorem cm_ : ∀ s, s < 256 → (255 : Int32) &&& (nI s ^^^ (-1)) = nI (255 - s) := by decide +kernel
theorem cm_b : ∀ s, s < 256 → ∀ l, l < 8 → hasB (255 - s) l = !hasB s l := by decide +kernel
theorem up_m : ∀ m, m < 9 → ∀ l, l < m → ∀ s, s < 2 ^ m → hasB s l = false → s + 2 ^ l < 2 ^ m := by decide +kernel
theorem pop_lt : ∀ m, m < 9 → ∀ s, s < 2 ^ m - 1 → popc s < m := by decide +kernel
theorem free_e {a s : Nat} (ha : a < 256) (hs : s < 256) : nI a &&& (nI s ^^^ (-1)) = nI (a &&& (255 - s)) := by
  have e : nI a = nI a &&& 255 := by
    have := fa_mask a 8
    rw [Nat.mod_eq_of_lt (show a < 2 ^ 8 from ha)] at this
    exact this.symm
  rw [e, Int32.and_assoc, cm_ s hs, fa_and]
theorem free_b {a s l : Nat} (ha : a < 256) (hs : s < 256) (hl : l < 8) : decide ((nI (a &&& (255 - s)) >>> (nI l &&& 31)) &&& 1 = 1) = (!hasB s l && hasB a l) := by
  rw [hasI _ (Nat.lt_of_le_of_lt Nat.and_le_left ha) l hl, hasB_tb, Nat.testBit_and, ← hasB_tb, ← hasB_tb, cm_b s hs l hl, Bool.and_comm]
theorem x_w0 {μ0 : Mu} {f : Nat → Int32} (hp : P3 μ0) (hz : szF f ≤ 8) : ∀ (d s F : Nat) (μ : Mu), s + d = 2 ^ mT f → d < F → 1 ≤ s → GF μ0 μ f → (∀ u, 1 ≤ u → u < s → gI μ 356 u = 0) → ∃ μ', m_X0_waysForAll_h11 SH 353 (nI (2 ^ mT f - 1)) F (nI s) μ = m_X0_waysForAll_b38 SH 353 (nI (2 ^ mT f - 1)) μ' ∧ GF μ0 μ' f ∧ ∀ u, 1 ≤ u → u < 2 ^ mT f → gI μ' 356 u = 0 := by
  have m8 : mT f ≤ 8 := Nat.le_trans (cn_le _ _) hz
  obtain ⟨sh1, sh2, sh3⟩ := sh_m (mT f) (by omega)
  intro d
  induction d with
  | zero =>
    intro s F μ hs hF s1 hg ht
    obtain ⟨F, rfl⟩ : ∃ g, F = g + 1 := ⟨F - 1, by omega⟩
    refine ⟨μ, ?_, hg, fun u h1 h2 => ht u h1 (by omega)⟩
    show m_X0_waysForAll_b11 SH (m_X0_waysForAll_h11 SH 353 (nI (2 ^ mT f - 1)) F) 353 (nI (2 ^ mT f - 1)) (nI s) μ = _
    have h : (nI (2 ^ mT f - 1) < nI s) = True := eq_true (nI_lt (by omega) (by omega))
    simp only [bd_n, gd_n, ca2_n, ca_n, nbtF, pbfT, Bool.not_true, Bool.not_false, if_true, if_false, m_X0_waysForAll_b11, h]
  | succ d ih =>
    intro s F μ hs hF s1 hg ht
    obtain ⟨F, rfl⟩ : ∃ g, F = g + 1 := ⟨F - 1, by omega⟩
    have h : (nI (2 ^ mT f - 1) < nI s) = False := eq_false (nI_nlt (by omega) (by omega))
    have n2 : (nI 256 ≤ nI s) = False := eq_false (nle_nI (by omega) (by decide))
    have p3 : gR μ 353 3 = 356 := by rw [hg.1.1.2]; exact hp.2.2
    have x1 : ix SH 8 356 (nI s) = true := ix_of (n := 256) rfl (by omega) (by decide)
    obtain ⟨μ', e1, e2⟩ := ih (s + 1) F (sI μ 356 s 0) (by omega) (by omega) (by omega) hg.w (fun u h1 h2 => by
      by_cases q : u = s
      · rw [q, gI_w]
      · rw [gI_k q]; exact ht u h1 (by omega))
    refine ⟨μ', ?_, e2⟩
    show m_X0_waysForAll_b11 SH (m_X0_waysForAll_h11 SH 353 (nI (2 ^ mT f - 1)) F) 353 (nI (2 ^ mT f - 1)) (nI s) μ = _
    simp only [bd_n, gd_n, ca2_n, ca_n, nbtF, pbfT, Bool.not_true, Bool.not_false, if_true, if_false, m_X0_waysForAll_b11, h, iz0, p3, iz56, len56, n2, x1, nI_clamp (show s < 2 ^ 31 by omega), show nI s + 1 = nI (s + 1) from nI_add _ 1]
    exact e1
theorem x_w2 {μ0 : Mu} {f : Nat → Int32} {s : Nat} {k47 : Int32 → Mu → Option (Int32 × Mu)} (hp : P3 μ0) (hz : szF f ≤ 8) (hs : s < 2 ^ mT f - 1) : ∀ (d l F : Nat) (μ : Mu), l + d = mT f → d < F → GF μ0 μ f → (∀ u, u < 2 ^ mT f → gI μ 356 u = pW_ (cE f) (mT f) s l u) → ∃ μ', m_X0_waysForAll_h77 SH k47 353 (nI (2 ^ mT f - 1)) (nI s) (nI (mk (cE f (popc s)) (mT f) &&& (255 - s))) F (nI l) μ = m_X0_waysForAll_b122 SH k47 353 (nI (2 ^ mT f - 1)) (nI s) μ' ∧ GF μ0 μ' f ∧ ∀ u, u < 2 ^ mT f → gI μ' 356 u = pW_ (cE f) (mT f) s (mT f) u := by
  have m8 : mT f ≤ 8 := Nat.le_trans (cn_le _ _) hz
  obtain ⟨sh1, sh2, sh3⟩ := sh_m (mT f) (by omega)
  intro d
  induction d with
  | zero =>
    intro l F μ hl hF hg ht
    obtain ⟨F, rfl⟩ : ∃ g, F = g + 1 := ⟨F - 1, by omega⟩
    have e : l = mT f := by omega
    refine ⟨μ, ?_, hg, fun u h1 => by rw [ht u h1, e]⟩
    show m_X0_waysForAll_b77 SH k47 (m_X0_waysForAll_h77 SH k47 353 (nI (2 ^ mT f - 1)) (nI s) _ F) 353 (nI (2 ^ mT f - 1)) (nI s) _ (nI l) μ = _
    have h : (nI (mT f) ≤ nI l) = True := eq_true (nI_le (by omega) (by omega))
    simp only [bd_n, gd_n, ca2_n, ca_n, nbtF, pbfT, Bool.not_true, Bool.not_false, if_true, if_false, m_X0_waysForAll_b77, iz0, hg.1.2.1, h]
  | succ d ih =>
    intro l F μ hl hF hg ht
    obtain ⟨F, rfl⟩ : ∃ g, F = g + 1 := ⟨F - 1, by omega⟩
    have h : (nI (mT f) ≤ nI l) = False := eq_false (nle_nI (by omega) (by omega))
    have p3 : gR μ 353 3 = 356 := by rw [hg.1.1.2]; exact hp.2.2
    have a8 : mk (cE f (popc s)) (mT f) < 256 := Nat.lt_of_lt_of_le (mk_lt _ _) sh3
    have fb := free_b (a := mk (cE f (popc s)) (mT f)) (s := s) (l := l) a8 (by omega) (by omega)
    rw [mk_bit, decide_eq_true (show l < mT f by omega), Bool.true_and] at fb
    have st := fun u => pW_st (C := cE f) (m := mT f) (k := s) (l := l) (u := u) (by omega) m8 (by omega)
    show ∃ μ', m_X0_waysForAll_b77 SH k47 (m_X0_waysForAll_h77 SH k47 353 (nI (2 ^ mT f - 1)) (nI s) _ F) 353 (nI (2 ^ mT f - 1)) (nI s) _ (nI l) μ = _ ∧ _
    cases hc : (!hasB s l && cE f (popc s) l) with
    | false =>
      rw [hc] at fb
      have fb' := eq_false (of_decide_eq_false fb)
      obtain ⟨μ', e1, e2⟩ := ih (l + 1) F μ (by omega) (by omega) hg (fun u hu => by
        rw [ht u hu, st u, hc, if_neg (by rintro ⟨z, _⟩; cases z)])
      refine ⟨μ', ?_, e2⟩
      simp only [bd_n, gd_n, ca2_n, ca_n, nbtF, pbfT, Bool.not_true, Bool.not_false, if_true, if_false, m_X0_waysForAll_b77, m_X0_waysForAll_b116, iz0, hg.1.2.1, h, fb', show nI l + 1 = nI (l + 1) from nI_add _ 1]
      exact e1
    | true =>
      rw [hc] at fb
      have fb' := eq_true (of_decide_eq_true fb)
      have hc' := hc
      rw [Bool.and_eq_true, Bool.not_eq_true'] at hc'
      obtain ⟨o1, o2, o3⟩ := or_new s (by omega) l (by omega) hc'.1
      have um := up_m (mT f) (by omega) l (by omega) s (by omega) hc'.1
      have x1 : ix SH 8 356 (nI (s + 2 ^ l)) = true := ix_of (n := 256) rfl (by omega) (by decide)
      have x2 : ix SH 8 356 (nI s) = true := ix_of (n := 256) rfl (by omega) (by decide)
      have t1 := ht (s + 2 ^ l) um
      have t2 := ht s (by omega)
      rw [pW_G m8 (show s < 2 ^ mT f by omega) (Nat.le_refl s)] at t2
      obtain ⟨μ', e1, e2⟩ := ih (l + 1) F (sI μ 356 (s + 2 ^ l) (pW_ (cE f) (mT f) s l (s + 2 ^ l) + gW (cE f) (mT f) s)) (by omega) (by omega) hg.w (fun u hu => by
        rw [st u]
        by_cases q : u = s + 2 ^ l
        · rw [if_pos ⟨hc, q⟩, q, gI_w]
        · rw [if_neg (fun z => q z.2), gI_k q]
          exact ht u hu)
      refine ⟨μ', ?_, e2⟩
      simp only [bd_n, gd_n, ca2_n, ca_n, nbtF, pbfT, Bool.not_true, Bool.not_false, if_true, if_false, m_X0_waysForAll_b77, m_X0_waysForAll_b116, iz0, hg.1.2.1, h, fb', p3, o1, x1, nI_clamp (show s + 2 ^ l < 2 ^ 31 by omega), t1, x2, nI_clamp (show s < 2 ^ 31 by omega), t2, show nI l + 1 = nI (l + 1) from nI_add _ 1]
      exact e1
theorem x_w1 {μ0 : Mu} {f : Nat → Int32} (hp : P3 μ0) (hz : szF f ≤ 8) : ∀ (d s F : Nat) (μ : Mu), s + d = 2 ^ mT f - 1 → d < F → GF μ0 μ f → (∀ u, u < 2 ^ mT f → gI μ 356 u = pW_ (cE f) (mT f) s 0 u) → ∃ μ', m_X0_waysForAll_h47 SH 353 (nI (2 ^ mT f - 1)) F (nI s) μ = some (gW (cE f) (mT f) (2 ^ mT f - 1), μ') ∧ SC μ0 μ' := by
  have m8 : mT f ≤ 8 := Nat.le_trans (cn_le _ _) hz
  obtain ⟨sh1, sh2, sh3⟩ := sh_m (mT f) (by omega)
  have pos := Nat.two_pow_pos (mT f)
  intro d
  induction d with
  | zero =>
    intro s F μ hs hF hg ht
    obtain ⟨F, rfl⟩ : ∃ g, F = g + 1 := ⟨F - 1, by omega⟩
    have e : s = 2 ^ mT f - 1 := by omega
    refine ⟨μ, ?_, hg.1.1⟩
    show m_X0_waysForAll_b47 SH (m_X0_waysForAll_h47 SH 353 (nI (2 ^ mT f - 1)) F) 353 (nI (2 ^ mT f - 1)) (nI s) μ = _
    have h : (nI (2 ^ mT f - 1) ≤ nI s) = True := eq_true (nI_le (by omega) (by omega))
    have n2 : (nI 256 ≤ nI (2 ^ mT f - 1)) = False := eq_false (nle_nI (by omega) (by decide))
    have p3 : gR μ 353 3 = 356 := by rw [hg.1.1.2]; exact hp.2.2
    have x1 : ix SH 8 356 (nI (2 ^ mT f - 1)) = true := ix_of (n := 256) rfl (by omega) (by decide)
    have t := ht (2 ^ mT f - 1) (by omega)
    rw [pW_G m8 (by omega) (by omega)] at t
    simp only [bd_n, gd_n, ca2_n, ca_n, nbtF, pbfT, Bool.not_true, Bool.not_false, if_true, if_false, m_X0_waysForAll_b47, m_X0_waysForAll_b128, h, iz0, p3, iz56, len56, n2, x1, nI_clamp (show 2 ^ mT f - 1 < 2 ^ 31 by omega), t]
  | succ d ih =>
    intro s F μ hs hF hg ht
    obtain ⟨F, rfl⟩ : ∃ g, F = g + 1 := ⟨F - 1, by omega⟩
    have h : (nI (2 ^ mT f - 1) ≤ nI s) = False := eq_false (nle_nI (by omega) (by omega))
    have n2 : (nI 256 ≤ nI s) = False := eq_false (nle_nI (by omega) (by decide))
    have p3 : gR μ 353 3 = 356 := by rw [hg.1.1.2]; exact hp.2.2
    have pl := pop_lt (mT f) (by omega) s (by omega)
    have a8 : mk (cE f (popc s)) (mT f) < 256 := Nat.lt_of_lt_of_le (mk_lt _ _) sh3
    obtain ⟨μ1, e1, e2, e3⟩ := x_w2 (k47 := m_X0_waysForAll_h47 SH 353 (nI (2 ^ mT f - 1)) F) (s := s) hp hz (by omega) (mT f) 0 FU μ (by omega) (by rw [FU_eq]; omega) hg ht
    rw [show nI 0 = (0 : Int32) from rfl] at e1
    obtain ⟨μ', e4, e5⟩ := ih (s + 1) F μ1 (by omega) (by omega) e2 (fun u hu => by rw [e3 u hu, pW_nx])
    refine ⟨μ', ?_, e5⟩
    show m_X0_waysForAll_b47 SH (m_X0_waysForAll_h47 SH 353 (nI (2 ^ mT f - 1)) F) 353 (nI (2 ^ mT f - 1)) (nI s) μ = _
    simp only [bd_n, gd_n, ca2_n, ca_n, nbtF, pbfT, Bool.not_true, Bool.not_false, if_true, if_false, m_X0_waysForAll_b47, h, iz0, p3, iz56, len56, n2, x_bitCount (show s < 256 by omega), x_fits hg hp m8 pl, free_e a8 (show s < 256 by omega), e1, m_X0_waysForAll_b122, show nI s + 1 = nI (s + 1) from nI_add _ 1]
    exact e4
theorem eh_full {f : Nat → Int32} (hz : szF f ≤ 8) : eh (tT f) (hasB (2 ^ mT f - 1)) = tT f := by
  have m8 : mT f ≤ 8 := Nat.le_trans (cn_le _ _) hz
  have key : ∀ m, m < 9 → ∀ i, i < m → hasB (2 ^ m - 1) i = true := by decide +kernel
  funext b
  show (tT f b && hasB (2 ^ mT f - 1) (cn (tT f) b)) = tT f b
  cases h : tT f b with
  | false => rfl
  | true =>
    rw [key (mT f) (by omega) _ (cn_at (tT_in h).1 h)]
    rfl
theorem pop_full : ∀ m, m < 9 → popc (2 ^ m - 1) = m := by decide +kernel
theorem gW_full {f : Nat → Int32} (hz : szF f ≤ 8) : gW (cE f) (mT f) (2 ^ mT f - 1) = Wt (tT f) (E1 (tT f) (gE f)) (szF f) (szF f) (tT f) := by
  have m8 : mT f ≤ 8 := Nat.le_trans (cn_le _ _) hz
  have pos := Nat.two_pow_pos (mT f)
  have b := wt_br (T := tT f) (E := gE f) (n := szF f) hz (fun b hb => tT_out hb) (szF f) (Nat.le_refl _) (hasB (2 ^ mT f - 1)) (fun i hi => hasB_ge (show 2 ^ mT f - 1 < 2 ^ mT f by omega) hi)
  rw [eh_full hz] at b
  rw [b]
  unfold gW
  rw [pop_full (mT f) (by omega)]
theorem x_ways {μ0 μ : Mu} {f : Nat → Int32} (hp : P3 μ0) (hz : szF f ≤ 8) (hg : GF μ0 μ f) : ∃ μ', m_X0_waysForAll SH 353 μ = some (Wt (tT f) (E1 (tT f) (gE f)) (szF f) (szF f) (tT f), μ') ∧ SC μ0 μ' := by
  have m8 : mT f ≤ 8 := Nat.le_trans (cn_le _ _) hz
  obtain ⟨sh1, sh2, sh3⟩ := sh_m (mT f) (by omega)
  have pos := Nat.two_pow_pos (mT f)
  obtain ⟨μ1, e1, e2, e3⟩ := x_w0 hp hz (2 ^ mT f - 1) 1 FU μ (by omega) (by rw [FU_eq]; omega) (by omega) hg (fun u h1 h2 => absurd h1 (by omega))
  rw [show nI 1 = (1 : Int32) from rfl] at e1
  have p3 : gR μ1 353 3 = 356 := by rw [e2.1.1.2]; exact hp.2.2
  obtain ⟨μ', e4, e5⟩ := x_w1 hp hz (2 ^ mT f - 1) 0 FU (sI μ1 356 0 1) (by omega) (by rw [FU_eq]; omega) e2.w (fun u hu => by
    rw [pW_0]
    by_cases q : u = 0
    · rw [q, gI_w, if_pos rfl]
    · rw [gI_k q, if_neg q]
      exact e3 u (by omega) hu)
  rw [show nI 0 = (0 : Int32) from rfl, gW_full hz] at e4
  refine ⟨μ', ?_, e5⟩
  have x0 : ix SH 8 356 0 = true := by decide
  simp only [bd_n, gd_n, ca2_n, ca_n, nbtF, pbfT, Bool.not_true, Bool.not_false, if_true, if_false, m_X0_waysForAll, iz0, hg.1.2.1, sh2, e1, m_X0_waysForAll_b38, p3, x0, show (0 : Int32).toNatClampNeg = 0 from rfl]
  exact e4

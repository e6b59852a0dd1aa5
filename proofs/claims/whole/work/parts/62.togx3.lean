theorem iz0 : iz SH 0 353 = true := rfl
theorem gI_w {μ : Mu} {a k : Nat} {v : Int32} : gI (sI μ a k v) a k = v := by rw [gI_sI, if_pos rfl, if_pos rfl]
theorem gI_k {μ : Mu} {a k j : Nat} {v : Int32} (h : j ≠ k) : gI (sI μ a k v) a j = gI μ a j := by rw [gI_sI, if_pos rfl, if_neg h]
theorem gI_o {μ : Mu} {a b k j : Nat} {v : Int32} (h : b ≠ a) : gI (sI μ a k v) b j = gI μ b j := by rw [gI_sI, if_neg h]
def P3 (μ : Mu) : Prop := gR μ 353 1 = 354 ∧ gR μ 353 2 = 355 ∧ gR μ 353 3 = 356
theorem x_ga1 {μ0 : Mu} {P : Pl} {c : Nat} {f : Nat → Int32} (hS : SR μ0 11 f) (g : GP P c f) (hp : P3 μ0) : ∀ (d i F : Nat) (μ : Mu), i + d = 8 → d < F → SC μ0 μ → gI μ 353 0 = nI (cn (tT f) i) → (∀ j, j < cn (tT f) i → gI μ 354 j = nI (el (tT f) i j)) → ∃ μ', m_X0_gather_h7 SH 353 11 F (nI i) μ = m_X0_gather_b68 SH 353 11 μ' ∧ SC μ0 μ' ∧ gI μ' 353 0 = nI (cn (tT f) 8) ∧ ∀ j, j < cn (tT f) 8 → gI μ' 354 j = nI (el (tT f) 8 j) := by
  have hsz := g.sz
  intro d
  induction d with
  | zero =>
    intro i F μ hi hF hs h1 h2
    obtain ⟨F, rfl⟩ : ∃ g, F = g + 1 := ⟨F - 1, by omega⟩
    have e : i = 8 := by omega
    subst e
    refine ⟨μ, ?_, hs, h1, h2⟩
    show m_X0_gather_b7 SH (m_X0_gather_h7 SH 353 11 F) 353 11 (nI 8) μ = _
    have h : ((8 : Int32) ≤ nI 8) = True := eq_true (by decide)
    simp only [bd_n, gd_n, ca2_n, ca_n, nbtF, pbfT, Bool.not_true, Bool.not_false, if_true, if_false, m_X0_gather_b7, h]
  | succ d ih =>
    intro i F μ hi hF hs h1 h2
    obtain ⟨F, rfl⟩ : ∃ g, F = g + 1 := ⟨F - 1, by omega⟩
    have n1 : ((8 : Int32) ≤ nI i) = False := eq_false (nleL 8 (by omega) (by decide))
    have cl := cn_le (tT f) i
    have n2 : ((8 : Int32) ≤ nI (cn (tT f) i)) = False := eq_false (nleL 8 (by omega) (by decide))
    have sr : SR μ 11 f := hs.sr hS hsz.2 (by decide)
    have k4 : gI μ 11 4 = nI (szF f) := by rw [sr.2.2.2.2.1]; exact hsz.1
    have hst := x_hasStrip sr.1 k4 hsz.2 (nI i)
    have p1 : gR μ 353 1 = 354 := by rw [hs.2]; exact hp.1
    show ∃ μ', m_X0_gather_b7 SH (m_X0_gather_h7 SH 353 11 F) 353 11 (nI i) μ = _ ∧ _
    by_cases hin : i < szF f
    · rw [isIn_nI hin (by omega)] at hst
      obtain ⟨ta, ta3⟩ := g.tn hin
      have sa := (sr.2.2.2.2.2.2.1 i hin).2.1
      have pa := (sr.1.tpi (i := i) (by omega)).iz
      have x1 := sr.1.ix1 (i := i) (by omega)
      rw [show 11 + 1 = 12 from rfl] at x1 pa sa
      have g5 : gR μ 11 5 = 12 := sr.1.2.1
      rw [ta] at sa
      by_cases t0 : tnN f i = 0
      · have tf : tT f i = false := by unfold tT; rw [decide_eq_true t0, Bool.not_true, Bool.and_false]
        have q : (nI (tnN f i) = 0) = True := eq_true (by rw [t0]; rfl)
        obtain ⟨μ', e1, e2⟩ := ih (i + 1) F μ (by omega) (by omega) hs (by rw [cn_f tf]; exact h1) (fun j hj => by rw [cn_f tf] at hj; rw [el_no tf]; exact h2 j hj)
        refine ⟨μ', ?_, e2⟩
        simp only [bd_n, gd_n, ca2_n, ca_n, nbtF, pbfT, Bool.not_true, Bool.not_false, if_true, if_false, m_X0_gather_b7, m_X0_gather_b62, n1, iz0, h1, n2, iz411, hst, g5, x1, nI_clamp (show i < 2 ^ 31 by omega), pa, sa, q, show nI i + 1 = nI (i + 1) from nI_add _ 1]
        exact e1
      · have tt : tT f i = true := by unfold tT; rw [decide_eq_false t0, decide_eq_true hin]; rfl
        have q : (nI (tnN f i) = 0) = False := eq_false (nI_ne0 (by omega) (by omega))
        have x2 : ix SH 8 354 (nI (cn (tT f) i)) = true := ix_of (n := 8) rfl (by omega) (by decide)
        obtain ⟨μ', e1, e2⟩ := ih (i + 1) F (sI (sI μ 354 (cn (tT f) i) (nI i)) 353 0 (nI (cn (tT f) i) + 1)) (by omega) (by omega) ((hs.w (by decide)).w (by decide)) (by rw [gI_w, cn_t tt]; exact nI_add _ 1) (fun j hj => by
          rw [cn_t tt] at hj
          rw [gI_o (by decide)]
          by_cases e : j = cn (tT f) i
          · rw [e, gI_w, el_nw tt]
          · rw [gI_k e, el_st (by omega)]
            exact h2 j (by omega))
        refine ⟨μ', ?_, e2⟩
        simp only [bd_n, gd_n, ca2_n, ca_n, nbtF, pbfT, Bool.not_true, Bool.not_false, if_true, if_false, m_X0_gather_b7, m_X0_gather_b62, n1, iz0, h1, n2, iz411, hst, g5, x1, nI_clamp (show i < 2 ^ 31 by omega), pa, sa, q, p1, x2, nI_clamp (show cn (tT f) i < 2 ^ 31 by omega), gI_o (show 353 ≠ 354 by decide), show nI i + 1 = nI (i + 1) from nI_add _ 1]
        exact e1
    · have hst' : isIn (nI i) (szF f) = false := by
        cases hb : isIn (nI i) (szF f) with
        | false => rfl
        | true =>
          obtain ⟨j, hj, e⟩ := isIn_t hb (by omega)
          have := (nI_eq (by omega) (by omega)).mp e
          omega
      rw [hst'] at hst
      have tf : tT f i = false := tT_out (by omega)
      obtain ⟨μ', e1, e2⟩ := ih (i + 1) F μ (by omega) (by omega) hs (by rw [cn_f tf]; exact h1) (fun j hj => by rw [cn_f tf] at hj; rw [el_no tf]; exact h2 j hj)
      refine ⟨μ', ?_, e2⟩
      simp only [bd_n, gd_n, ca2_n, ca_n, nbtF, pbfT, Bool.not_true, Bool.not_false, if_true, if_false, m_X0_gather_b7, m_X0_gather_b62, n1, iz0, h1, n2, iz411, hst, show nI i + 1 = nI (i + 1) from nI_add _ 1]
      exact e1
theorem el_out {T : Nat → Bool} {n j : Nat} (h : ∀ b, n ≤ b → T b = false) : ∀ d, el T (n + d) j = el T n j
  | 0 => rfl
  | d + 1 => by
    have : el T (n + d + 1) j = el T (n + d) j := el_no (h _ (by omega))
    rw [← Nat.add_assoc, this, el_out h d]
abbrev mT (f : Nat → Int32) : Nat := cn (tT f) (szF f)
abbrev eT (f : Nat → Int32) (i : Nat) : Nat := el (tT f) (szF f) i
abbrev cE (f : Nat → Int32) : Nat → Nat → Bool := Ec (tT f) (gE f) (szF f)
theorem mT_8 {f : Nat → Int32} (h : szF f ≤ 8) : cn (tT f) 8 = mT f := by
  have := cn_out (X := tT f) (m := szF f) (fun i hi => tT_out hi) (8 - szF f)
  rw [show szF f + (8 - szF f) = 8 by omega] at this
  exact this
theorem eT_8 {f : Nat → Int32} (h : szF f ≤ 8) (j : Nat) : el (tT f) 8 j = eT f j := by
  have := el_out (T := tT f) (n := szF f) (j := j) (fun i hi => tT_out hi) (8 - szF f)
  rw [show szF f + (8 - szF f) = 8 by omega] at this
  exact this
/-- what stands behind the first loop -/
def GB (μ0 μ : Mu) (f : Nat → Int32) : Prop := SC μ0 μ ∧ gI μ 353 0 = nI (mT f) ∧ ∀ j, j < mT f → gI μ 354 j = nI (eT f j)
theorem GB.w {μ0 μ : Mu} {f : Nat → Int32} {a k : Nat} {v : Int32} (h : GB μ0 μ f) (ha : 355 ≤ a ∧ a ≤ 361) : GB μ0 (sI μ a k v) f := ⟨h.1.w (by omega), by rw [gI_o (by omega)]; exact h.2.1, fun j hj => by rw [gI_o (by omega)]; exact h.2.2 j hj⟩
theorem x_ga3 {μ0 : Mu} {P : Pl} {c i : Nat} {f : Nat → Int32} {k70 : Int32 → Mu → Option Mu} (hS : SR μ0 11 f) (g : GP P c f) (hp : P3 μ0) (hi : i < mT f) : ∀ (d j F : Nat) (μ : Mu), j + d = mT f → d < F → GB μ0 μ f → gI μ 355 i = nI (mk (cE f i) j) → ∃ μ', m_X0_gather_h87 SH k70 353 11 (nI i) F (nI j) μ = m_X0_gather_b136 SH k70 353 11 (nI i) μ' ∧ GB μ0 μ' f ∧ gI μ' 355 i = nI (mk (cE f i) (mT f)) ∧ ∀ k, k ≠ i → gI μ' 355 k = gI μ 355 k := by
  have hsz := g.sz
  have m8 : mT f ≤ 8 := Nat.le_trans (cn_le _ _) hsz.2
  intro d
  induction d with
  | zero =>
    intro j F μ hj hF hg h1
    obtain ⟨F, rfl⟩ : ∃ g, F = g + 1 := ⟨F - 1, by omega⟩
    have e : j = mT f := by omega
    refine ⟨μ, ?_, hg, by rw [h1, e], fun _ _ => rfl⟩
    show m_X0_gather_b87 SH k70 (m_X0_gather_h87 SH k70 353 11 (nI i) F) 353 11 (nI i) (nI j) μ = _
    have h : (nI (mT f) ≤ nI j) = True := eq_true (nI_le (by omega) (by omega))
    simp only [bd_n, gd_n, ca2_n, ca_n, nbtF, pbfT, Bool.not_true, Bool.not_false, if_true, if_false, m_X0_gather_b87, iz0, hg.2.1, h]
  | succ d ih =>
    intro j F μ hj hF hg h1
    obtain ⟨F, rfl⟩ : ∃ g, F = g + 1 := ⟨F - 1, by omega⟩
    have n1 : (nI (mT f) ≤ nI j) = False := eq_false (nle_nI (by omega) (by omega))
    have sr : SR μ 11 f := hg.1.sr hS hsz.2 (by decide)
    have p1 : gR μ 353 1 = 354 := by rw [hg.1.2]; exact hp.1
    have p2 : gR μ 353 2 = 355 := by rw [hg.1.2]; exact hp.2.1
    have x1 : ix SH 8 355 (nI i) = true := ix_of (n := 8) rfl (by omega) (by decide)
    have x2 : ix SH 8 354 (nI i) = true := ix_of (n := 8) rfl (by omega) (by decide)
    have x3 : ix SH 8 354 (nI j) = true := ix_of (n := 8) rfl (by omega) (by decide)
    have gt := x_goT sr g (el_in (T := tT f) (n := szF f) hi).2.1 (el_in (T := tT f) (n := szF f) (i := j) (show j < mT f by omega)).2.1
    have ee : gE f (eT f i) (eT f j) = cE f i j := rfl
    rw [ee] at gt
    have fin : ∀ v, nI (mk (cE f i) j) ||| v = nI (mk (cE f i) (j + 1)) → ∃ μ', m_X0_gather_b128 SH k70 (m_X0_gather_h87 SH k70 353 11 (nI i) F) 353 11 (nI i) (nI j) v (nI (mk (cE f i) j)) (nI i) 355 μ = m_X0_gather_b136 SH k70 353 11 (nI i) μ' ∧ GB μ0 μ' f ∧ gI μ' 355 i = nI (mk (cE f i) (mT f)) ∧ ∀ k, k ≠ i → gI μ' 355 k = gI μ 355 k := fun v hv => by
      obtain ⟨μ', e1, e2, e3, e4⟩ := ih (j + 1) F (sI μ 355 i (nI (mk (cE f i) (j + 1)))) (by omega) (by omega) (hg.w (by decide)) gI_w
      refine ⟨μ', ?_, e2, e3, fun k hk => by rw [e4 k hk, gI_k hk]⟩
      simp only [bd_n, gd_n, ca2_n, ca_n, nbtF, pbfT, Bool.not_true, Bool.not_false, if_true, if_false, m_X0_gather_b128, x1, nI_clamp (show i < 2 ^ 31 by omega), hv, show nI j + 1 = nI (j + 1) from nI_add _ 1]
      exact e1
    show ∃ μ', m_X0_gather_b87 SH k70 (m_X0_gather_h87 SH k70 353 11 (nI i) F) 353 11 (nI i) (nI j) μ = _ ∧ _
    cases hb : cE f i j with
    | false =>
      rw [hb] at gt
      obtain ⟨μ', e1, e2⟩ := fin 0 (by
        rw [Int32.or_zero]
        show _ = nI (mk (cE f i) j + bn (cE f i j) * 2 ^ j)
        rw [hb]
        show _ = nI (mk (cE f i) j + 0 * 2 ^ j)
        rw [Nat.zero_mul, Nat.add_zero])
      refine ⟨μ', ?_, e2⟩
      simp only [bd_n, gd_n, ca2_n, ca_n, nbtF, pbfT, Bool.not_true, Bool.not_false, if_true, if_false, m_X0_gather_b87, iz0, hg.2.1, n1, p2, x1, nI_clamp (show i < 2 ^ 31 by omega), h1, p1, x2, x3, nI_clamp (show j < 2 ^ 31 by omega), hg.2.2 i hi, hg.2.2 j (show j < mT f by omega), gt]
      exact e1
    | true =>
      rw [hb] at gt
      obtain ⟨μ', e1, e2⟩ := fin (1 <<< (nI j &&& 31)) (by
        rw [or_bit j (by omega) _ (mk_lt _ _)]
        show _ = nI (mk (cE f i) j + bn (cE f i j) * 2 ^ j)
        rw [hb]
        show _ = nI (mk (cE f i) j + 1 * 2 ^ j)
        rw [Nat.one_mul])
      refine ⟨μ', ?_, e2⟩
      simp only [bd_n, gd_n, ca2_n, ca_n, nbtF, pbfT, Bool.not_true, Bool.not_false, if_true, if_false, m_X0_gather_b87, iz0, hg.2.1, n1, p2, x1, nI_clamp (show i < 2 ^ 31 by omega), h1, p1, x2, x3, nI_clamp (show j < 2 ^ 31 by omega), hg.2.2 i hi, hg.2.2 j (show j < mT f by omega), gt]
      exact e1
theorem x_ga2 {μ0 : Mu} {P : Pl} {c : Nat} {f : Nat → Int32} (hS : SR μ0 11 f) (g : GP P c f) (hp : P3 μ0) : ∀ (d i F : Nat) (μ : Mu), i + d = mT f → d < F → GB μ0 μ f → (∀ k, k < i → gI μ 355 k = nI (mk (cE f k) (mT f))) → ∃ μ', m_X0_gather_h70 SH 353 11 F (nI i) μ = some μ' ∧ GB μ0 μ' f ∧ ∀ k, k < mT f → gI μ' 355 k = nI (mk (cE f k) (mT f)) := by
  have hsz := g.sz
  have m8 : mT f ≤ 8 := Nat.le_trans (cn_le _ _) hsz.2
  intro d
  induction d with
  | zero =>
    intro i F μ hi hF hg h1
    obtain ⟨F, rfl⟩ : ∃ g, F = g + 1 := ⟨F - 1, by omega⟩
    refine ⟨μ, ?_, hg, fun k hk => h1 k (by omega)⟩
    show m_X0_gather_b70 SH (m_X0_gather_h70 SH 353 11 F) 353 11 (nI i) μ = _
    have h : (nI (mT f) ≤ nI i) = True := eq_true (nI_le (by omega) (by omega))
    simp only [bd_n, gd_n, ca2_n, ca_n, nbtF, pbfT, Bool.not_true, Bool.not_false, if_true, if_false, m_X0_gather_b70, iz0, hg.2.1, h]
  | succ d ih =>
    intro i F μ hi hF hg h1
    obtain ⟨F, rfl⟩ : ∃ g, F = g + 1 := ⟨F - 1, by omega⟩
    have n1 : (nI (mT f) ≤ nI i) = False := eq_false (nle_nI (by omega) (by omega))
    have p2 : gR μ 353 2 = 355 := by rw [hg.1.2]; exact hp.2.1
    have x1 : ix SH 8 355 (nI i) = true := ix_of (n := 8) rfl (by omega) (by decide)
    obtain ⟨μ1, e1, e2, e3, e4⟩ := x_ga3 (k70 := m_X0_gather_h70 SH 353 11 F) (i := i) hS g hp (by omega) (mT f) 0 FU (sI μ 355 i 0) (by omega) (by rw [FU_eq]; omega) (hg.w (by decide)) gI_w
    rw [show nI 0 = (0 : Int32) from rfl] at e1
    obtain ⟨μ', e5, e6⟩ := ih (i + 1) F μ1 (by omega) (by omega) e2 (fun k hk => by
      by_cases q : k = i
      · rw [q]; exact e3
      · rw [e4 k q, gI_k q]; exact h1 k (by omega))
    refine ⟨μ', ?_, e6⟩
    show m_X0_gather_b70 SH (m_X0_gather_h70 SH 353 11 F) 353 11 (nI i) μ = _
    simp only [bd_n, gd_n, ca2_n, ca_n, nbtF, pbfT, Bool.not_true, Bool.not_false, if_true, if_false, m_X0_gather_b70, iz0, hg.2.1, n1, p2, x1, nI_clamp (show i < 2 ^ 31 by omega), e1, m_X0_gather_b136, show nI i + 1 = nI (i + 1) from nI_add _ 1]
    exact e5
theorem x_gather {μ0 : Mu} {P : Pl} {c : Nat} {f : Nat → Int32} (hS : SR μ0 11 f) (g : GP P c f) (hp : P3 μ0) : ∃ μ, m_X0_gather SH 353 11 μ0 = some μ ∧ GB μ0 μ f ∧ ∀ k, k < mT f → gI μ 355 k = nI (mk (cE f k) (mT f)) := by
  have hsz := g.sz
  have m8 : mT f ≤ 8 := Nat.le_trans (cn_le _ _) hsz.2
  obtain ⟨μ1, e1, e2, e3, e4⟩ := x_ga1 hS g hp 8 0 FU (sI μ0 353 0 0) (by omega) (by decide) (SC.rf.w (by decide)) gI_w (fun j hj => absurd hj (by show ¬ j < 0; omega))
  rw [show nI 0 = (0 : Int32) from rfl] at e1
  obtain ⟨μ2, e5, e6⟩ := x_ga2 hS g hp (mT f) 0 FU μ1 (by omega) (by rw [FU_eq]; omega) ⟨e2, by rw [e3, mT_8 hsz.2], fun j hj => by rw [e4 j (by rw [mT_8 hsz.2]; exact hj), eT_8 hsz.2]⟩ (fun k hk => absurd hk (by omega))
  rw [show nI 0 = (0 : Int32) from rfl] at e5
  refine ⟨μ2, ?_, e6⟩
  simp only [bd_n, gd_n, ca2_n, ca_n, nbtF, pbfT, Bool.not_true, Bool.not_false, if_true, if_false, m_X0_gather, iz0, e1, m_X0_gather_b68]
  exact e5

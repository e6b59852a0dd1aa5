/-! rows: the class gathers -/
def P4 (μ : Mu) : Prop := gR μ 357 1 = 358 ∧ gR μ 357 2 = 359 ∧ gR μ 357 3 = 360 ∧ gR μ 357 4 = 361
theorem b_and1 (b : Bool) : bI b &&& 1 = bI b := by cases b <;> decide
theorem x_mayF {μ : Mu} {f : Nat → Int32} {a b : Nat} (h : SR μ 11 f) (hz : szF f ≤ 8) (ha : a < szF f) (hb : b < szF f) : m_X3_mayFollow SH (gR μ 12 a) (gR μ 12 b) μ = some (bI (fE f a b), μ) := by
  have sa := h.2.2.2.2.2.2.1 a ha
  have sb := h.2.2.2.2.2.2.1 b hb
  have pa := h.1.tpi (i := a) (by omega)
  have pb := h.1.tpi (i := b) (by omega)
  rw [show 11 + 1 = 12 from rfl] at pa pb sa sb
  have c1 := x_cell (l := 3) (w := 2) pa (by decide) (by decide)
  have c2 := x_cell (l := 0) (w := 2) pb (by decide) (by decide)
  rw [sa.2.2.2 _ (by decide)] at c1
  rw [sb.2.2.2 _ (by decide)] at c2
  have c1' : m_X5_cell SH (gR μ 12 a) 3 2 μ = some (cI f a 3 2, μ) := c1
  have c2' : m_X5_cell SH (gR μ 12 b) 0 2 μ = some (cI f b 0 2, μ) := c2
  have za : iz SH 5 (gR μ 12 a) = true := pa.iz
  have zb : iz SH 5 (gR μ 12 b) = true := pb.iz
  simp only [bd_n, gd_n, ca2_n, ca_n, nbtF, pbfT, Bool.not_true, Bool.not_false, if_true, if_false, m_X3_mayFollow, za, c1', zb, c2', x_hat, b_and1]
  rfl
/-- what stands while gathering -/
def GC (μ0 μ : Mu) (n : Nat) : Prop := SC μ0 μ ∧ gI μ 357 0 = nI n
theorem GC.w {μ0 μ : Mu} {n a k : Nat} {v : Int32} (h : GC μ0 μ n) (ha : 358 ≤ a ∧ a ≤ 361) : GC μ0 (sI μ a k v) n := ⟨h.1.w (by omega), by rw [gI_o (by omega)]; exact h.2⟩
theorem mk_nx {t : Nat → Bool} {j : Nat} {v : Int32} (hj : j < 8) (hv : v = if t j = true then 1 <<< (nI j &&& 31) else 0) : nI (mk t j) ||| v = nI (mk t (j + 1)) := by
  show _ = nI (mk t j + bn (t j) * 2 ^ j)
  cases ht : t j with
  | false =>
    rw [ht, if_neg (by decide)] at hv
    rw [hv, Int32.or_zero]
    show _ = nI (mk t j + 0 * 2 ^ j)
    rw [Nat.zero_mul, Nat.add_zero]
  | true =>
    rw [ht, if_pos rfl] at hv
    rw [hv, or_bit j hj _ (mk_lt _ _)]
    show _ = nI (mk t j + 1 * 2 ^ j)
    rw [Nat.one_mul]
theorem x_rg2 {μ0 : Mu} {i : Nat} {f : Nat → Int32} {k15 : Int32 → Mu → Option Mu} (hS : SR μ0 11 f) (hz : szF f ≤ 6) (hp : P4 μ0) (hi : i < szF f) : ∀ (d j F : Nat) (μ : Mu), j + d = szF f → d < F → GC μ0 μ (szF f) → gI μ 358 i = nI (mk (fun j => fE f j i) j) → gI μ 359 i = nI (mk (fE f i) j) → ∃ μ', m_X3_gather_h39 SH k15 357 11 (nI i) F (nI j) μ = m_X3_gather_b121 SH k15 357 11 (nI i) μ' ∧ GC μ0 μ' (szF f) ∧ gI μ' 358 i = nI (mk (fun j => fE f j i) (szF f)) ∧ gI μ' 359 i = nI (mk (fE f i) (szF f)) ∧ ∀ k, k ≠ i → gI μ' 358 k = gI μ 358 k ∧ gI μ' 359 k = gI μ 359 k := by
  intro d
  induction d with
  | zero =>
    intro j F μ hj hF hg h1 h2
    obtain ⟨F, rfl⟩ : ∃ g, F = g + 1 := ⟨F - 1, by omega⟩
    have e : j = szF f := by omega
    subst e
    refine ⟨μ, ?_, hg, h1, h2, fun _ _ => ⟨rfl, rfl⟩⟩
    show m_X3_gather_b39 SH k15 (m_X3_gather_h39 SH k15 357 11 (nI i) F) 357 11 (nI i) (nI (szF f)) μ = _
    have h : (nI (szF f) ≤ nI (szF f)) = True := eq_true (nI_le (by omega) (by omega))
    simp only [bd_n, gd_n, ca2_n, ca_n, nbtF, pbfT, Bool.not_true, Bool.not_false, if_true, if_false, m_X3_gather_b39, iz3, hg.2, h]
  | succ d ih =>
    intro j F μ hj hF hg h1 h2
    obtain ⟨F, rfl⟩ : ∃ g, F = g + 1 := ⟨F - 1, by omega⟩
    have h : (nI (szF f) ≤ nI j) = False := eq_false (nle_nI (by omega) (by omega))
    have sr : SR μ 11 f := hg.1.sr hS (by omega) (by decide)
    have p1 : gR μ 357 1 = 358 := by rw [hg.1.2]; exact hp.1
    have p2 : gR μ 357 2 = 359 := by rw [hg.1.2]; exact hp.2.1
    have x1 : ix SH 8 358 (nI i) = true := ix_of (n := 6) rfl (by omega) (by decide)
    have x2 : ix SH 8 359 (nI i) = true := ix_of (n := 6) rfl (by omega) (by decide)
    have y1 := sr.1.ix1 (i := i) (by omega)
    have y2 := sr.1.ix1 (i := j) (by omega)
    rw [show 11 + 1 = 12 from rfl] at y1 y2
    have g5 : gR μ 11 5 = 12 := sr.1.2.1
    have m1 := x_mayF sr (by omega) (show j < szF f by omega) hi
    obtain ⟨μ', e1, e2, e3, e4, e5⟩ := ih (j + 1) F (sI (sI μ 358 i (nI (mk (fun j => fE f j i) (j + 1)))) 359 i (nI (mk (fE f i) (j + 1)))) (by omega) (by omega) ((hg.w (by decide)).w (by decide)) (by rw [gI_o (by decide), gI_w]) gI_w
    have fin2 : ∀ μ2 v, μ2 = sI μ 358 i (nI (mk (fun j => fE f j i) (j + 1))) → (v = if fE f i j = true then 1 <<< (nI j &&& 31) else 0) → m_X3_gather_b113 SH k15 (m_X3_gather_h39 SH k15 357 11 (nI i) F) 357 11 (nI i) (nI j) v (nI (mk (fE f i) j)) (nI i) 359 μ2 = m_X3_gather_b121 SH k15 357 11 (nI i) μ' := fun μ2 v e hv => by
      subst e
      simp only [bd_n, gd_n, ca2_n, ca_n, nbtF, pbfT, Bool.not_true, Bool.not_false, if_true, if_false, m_X3_gather_b113, x2, nI_clamp (show i < 2 ^ 31 by omega), mk_nx (t := fE f i) (show j < 8 by omega) hv, show nI j + 1 = nI (j + 1) from nI_add _ 1]
      exact e1
    have fin1 : ∀ v, (v = if fE f j i = true then 1 <<< (nI j &&& 31) else 0) → m_X3_gather_b79 SH k15 (m_X3_gather_h39 SH k15 357 11 (nI i) F) 357 11 (nI i) (nI j) v (nI (mk (fun j => fE f j i) j)) (nI i) 358 μ = m_X3_gather_b121 SH k15 357 11 (nI i) μ' := fun v hv => by
      have sr2 : SR (sI μ 358 i (nI (mk (fun j => fE f j i) (j + 1)))) 11 f := (hg.w (by decide)).1.sr hS (by omega) (by decide)
      have m2 := x_mayF sr2 (by omega) hi (show j < szF f by omega)
      rw [gR_sI, gR_sI] at m2
      cases hb : fE f i j with
      | false =>
        rw [hb] at m2
        simp only [bd_n, gd_n, ca2_n, ca_n, nbtF, pbfT, Bool.not_true, Bool.not_false, if_true, if_false, m_X3_gather_b79, x1, nI_clamp (show i < 2 ^ 31 by omega), mk_nx (t := fun j => fE f j i) (show j < 8 by omega) hv, iz3, gR_sI, p2, x2, gI_o (show 359 ≠ 358 by decide), h2, iz411, g5, y1, y2, nI_clamp (show j < 2 ^ 31 by omega), m2]
        exact fin2 _ 0 rfl (by rw [hb, if_neg (by decide)])
      | true =>
        rw [hb] at m2
        simp only [bd_n, gd_n, ca2_n, ca_n, nbtF, pbfT, Bool.not_true, Bool.not_false, if_true, if_false, m_X3_gather_b79, x1, nI_clamp (show i < 2 ^ 31 by omega), mk_nx (t := fun j => fE f j i) (show j < 8 by omega) hv, iz3, gR_sI, p2, x2, gI_o (show 359 ≠ 358 by decide), h2, iz411, g5, y1, y2, nI_clamp (show j < 2 ^ 31 by omega), m2]
        exact fin2 _ _ rfl (by rw [hb, if_pos rfl])
    refine ⟨μ', ?_, e2, e3, e4, fun k hk => ?_⟩
    · show m_X3_gather_b39 SH k15 (m_X3_gather_h39 SH k15 357 11 (nI i) F) 357 11 (nI i) (nI j) μ = _
      cases hb : fE f j i with
      | false =>
        rw [hb] at m1
        simp only [bd_n, gd_n, ca2_n, ca_n, nbtF, pbfT, Bool.not_true, Bool.not_false, if_true, if_false, m_X3_gather_b39, iz3, hg.2, h, p1, x1, nI_clamp (show i < 2 ^ 31 by omega), h1, iz411, g5, y1, y2, nI_clamp (show j < 2 ^ 31 by omega), m1]
        exact fin1 0 (by rw [hb, if_neg (by decide)])
      | true =>
        rw [hb] at m1
        simp only [bd_n, gd_n, ca2_n, ca_n, nbtF, pbfT, Bool.not_true, Bool.not_false, if_true, if_false, m_X3_gather_b39, iz3, hg.2, h, p1, x1, nI_clamp (show i < 2 ^ 31 by omega), h1, iz411, g5, y1, y2, nI_clamp (show j < 2 ^ 31 by omega), m1]
        exact fin1 _ (by rw [hb, if_pos rfl])
    · have q := e5 k hk
      rw [gI_o (show 358 ≠ 359 by decide), gI_k hk, gI_k hk, gI_o (show 359 ≠ 358 by decide)] at q
      exact q
theorem x_rg1 {μ0 : Mu} {f : Nat → Int32} (hS : SR μ0 11 f) (hz : szF f ≤ 6) (hp : P4 μ0) : ∀ (d i F : Nat) (μ : Mu), i + d = szF f → d < F → GC μ0 μ (szF f) → (∀ k, k < i → gI μ 358 k = nI (mk (fun j => fE f j k) (szF f)) ∧ gI μ 359 k = nI (mk (fE f k) (szF f))) → ∃ μ', m_X3_gather_h15 SH 357 11 F (nI i) μ = m_X3_gather_b127 SH 357 μ' ∧ GC μ0 μ' (szF f) ∧ ∀ k, k < szF f → gI μ' 358 k = nI (mk (fun j => fE f j k) (szF f)) ∧ gI μ' 359 k = nI (mk (fE f k) (szF f)) := by
  intro d
  induction d with
  | zero =>
    intro i F μ hi hF hg h1
    obtain ⟨F, rfl⟩ : ∃ g, F = g + 1 := ⟨F - 1, by omega⟩
    refine ⟨μ, ?_, hg, fun k hk => h1 k (by omega)⟩
    show m_X3_gather_b15 SH (m_X3_gather_h15 SH 357 11 F) 357 11 (nI i) μ = _
    have h : (nI (szF f) ≤ nI i) = True := eq_true (nI_le (by omega) (by omega))
    simp only [bd_n, gd_n, ca2_n, ca_n, nbtF, pbfT, Bool.not_true, Bool.not_false, if_true, if_false, m_X3_gather_b15, iz3, hg.2, h]
  | succ d ih =>
    intro i F μ hi hF hg h1
    obtain ⟨F, rfl⟩ : ∃ g, F = g + 1 := ⟨F - 1, by omega⟩
    have h : (nI (szF f) ≤ nI i) = False := eq_false (nle_nI (by omega) (by omega))
    have p1 : gR μ 357 1 = 358 := by rw [hg.1.2]; exact hp.1
    have p2 : gR μ 357 2 = 359 := by rw [hg.1.2]; exact hp.2.1
    have x1 : ix SH 8 358 (nI i) = true := ix_of (n := 6) rfl (by omega) (by decide)
    have x2 : ix SH 8 359 (nI i) = true := ix_of (n := 6) rfl (by omega) (by decide)
    obtain ⟨μ1, e1, e2, e3, e4, e5⟩ := x_rg2 (i := i) (k15 := m_X3_gather_h15 SH 357 11 F) hS hz hp (by omega) (szF f) 0 FU (sI (sI μ 358 i 0) 359 i 0) (by omega) (by rw [FU_eq]; omega) ((hg.w (by decide)).w (by decide)) (by rw [gI_o (by decide), gI_w]; rfl) (by rw [gI_w]; rfl)
    rw [show nI 0 = (0 : Int32) from rfl] at e1
    obtain ⟨μ', e6, e7⟩ := ih (i + 1) F μ1 (by omega) (by omega) e2 (fun k hk => by
      by_cases q : k = i
      · rw [q]; exact ⟨e3, e4⟩
      · have w := e5 k q
        rw [gI_o (show 358 ≠ 359 by decide), gI_k q, gI_k q, gI_o (show 359 ≠ 358 by decide)] at w
        rw [w.1, w.2]
        exact h1 k (by omega))
    refine ⟨μ', ?_, e7⟩
    show m_X3_gather_b15 SH (m_X3_gather_h15 SH 357 11 F) 357 11 (nI i) μ = _
    simp only [bd_n, gd_n, ca2_n, ca_n, nbtF, pbfT, Bool.not_true, Bool.not_false, if_true, if_false, m_X3_gather_b15, iz3, hg.2, h, p1, x1, nI_clamp (show i < 2 ^ 31 by omega), gR_sI, p2, x2, e1, m_X3_gather_b121, show nI i + 1 = nI (i + 1) from nI_add _ 1]
    exact e6
/-- what stands behind it -/
def GD (μ0 μ : Mu) (f : Nat → Int32) : Prop := GC μ0 μ (szF f) ∧ (∀ u, u < 2 ^ szF f → tab μ 360 (szF f) (eS (fE f) (szF f)) u) ∧ ∀ u, u < 2 ^ szF f → tab μ 361 (szF f) (bS (fE f) (szF f)) u
theorem CK.sc {μ0 μ1 μ2 : Mu} {t n : Nat} (h : GC μ0 μ1 n) (h2 : CK μ1 μ2 t) (ht : 360 ≤ t ∧ t ≤ 361) : GC μ0 μ2 n := ⟨⟨h.1.1.trans (h2.1.mono (fun b hb => by omega)), fun b k => by rw [h2.2, h.1.2]⟩, by rw [h2.1.I (by omega)]; exact h.2⟩
theorem x_rgather {μ0 : Mu} {P : Pl} {c : Nat} {f : Nat → Int32} (hS : SR μ0 11 f) (g : GP P c f) (hz : szF f ≤ 6) (hp : P4 μ0) : ∃ μ, m_X3_gather SH 357 11 μ0 = some μ ∧ GD μ0 μ f := by
  have k4 : gI μ0 11 4 = nI (szF f) := by rw [hS.2.2.2.2.1]; exact g.sz.1
  have mn := x_mn2 (a := szF f) (b := 6) (μ := μ0) (by omega) (by decide)
  rw [Nat.min_eq_left hz, show nI 6 = (6 : Int32) from rfl] at mn
  obtain ⟨μ1, e1, e2, e3⟩ := x_rg1 hS hz hp (szF f) 0 FU (sI μ0 357 0 (nI (szF f))) (by omega) (by rw [FU_eq]; omega) ⟨SC.rf.w (by decide), gI_w⟩ (fun k hk => absurd hk (by omega))
  rw [show nI 0 = (0 : Int32) from rfl] at e1
  obtain ⟨μ2, f1, f2, f3⟩ := x_cr (t := 360) (q := 358) (K := fun i j => fE f j i) (Or.inl rfl) (Or.inl rfl) e2.2 hz (fun i hi => (e3 i hi).1) (eS_gr (fE f) (szF f))
  have gc2 := CK.sc e2 f2 (by decide)
  obtain ⟨μ3, f4, f5, f6⟩ := x_cr (t := 361) (q := 359) (K := fE f) (Or.inr rfl) (Or.inr rfl) gc2.2 hz (fun i hi => by rw [f2.1.I (by decide)]; exact (e3 i hi).2) (bS_gr (fE f) (szF f))
  have gc3 := CK.sc gc2 f5 (by decide)
  have q1 : gR μ1 357 3 = 360 ∧ gR μ1 357 1 = 358 := by rw [e2.1.2, e2.1.2]; exact ⟨hp.2.2.1, hp.1⟩
  have q2 : gR μ2 357 4 = 361 ∧ gR μ2 357 2 = 359 := by rw [gc2.1.2, gc2.1.2]; exact ⟨hp.2.2.2, hp.2.1⟩
  refine ⟨μ3, ?_, gc3, fun u hu i hi hb => ?_, f6⟩
  · simp only [bd_n, gd_n, ca2_n, ca_n, nbtF, pbfT, Bool.not_true, Bool.not_false, if_true, if_false, m_X3_gather, iz411, k4, mn, iz3, e1, m_X3_gather_b127, q1.1, q1.2, f1, q2.1, q2.2, f4]
  · rw [f5.1.I (by decide)]
    exact f3 u hu i hi hb

/-! fault -/
theorem Dok.same {μ μ' : Mu} {q : Nat} (h : Dok μ μ' q) : same (fun x => x < q ∨ q + 4 ≤ x) μ μ' := fun x hx => ⟨fun k => h.2.2 x k hx, fun k => h.2.1 x k, fun k => h.1 x k⟩
theorem InvX.dr {μ μ' : Mu} {σ : Sg} {c : Nat} (h : InvX μ σ) (hg : Good σ c) (hd : Dok μ μ' (gR μ 1 3)) : InvX μ' σ := by
  have hs := hd.same
  obtain ⟨h0, h1, h2, h3, h4, h5, h6⟩ := h
  obtain ⟨g1, g2, g3, g4, g5, g6, g7⟩ := hg
  have hq := h0.2.1
  refine ⟨h0.mono (fun b k hb => hd.1 b k), by rw [hs.I (b := 1) (by omega)]; exact h1, fun i hi => by rw [hs.I (b := 2) (by omega)]; exact h2 i hi, ?_, ⟨h4.1.mono g4.sz.2 (hs.mono (fun b hb => by omega)), by rw [hd.2.1]; exact h4.2⟩, ?_, ?_⟩
  · rw [hd.1]
    exact h3.mono (hs.mono (fun b hb => by omega))
  · obtain ⟨a1, r, hr, a2, a3⟩ := h5
    refine ⟨by rw [hs.I (b := 37) (by omega)]; exact a1, r, hr, by rw [hs.I (b := 37) (by omega)]; exact a2, fun i g hi => ?_⟩
    exact ⟨(a3 i g hi).1.mono (g6 g (List.mem_of_getElem? hi)).sz.2 (hs.mono (fun b hb => by omega)), by rw [hd.2.1]; exact (a3 i g hi).2⟩
  · exact fun s hs2 => ⟨fun e => by rw [hs.I (b := 352) (by omega)]; exact (h6 s hs2).1 e, fun g e => ⟨by rw [hs.I (b := 352) (by omega)]; exact ((h6 s hs2).2 g e).1, ((h6 s hs2).2 g e).2.1.mono (g7 s g hs2 e).sz.2 (hs.mono (fun b hb => by omega)), by rw [hd.2.1]; exact ((h6 s hs2).2 g e).2.2⟩⟩
theorem InvM.rd {μ μ' : Mu} {σ : Sg} (h : InvM μ σ) (hd : Rok μ μ') : InvM μ' σ := by
  obtain ⟨⟨h0, h1⟩, h2, h3, h4, h5, h6, h7⟩ := h
  have I : ∀ b k, b ≠ 414 → b ≠ 419 → b ≠ 420 → b ≠ 421 → gI μ' b k = gI μ b k := hd.2.2.1
  have A : ∀ k, k ≠ 3 → k ≠ 10 → k ≠ 11 → k ≠ 12 → gI μ' 414 k = gI μ 414 k := hd.2.2.2
  refine ⟨⟨h0.mono (fun k => hd.1 414 k), fun k hk => by rw [I _ _ (by decide) (by decide) (by decide) (by decide)]; exact h1 k hk⟩, by rw [A _ (by decide) (by decide) (by decide) (by decide)]; exact h2, fun i hi => by rw [I _ _ (by decide) (by decide) (by decide) (by decide)]; exact h3 i hi, ?_, by rw [hd.2.1]; exact h5, ?_, ?_⟩
  · obtain ⟨a1, a2, a3, a4, a5⟩ := h4
    exact ⟨by rw [A _ (by decide) (by decide) (by decide) (by decide)]; exact a1, by rw [A _ (by decide) (by decide) (by decide) (by decide)]; exact a2, by rw [A _ (by decide) (by decide) (by decide) (by decide)]; exact a3, fun b hb => by rw [I _ _ (by decide) (by decide) (by decide) (by decide), I _ _ (by decide) (by decide) (by decide) (by decide)]; exact a4 b hb, fun p hp => by rw [I _ _ (by decide) (by decide) (by decide) (by decide)]; exact a5 p hp⟩
  · exact ⟨by rw [A _ (by decide) (by decide) (by decide) (by decide)]; exact h6.1, fun i g hg => ⟨fun k hk => by rw [I _ _ (by decide) (by decide) (by decide) (by decide)]; exact (h6.2 i g hg).1 k hk, by rw [hd.2.1]; exact (h6.2 i g hg).2⟩⟩
  · exact fun s hs2 => ⟨fun e => by rw [I _ _ (by decide) (by decide) (by decide) (by decide)]; exact (h7 s hs2).1 e, fun g e => ⟨by rw [I _ _ (by decide) (by decide) (by decide) (by decide)]; exact ((h7 s hs2).2 g e).1, fun k hk => by rw [I _ _ (by decide) (by decide) (by decide) (by decide)]; exact ((h7 s hs2).2 g e).2.1 k hk, by rw [hd.2.1]; exact ((h7 s hs2).2 g e).2.2⟩⟩
theorem Rok.same {μ μ' : Mu} (h : Rok μ μ') : same (fun b => b < 414) μ μ' := fun x hx => ⟨fun k => h.2.2.1 x k (by omega) (by omega) (by omega) (by omega), fun k => h.2.1 x k, fun k => h.1 x k⟩
def tN (σ : Sg) (i : Nat) : Nat := (sT σ i).toNatClampNeg
theorem Good.tx {σ : Sg} {c i : Nat} (h : Good σ c) (hi : i < sL σ) : sT σ i = nI (tN σ i) ∧ tN σ i < 256 := by
  obtain ⟨n, hn, e⟩ := h.2.1 i hi
  have : tN σ i = n := by unfold tN; rw [e, nI_clamp (by omega)]
  rw [this]
  exact ⟨e, hn⟩
theorem Xp.dr {μ : Mu} (h : Xp μ) : Pp μ (gR μ 1 3) := by
  rcases h.2.1 with q | q
  · rw [q.2]; exact h.2.2.2.2.2.2.2.2.2.2.2.2.2.2.2.1
  · rw [q.2]; exact h.2.2.2.2.2.2.2.2.2.2.2.2.2.2.1
theorem x_rdr {μ : Mu} {σ : Sg} {c : Nat} (iX : InvX μ σ) (g : Good σ c) : ∃ μ', m_X2_readFrom SH (gR μ 1 3) 2 (nI (sL σ)) μ = some ((rdr (tN σ) (sL σ) 0 1 D0).1, μ') ∧ ((rdr (tN σ) (sL σ) 0 1 D0).1 = -9 → PR μ' (gR μ 1 3) (rdr (tN σ) (sL σ) 0 1 D0).2) ∧ Dok μ μ' (gR μ 1 3) :=
  x_readFrom g.1 (fun i hi => ⟨by rw [iX.2.2.1 i hi]; exact (g.tx hi).1, (g.tx hi).2⟩) iX.1.dr
theorem y_rdr {μ : Mu} {σ : Sg} {c : Nat} (iM : InvM μ σ) (g : Good σ c) : ∃ μ' j, m_X7_readFair SH 414 μ = some ((rdr (tN σ) (sL σ) 0 1 D0).1, μ') ∧ ((rdr (tN σ) (sL σ) 0 1 D0).1 = -9 → MD μ' (tN σ) (sL σ) j (rdr (tN σ) (sL σ) 0 1 D0).2) ∧ Rok μ μ' :=
  y_readFair iM.1.1 iM.2.1 g.1 (fun i hi => ⟨by rw [iM.2.2.1 i hi]; exact (g.tx hi).1, (g.tx hi).2⟩)
theorem op_fault : OpI (m_X6_fault SH 1) (m_X7_fault SH 414) := by
  intro μ σ c iX iM g hc
  refine fin_rw (σ := σ) (σ' := σ) (r := (rdr (tN σ) (sL σ) 0 1 D0).1) iM (g.more (by omega)) ?_ ?_
  · obtain ⟨μ1, e1, _, k1⟩ := x_rdr iX g
    have hq := iX.1.2.1
    refine ⟨μ1, ?_, iX.dr g k1, k1.same.mono (fun b hb => by omega)⟩
    simp only [bd_n, gd_n, ca2_n, ca_n, nbtF, pbfT, Bool.not_true, Bool.not_false, if_true, if_false, m_X6_fault, iz6, iX.1.1, iX.1.dr.iz, iX.2.1, e1]
  · intro μ iM
    have iM' := iM.thr 0
    obtain ⟨μ1, j, e1, _, k1⟩ := y_rdr iM' g
    refine ⟨μ1, ?_, iM'.rd k1, thr_same.trans k1.same⟩
    simp only [bd_n, gd_n, ca2_n, ca_n, nbtF, pbfT, Bool.not_true, Bool.not_false, if_true, if_false, m_X7_fault, iz7, e1]
/-! fair -/
def begP : Nat → Int32 := fun k => if k ≤ 15 then -9 else 0
theorem GP.beg (P : Pl) (c : Nat) : GP P c begP := by
  have sz : szF begP = 0 := rfl
  have lk : ∀ b, lkF begP b = 0 := fun b => by
    show (begP (16 + 17 * b)).toNatClampNeg = 0
    unfold begP
    rw [if_neg (by omega)]
    rfl
  refine ⟨⟨0, by omega, rfl⟩, ⟨0, by omega, rfl, fun i hi => by rw [sz] at hi; exact absurd hi (by omega), fun b hb l hl => by rw [lk] at hl; exact absurd hl (by omega)⟩, Or.inl rfl, fun p hp => Or.inl ?_, fun p hp => Or.inl ?_, fun i hi => by rw [sz] at hi; exact absurd hi (by omega), fun b hb => ⟨0, by omega, ?_⟩, fun i j l k hi => by rw [sz] at hi; exact absurd hi (by omega), fun b i l k hb hi => by rw [sz] at hi; exact absurd hi (by omega), fun b l k hb hl => by rw [lk] at hl; exact absurd hl (by omega)⟩
  · unfold begP; rw [if_pos (by omega)]
  · unfold begP; rw [if_pos (by omega)]
  · unfold begP; rw [if_neg (by omega)]; rfl
theorem x_st46 {a : Nat} (ha : scB a = true) : ∀ (d i F : Nat) (μ : Mu), i + d = 5 → d < F → Sp μ a → (∀ p, p < i → gI μ (a + 3) p = -9 ∧ gI μ (a + 4) p = -9 ∧ gI μ (a + 5) p = -9) → ∃ μ', m_X4_startAnew_h46 SH a F (nI i) μ = some μ' ∧ (∀ p, p < 5 → gI μ' (a + 3) p = -9 ∧ gI μ' (a + 4) p = -9 ∧ gI μ' (a + 5) p = -9) ∧ (∀ x k, gR μ' x k = gR μ x k) ∧ (∀ x k, gJ μ' x k = gJ μ x k) ∧ ∀ x k, x ≠ a + 3 → x ≠ a + 4 → x ≠ a + 5 → gI μ' x k = gI μ x k := by
  intro d
  induction d with
  | zero =>
    intro i F μ hi hF h c
    obtain ⟨F, rfl⟩ : ∃ g, F = g + 1 := ⟨F - 1, by omega⟩
    have e : i = 5 := by omega
    subst e
    refine ⟨μ, ?_, c, fun _ _ => rfl, fun _ _ => rfl, fun _ _ _ _ _ => rfl⟩
    show m_X4_startAnew_b46 SH (m_X4_startAnew_h46 SH a F) a (nI 5) μ = _
    unfold m_X4_startAnew_b46
    rw [if_pos (by decide)]
  | succ d ih =>
    intro i F μ hi hF h c
    obtain ⟨F, rfl⟩ : ∃ g, F = g + 1 := ⟨F - 1, by omega⟩
    obtain ⟨ν, hν⟩ : ∃ ν, ν = sI (sI (sI μ (a + 3) i (-9)) (a + 4) i (-9)) (a + 5) i (-9) := ⟨_, rfl⟩
    have n34 : ¬ a + 3 = a + 4 := by omega
    have n35 : ¬ a + 3 = a + 5 := by omega
    have n45 : ¬ a + 4 = a + 5 := by omega
    have hc2 : ∀ p, p < i + 1 → gI ν (a + 3) p = -9 ∧ gI ν (a + 4) p = -9 ∧ gI ν (a + 5) p = -9 := by
      intro p hp
      rw [hν]
      refine ⟨?_, ?_, ?_⟩
      · rw [gI_sI, if_neg n35, gI_sI, if_neg n34, gI_sI, if_pos rfl]
        by_cases e : p = i
        · rw [if_pos e]
        · rw [if_neg e]; exact (c p (by omega)).1
      · rw [gI_sI, if_neg n45, gI_sI, if_pos rfl]
        by_cases e : p = i
        · rw [if_pos e]
        · rw [if_neg e, gI_sI, if_neg (Ne.symm n34)]; exact (c p (by omega)).2.1
      · rw [gI_sI, if_pos rfl]
        by_cases e : p = i
        · rw [if_pos e]
        · rw [if_neg e, gI_sI, if_neg (Ne.symm n45), gI_sI, if_neg (Ne.symm n35)]; exact (c p (by omega)).2.2
    obtain ⟨μ', e', z1, z2, z3, z4⟩ := ih (i + 1) F ν (by omega) (by omega) (h.cps (fun x k => by rw [hν]; rfl)) hc2
    refine ⟨μ', ?_, z1, fun x k => by rw [z2, hν]; rfl, fun x k => by rw [z3, hν]; rfl, fun x k h1 h2 h3 => by rw [z4 x k h1 h2 h3, hν, gI_sI, if_neg h3, gI_sI, if_neg h2, gI_sI, if_neg h1]⟩
    rw [← e']
    show m_X4_startAnew_b46 SH (m_X4_startAnew_h46 SH a F) a (nI i) μ = _
    have u1 : ((5 : Int32) ≤ nI i) = False := eq_false (nleL 5 (by omega) (by decide))
    have p1 : (nI i).toNatClampNeg = i := nI_clamp (by omega)
    simp only [bd_n, gd_n, ca2_n, ca_n, nbtF, pbfT, Bool.not_true, Bool.not_false, if_true, if_false, m_X4_startAnew_b46, u1, h.iz, h.2.2.2.1, h.2.2.2.2.1, h.2.2.2.2.2.1, gR_sI, show ix SH 8 (a + 3) (nI i) = true from h.ix3 (by omega), show ix SH 8 (a + 4) (nI i) = true from h.ix4 (by omega), show ix SH 8 (a + 5) (nI i) = true from h.ix5 (by omega), p1, ← hν, show nI i + 1 = nI (i + 1) from nI_add _ 1]
def bgM (μ : Mu) (t b : Nat) : Mu := sI (sI (sI (sI μ t 0 (nI b)) t 1 0) t 2 0) t 3 0
theorem x_st23 {a : Nat} (ha : scB a = true) : ∀ (d i F : Nat) (μ : Mu), i + d = 2 → d < F → Sp μ a → (∀ b, b < i → gI μ (a + 22 + 2 * b) 0 = nI b ∧ gI μ (a + 22 + 2 * b) 1 = 0 ∧ gI μ (a + 22 + 2 * b) 2 = 0 ∧ gI μ (a + 22 + 2 * b) 3 = 0) → ∃ μ', m_X4_startAnew_h23 SH a F (nI i) μ = m_X4_startAnew_b44 SH a μ' ∧ (∀ b, b < 2 → gI μ' (a + 22 + 2 * b) 0 = nI b ∧ gI μ' (a + 22 + 2 * b) 1 = 0 ∧ gI μ' (a + 22 + 2 * b) 2 = 0 ∧ gI μ' (a + 22 + 2 * b) 3 = 0) ∧ (∀ x k, gR μ' x k = gR μ x k) ∧ (∀ x k, gJ μ' x k = gJ μ x k) ∧ ∀ x k, x ≠ a + 22 → x ≠ a + 24 → gI μ' x k = gI μ x k := by
  intro d
  induction d with
  | zero =>
    intro i F μ hi hF h c
    obtain ⟨F, rfl⟩ : ∃ g, F = g + 1 := ⟨F - 1, by omega⟩
    have e : i = 2 := by omega
    subst e
    refine ⟨μ, ?_, c, fun _ _ => rfl, fun _ _ => rfl, fun _ _ _ _ => rfl⟩
    show m_X4_startAnew_b23 SH (m_X4_startAnew_h23 SH a F) a (nI 2) μ = _
    unfold m_X4_startAnew_b23
    rw [if_pos (by decide)]
  | succ d ih =>
    intro i F μ hi hF h c
    obtain ⟨F, rfl⟩ : ∃ g, F = g + 1 := ⟨F - 1, by omega⟩
    have S : ∀ x k, x ≠ a + 22 + 2 * i → gI (bgM μ (a + 22 + 2 * i) i) x k = gI μ x k := fun x k hx => by
      unfold bgM
      rw [gI_sI, if_neg hx, gI_sI, if_neg hx, gI_sI, if_neg hx, gI_sI, if_neg hx]
    have hc2 : ∀ b, b < i + 1 → gI (bgM μ (a + 22 + 2 * i) i) (a + 22 + 2 * b) 0 = nI b ∧ gI (bgM μ (a + 22 + 2 * i) i) (a + 22 + 2 * b) 1 = 0 ∧ gI (bgM μ (a + 22 + 2 * i) i) (a + 22 + 2 * b) 2 = 0 ∧ gI (bgM μ (a + 22 + 2 * i) i) (a + 22 + 2 * b) 3 = 0 := by
      intro b hb
      by_cases e : b = i
      · subst e
        unfold bgM
        refine ⟨?_, ?_, ?_, ?_⟩
        · rw [gI_sI, if_pos rfl, if_neg (by decide), gI_sI, if_pos rfl, if_neg (by decide), gI_sI, if_pos rfl, if_neg (by decide), gI_sI, if_pos rfl, if_pos rfl]
        · rw [gI_sI, if_pos rfl, if_neg (by decide), gI_sI, if_pos rfl, if_neg (by decide), gI_sI, if_pos rfl, if_pos rfl]
        · rw [gI_sI, if_pos rfl, if_neg (by decide), gI_sI, if_pos rfl, if_pos rfl]
        · rw [gI_sI, if_pos rfl, if_pos rfl]
      · rw [S _ _ (by omega), S _ _ (by omega), S _ _ (by omega), S _ _ (by omega)]
        exact c b (by omega)
    obtain ⟨μ', e', z1, z2, z3, z4⟩ := ih (i + 1) F (bgM μ (a + 22 + 2 * i) i) (by omega) (by omega) (h.cps (fun x k => rfl)) hc2
    refine ⟨μ', ?_, z1, fun x k => by rw [z2]; rfl, fun x k => by rw [z3]; rfl, fun x k h1 h2 => by rw [z4 x k h1 h2, S _ _ (by omega)]⟩
    rw [← e']
    show m_X4_startAnew_b23 SH (m_X4_startAnew_h23 SH a F) a (nI i) μ = _
    have u1 : ((2 : Int32) ≤ nI i) = False := eq_false (nleL 2 (by omega) (by decide))
    have p1 : (nI i).toNatClampNeg = i := nI_clamp (by omega)
    simp only [bd_n, gd_n, ca2_n, ca_n, nbtF, pbfT, Bool.not_true, Bool.not_false, if_true, if_false, m_X4_startAnew_b23, u1, h.iz, h.2.2.1, show ix SH 11 (a + 2) (nI i) = true from h.ix2 (by omega), p1, h.2.2.2.2.2.2.1 i (by omega), (h.tpb (b := i) (by omega)).iz, m_X5_begin, show nI i + 1 = nI (i + 1) from nI_add _ 1]
    rfl
theorem x_start {μ : Mu} {a : Nat} (h : Sp μ a) : ∃ μ', m_X4_startAnew SH a μ = some μ' ∧ SR μ' a begP ∧ (∀ x k, gR μ' x k = gR μ x k) ∧ (∀ x k, gJ μ' x k = gJ μ x k) ∧ ∀ x k, (x < a ∨ a + 26 ≤ x) → gI μ' x k = gI μ x k := by
  obtain ⟨ν, hν⟩ : ∃ ν, ν = sI (sI (sI (sI μ a 1 0) a 2 0) a 3 (-9)) a 4 0 := ⟨_, rfl⟩
  have S : ∀ x k, x ≠ a → gI ν x k = gI μ x k := fun x k hx => by rw [hν, gI_sI, if_neg hx, gI_sI, if_neg hx, gI_sI, if_neg hx, gI_sI, if_neg hx]
  obtain ⟨μ1, e1, y1, y2, y3, y4⟩ := x_st23 h.1 2 0 FU ν (by omega) (by rw [FU_eq]; omega) (h.cps (fun x k => by rw [hν]; rfl)) (fun b hb => absurd hb (by omega))
  obtain ⟨μ2, e2, z1, z2, z3, z4⟩ := x_st46 h.1 5 0 FU μ1 (by omega) (by rw [FU_eq]; omega) (h.cps (fun x k => by rw [y2, hν]; rfl)) (fun b hb => absurd hb (by omega))
  rw [show nI 0 = (0 : Int32) from rfl] at e1 e2
  have A : ∀ k, gI μ2 a k = gI ν a k := fun k => by rw [z4 _ _ (by omega) (by omega) (by omega), y4 _ _ (by omega) (by omega)]
  refine ⟨μ2, ?_, ⟨h.cps (fun x k => by rw [z2, y2, hν]; rfl), ?_, ?_, ?_, ?_, fun p hp => ?_, fun i hi => absurd hi (by show ¬ i < 0; omega), fun b hb => ?_⟩, fun x k => by rw [z2, y2, hν]; rfl, fun x k => by rw [z3, y3, hν]; rfl, fun x k hx => by rw [z4 _ _ (by omega) (by omega) (by omega), y4 _ _ (by omega) (by omega), S _ _ (by omega)]⟩
  · simp only [bd_n, gd_n, ca2_n, ca_n, nbtF, pbfT, Bool.not_true, Bool.not_false, if_true, if_false, m_X4_startAnew, h.iz, ← hν, e1, m_X4_startAnew_b44, e2]
  · rw [A, hν, gI_sI, if_pos rfl, if_neg (by decide), gI_sI, if_pos rfl, if_neg (by decide), gI_sI, if_pos rfl, if_neg (by decide), gI_sI, if_pos rfl, if_pos rfl]; rfl
  · rw [A, hν, gI_sI, if_pos rfl, if_neg (by decide), gI_sI, if_pos rfl, if_neg (by decide), gI_sI, if_pos rfl, if_pos rfl]; rfl
  · rw [A, hν, gI_sI, if_pos rfl, if_neg (by decide), gI_sI, if_pos rfl, if_pos rfl]; rfl
  · rw [A, hν, gI_sI, if_pos rfl, if_pos rfl]; rfl
  · unfold begP
    rw [if_pos (by omega), if_pos (by omega), if_pos (by omega)]
    exact z1 p hp
  · have lk : lkF begP b = 0 := by
      show (begP (16 + 17 * b)).toNatClampNeg = 0
      unfold begP
      rw [if_neg (by omega)]
      rfl
    have B : ∀ k, gI μ2 (a + 22 + 2 * b) k = gI μ1 (a + 22 + 2 * b) k := fun k => z4 _ _ (by omega) (by omega) (by omega)
    obtain ⟨q1, q2, q3, q4⟩ := y1 b hb
    refine ⟨by rw [B]; exact q1, ?_, by rw [B]; exact q3, by rw [B]; exact q4, fun k hk => by rw [lk] at hk; exact absurd hk (by omega)⟩
    unfold begP
    rw [if_neg (by omega), B]
    exact q2
theorem y_beg2 : ∀ (d k F : Nat) (μ : Mu), k + d = 205 → d < F → Mp μ → (∀ j, j < k → gI μ 422 j = begP j) → ∃ μ', m_X7_begin_h2 SH 414 F (nI k) μ = m_X7_begin_b33 SH 414 μ' ∧ (∀ j, j < 205 → gI μ' 422 j = begP j) ∧ (∀ x k, gR μ' x k = gR μ x k) ∧ (∀ x k, gJ μ' x k = gJ μ x k) ∧ ∀ x k, x ≠ 422 → gI μ' x k = gI μ x k := by
  intro d
  induction d with
  | zero =>
    intro k F μ hk hF h c
    obtain ⟨F, rfl⟩ : ∃ g, F = g + 1 := ⟨F - 1, by omega⟩
    have e : k = 205 := by omega
    subst e
    refine ⟨μ, ?_, c, fun _ _ => rfl, fun _ _ => rfl, fun _ _ _ => rfl⟩
    show m_X7_begin_b2 SH (m_X7_begin_h2 SH 414 F) 414 (nI 205) μ = _
    unfold m_X7_begin_b2
    rw [if_pos (by decide)]
  | succ d ih =>
    intro k F μ hk hF h c
    obtain ⟨F, rfl⟩ : ∃ g, F = g + 1 := ⟨F - 1, by omega⟩
    obtain ⟨μ', e', z1, z2, z3, z4⟩ := ih (k + 1) F (sI μ 422 k (begP k)) (by omega) (by omega) (h.mono (fun _ => rfl)) (fun j hj => by
      rw [gI_sI, if_pos rfl]
      by_cases e : j = k
      · rw [if_pos e, e]
      · rw [if_neg e]; exact c j (by omega))
    refine ⟨μ', ?_, z1, z2, z3, fun x j hx => by rw [z4 x j hx, gI_sI, if_neg hx]⟩
    rw [← e']
    show m_X7_begin_b2 SH (m_X7_begin_h2 SH 414 F) 414 (nI k) μ = _
    have u1 : ((205 : Int32) ≤ nI k) = False := eq_false (nleL 205 (by omega) (by decide))
    have x1 : ix SH 8 422 (nI k) = true := ix422 (by omega)
    have p1 : (nI k).toNatClampNeg = k := nI_clamp (by omega)
    unfold begP
    by_cases c15 : k ≤ 15
    · have u2 : ((15 : Int32) < nI k) = False := eq_false (Int32.not_lt.mpr (nI_le (a := k) (b := 15) c15 (by decide)))
      rw [if_pos c15]
      simp only [bd_n, gd_n, ca2_n, ca_n, nbtF, pbfT, Bool.not_true, Bool.not_false, if_true, if_false, m_X7_begin_b2, u1, iz7, h.pg, u2, m_X7_begin_b26, x1, p1, show nI k + 1 = nI (k + 1) from nI_add _ 1]
    · have u2 : ((15 : Int32) < nI k) = True := eq_true (nI_lt (a := 15) (b := k) (by omega) (by omega))
      rw [if_neg c15]
      simp only [bd_n, gd_n, ca2_n, ca_n, nbtF, pbfT, Bool.not_true, Bool.not_false, if_true, if_false, m_X7_begin_b2, u1, iz7, h.pg, u2, m_X7_begin_b26, x1, p1, show nI k + 1 = nI (k + 1) from nI_add _ 1]
theorem y_begin {μ : Mu} (h : Mp μ) : ∃ μ', m_X7_begin SH 414 μ = some μ' ∧ (∀ j, j < 205 → gI μ' 422 j = begP j) ∧ gI μ' 414 20 = 0 ∧ gI μ' 427 0 = 0 ∧ gI μ' 427 1 = 0 ∧ (∀ x k, gR μ' x k = gR μ x k) ∧ (∀ x k, gJ μ' x k = gJ μ x k) ∧ (∀ x k, x ≠ 414 → x ≠ 422 → x ≠ 427 → gI μ' x k = gI μ x k) ∧ ∀ k, k ≠ 20 → gI μ' 414 k = gI μ 414 k := by
  obtain ⟨μ1, e1, z1, z2, z3, z4⟩ := y_beg2 205 0 FU μ (by omega) (by rw [FU_eq]; omega) h (fun j hj => absurd hj (by omega))
  rw [show nI 0 = (0 : Int32) from rfl] at e1
  have ik : gR μ1 414 23 = 427 := (z2 _ _).trans h.ik
  refine ⟨sI (sI (sI μ1 414 20 0) 427 0 0) 427 1 0, ?_, fun j hj => ?_, ?_, ?_, ?_, fun x k => z2 x k, fun x k => z3 x k, fun x k h1 h2 h3 => ?_, fun k hk => ?_⟩
  · simp only [bd_n, gd_n, ca2_n, ca_n, nbtF, pbfT, Bool.not_true, Bool.not_false, if_true, if_false, m_X7_begin, e1, m_X7_begin_b33, iz7, gR_sI, ik, show ix SH 10 427 0 = true from rfl, show ix SH 10 427 1 = true from rfl, show (0 : Int32) &&& 1 = 0 from rfl, c0L, show (1 : Int32).toNatClampNeg = 1 from rfl]
  · rw [gI_sI, if_neg (by decide), gI_sI, if_neg (by decide), gI_sI, if_neg (by decide)]; exact z1 j hj
  · rw [gI_sI, if_neg (by decide), gI_sI, if_neg (by decide), gI_sI, if_pos rfl, if_pos rfl]
  · rw [gI_sI, if_pos rfl, if_neg (by decide), gI_sI, if_pos rfl, if_pos rfl]
  · rw [gI_sI, if_pos rfl, if_pos rfl]
  · rw [gI_sI, if_neg h3, gI_sI, if_neg h3, gI_sI, if_neg h1]; exact z4 x k h2
  · rw [gI_sI, if_neg (by decide), gI_sI, if_neg (by decide), gI_sI, if_pos rfl, if_neg hk]; exact z4 _ _ (by decide)
theorem y_f43 {D : Pl} {t : Nat → Nat} {L j : Nat} (hB : pB D ≤ 2) : ∀ (d b F : Nat) (μ : Mu), b + d = pB D → d < F → MD μ t L j D → gI μ 414 5 = nI (pB D) → (∀ q, q < b → gI μ 416 q = nI (pF D q) ∧ gI μ 417 q = nI (pE D q)) → ∃ μ', m_X7_fair_h43 SH 414 F (nI b) μ = m_X7_fair_b81 SH 414 μ' ∧ (∀ q, q < pB D → gI μ' 416 q = nI (pF D q) ∧ gI μ' 417 q = nI (pE D q)) ∧ (∀ x k, gR μ' x k = gR μ x k) ∧ (∀ x k, gJ μ' x k = gJ μ x k) ∧ ∀ x k, x ≠ 416 → x ≠ 417 → gI μ' x k = gI μ x k := by
  intro d
  induction d with
  | zero =>
    intro b F μ hb hF h e5 c
    obtain ⟨F, rfl⟩ : ∃ g, F = g + 1 := ⟨F - 1, by omega⟩
    have e : b = pB D := by omega
    subst e
    refine ⟨μ, ?_, c, fun _ _ => rfl, fun _ _ => rfl, fun _ _ _ _ => rfl⟩
    show m_X7_fair_b43 SH (m_X7_fair_h43 SH 414 F) 414 (nI (pB D)) μ = _
    unfold m_X7_fair_b43
    rw [gd_of iz7, e5, if_pos (Int32.le_refl _)]
  | succ d ih =>
    intro b F μ hb hF h e5 c
    obtain ⟨F, rfl⟩ : ∃ g, F = g + 1 := ⟨F - 1, by omega⟩
    obtain ⟨h0, h1, h2, h3, h4, h5, h6, h7, h8⟩ := id h
    obtain ⟨ν, hν⟩ : ∃ ν, ν = sI (sI μ 416 b (nI (pF D b))) 417 b (nI (pE D b)) := ⟨_, rfl⟩
    have S : ∀ x k, x ≠ 416 → x ≠ 417 → gI ν x k = gI μ x k := fun x k h1 h2 => by rw [hν, gI_sI, if_neg h2, gI_sI, if_neg h1]
    have hm : MD ν t L j D := ⟨h0.mono (fun k => by rw [hν]; rfl), by rw [S _ _ (by decide) (by decide)]; exact h1, by rw [S _ _ (by decide) (by decide)]; exact h2, by rw [S _ _ (by decide) (by decide)]; exact h3, by rw [S _ _ (by decide) (by decide)]; exact h4, by rw [S _ _ (by decide) (by decide)]; exact h5, fun q hq => by rw [S _ _ (by decide) (by decide), S _ _ (by decide) (by decide)]; exact h6 q hq, fun q hq => by rw [S _ _ (by decide) (by decide)]; exact h7 q hq, fun q hq => by rw [S _ _ (by decide) (by decide)]; exact h8 q hq⟩
    obtain ⟨μ', e', z1, z2, z3, z4⟩ := ih (b + 1) F ν (by omega) (by omega) hm (by rw [S _ _ (by decide) (by decide)]; exact e5) (fun q hq => by
      rw [hν]
      refine ⟨?_, ?_⟩
      · rw [gI_sI, if_neg (by decide), gI_sI, if_pos rfl]
        by_cases e : q = b
        · rw [if_pos e, e]
        · rw [if_neg e]; exact (c q (by omega)).1
      · rw [gI_sI, if_pos rfl]
        by_cases e : q = b
        · rw [if_pos e, e]
        · rw [if_neg e, gI_sI, if_neg (by decide)]; exact (c q (by omega)).2)
    refine ⟨μ', ?_, z1, fun x k => by rw [z2, hν]; rfl, fun x k => by rw [z3, hν]; rfl, fun x k h1 h2 => by rw [z4 x k h1 h2, S x k h1 h2]⟩
    rw [← e']
    show m_X7_fair_b43 SH (m_X7_fair_h43 SH 414 F) 414 (nI b) μ = _
    have u1 : (nI (pB D) ≤ nI b) = False := eq_false (nle_nI (by omega) (by omega))
    have x1 : ix SH 8 416 (nI b) = true := ix_of (n := 2) rfl (by omega) (by decide)
    have x2 : ix SH 8 417 (nI b) = true := ix_of (n := 2) rfl (by omega) (by decide)
    have x3 : ix SH 8 419 (nI b) = true := ix_of (n := 2) rfl (by omega) (by decide)
    have x4 : ix SH 8 420 (nI b) = true := ix_of (n := 2) rfl (by omega) (by decide)
    have p1 : (nI b).toNatClampNeg = b := nI_clamp (by omega)
    have g2 : ∀ v, gI (sI μ 416 b v) 420 b = nI (pE D b) := fun v => by rw [gI_sI, if_neg (by decide)]; exact (h6 b (by omega)).2
    simp only [bd_n, gd_n, ca2_n, ca_n, nbtF, pbfT, Bool.not_true, Bool.not_false, if_true, if_false, m_X7_fair_b43, iz7, e5, u1, gR_sI, show gR μ 414 7 = 416 from h0.2.1, show gR μ 414 8 = 417 from h0.2.2.1, h0.r3.1, h0.r3.2.1, x1, x2, x3, x4, p1, (h6 b (by omega)).1, g2, ← hν, show nI b + 1 = nI (b + 1) from nI_add _ 1]
theorem y_f83 {D : Pl} {t : Nat → Nat} {L j : Nat} (hP : pP D ≤ 5) : ∀ (d b F : Nat) (μ : Mu), b + d = pP D → d < F → MD μ t L j D → gI μ 414 6 = nI (pP D) → (∀ q, q < b → gI μ 418 q = nI (pT D q)) → ∃ μ', m_X7_fair_h83 SH 414 F (nI b) μ = m_X7_fair_b109 SH 414 μ' ∧ (∀ q, q < pP D → gI μ' 418 q = nI (pT D q)) ∧ (∀ x k, gR μ' x k = gR μ x k) ∧ (∀ x k, gJ μ' x k = gJ μ x k) ∧ ∀ x k, x ≠ 418 → gI μ' x k = gI μ x k := by
  intro d
  induction d with
  | zero =>
    intro b F μ hb hF h e5 c
    obtain ⟨F, rfl⟩ : ∃ g, F = g + 1 := ⟨F - 1, by omega⟩
    have e : b = pP D := by omega
    subst e
    refine ⟨μ, ?_, c, fun _ _ => rfl, fun _ _ => rfl, fun _ _ _ => rfl⟩
    show m_X7_fair_b83 SH (m_X7_fair_h83 SH 414 F) 414 (nI (pP D)) μ = _
    unfold m_X7_fair_b83
    rw [gd_of iz7, e5, if_pos (Int32.le_refl _)]
  | succ d ih =>
    intro b F μ hb hF h e5 c
    obtain ⟨F, rfl⟩ : ∃ g, F = g + 1 := ⟨F - 1, by omega⟩
    obtain ⟨h0, h1, h2, h3, h4, h5, h6, h7, h8⟩ := id h
    obtain ⟨ν, hν⟩ : ∃ ν, ν = sI μ 418 b (nI (pT D b)) := ⟨_, rfl⟩
    have S : ∀ x k, x ≠ 418 → gI ν x k = gI μ x k := fun x k h1 => by rw [hν, gI_sI, if_neg h1]
    have hm : MD ν t L j D := ⟨h0.mono (fun k => by rw [hν]; rfl), by rw [S _ _ (by decide)]; exact h1, by rw [S _ _ (by decide)]; exact h2, by rw [S _ _ (by decide)]; exact h3, by rw [S _ _ (by decide)]; exact h4, by rw [S _ _ (by decide)]; exact h5, fun q hq => by rw [S _ _ (by decide), S _ _ (by decide)]; exact h6 q hq, fun q hq => by rw [S _ _ (by decide)]; exact h7 q hq, fun q hq => by rw [S _ _ (by decide)]; exact h8 q hq⟩
    obtain ⟨μ', e', z1, z2, z3, z4⟩ := ih (b + 1) F ν (by omega) (by omega) hm (by rw [S _ _ (by decide)]; exact e5) (fun q hq => by
      rw [hν, gI_sI, if_pos rfl]
      by_cases e : q = b
      · rw [if_pos e, e]
      · rw [if_neg e]; exact c q (by omega))
    refine ⟨μ', ?_, z1, fun x k => by rw [z2, hν]; rfl, fun x k => by rw [z3, hν]; rfl, fun x k h1 => by rw [z4 x k h1, S x k h1]⟩
    rw [← e']
    show m_X7_fair_b83 SH (m_X7_fair_h83 SH 414 F) 414 (nI b) μ = _
    have u1 : (nI (pP D) ≤ nI b) = False := eq_false (nle_nI (by omega) (by omega))
    have x1 : ix SH 8 418 (nI b) = true := ix_of (n := 5) rfl (by omega) (by decide)
    have x2 : ix SH 8 421 (nI b) = true := ix_of (n := 5) rfl (by omega) (by decide)
    have p1 : (nI b).toNatClampNeg = b := nI_clamp (by omega)
    simp only [bd_n, gd_n, ca2_n, ca_n, nbtF, pbfT, Bool.not_true, Bool.not_false, if_true, if_false, m_X7_fair_b83, iz7, e5, u1, h0.bl, h0.r3.2.2, x1, x2, p1, h7 b (by omega), ← hν, show nI b + 1 = nI (b + 1) from nI_add _ 1]

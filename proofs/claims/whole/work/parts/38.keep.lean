/-! keep, again -/
def wK (σ : Sg) (K : Nat → Option Pg) : Sg := (sL σ, sT σ, sP σ, sN σ, sA σ, K)
def stK (K : Nat → Option Pg) (s : Nat) (g : Pg) : Nat → Option Pg := fun t => if t = s then some g else K t
theorem slot2 (v : Int32) : (∃ s, s < 2 ∧ v = nI s ∧ (v < 0) = False ∧ (v < 2) = True ∧ inL v.toInt64 0 1 = true) ∨ (((v < 0) = True ∨ (v < 0) = False ∧ (v < 2) = False) ∧ inL v.toInt64 0 1 = false) := by
  have e : inL v.toInt64 0 1 = isIn v 2 := inL_of (by decide) rfl
  rw [e]
  by_cases h : isIn v 2 = true
  · obtain ⟨s, hs, rfl⟩ := isIn_t h (by decide)
    exact Or.inl ⟨s, hs, rfl, eq_false (nlt0 (by omega)), eq_true (ltL 2 hs (by decide)), h⟩
  · have h : isIn v 2 = false := by simpa using h
    refine Or.inr ⟨?_, h⟩
    by_cases h0 : v < 0
    · exact Or.inl (eq_true h0)
    · rcases isIn_f h with q | q
      · exact absurd q h0
      · exact Or.inr ⟨eq_false h0, eq_false (Int32.not_lt.mpr q)⟩
theorem InvX.toK {μ μ' : Mu} {σ : Sg} {c : Nat} {K : Nat → Option Pg} (h : InvX μ σ) (hg : Good σ c) (hs : same (fun b => b < 351) μ μ') (hR : ∀ b k, gR μ' b k = gR μ b k) (hK : KeptX μ' K) : InvX μ' (wK σ K) := by
  obtain ⟨h0, h1, h2, h3, h4, h5, h6⟩ := h
  obtain ⟨g1, g2, g3, g4, g5, g6, g7⟩ := hg
  have hpl := h0.pl
  refine ⟨h0.mono (fun b k hb => hR b k), by rw [hs.I (b := 1) (by decide)]; exact h1, fun i hi => by rw [hs.I (b := 2) (by decide)]; exact h2 i hi, ?_, ⟨h4.1.mono g4.sz.2 (hs.mono (fun b hb => by omega)), by rw [hs.J (b := 11) (by decide)]; exact h4.2⟩, ?_, hK⟩
  · rw [hR]
    exact h3.mono (hs.mono (fun b hb => by omega))
  · obtain ⟨a1, r, hr, a2, a3⟩ := h5
    refine ⟨by rw [hs.I (b := 37) (by decide)]; exact a1, r, hr, by rw [hs.I (b := 37) (by decide)]; exact a2, fun i g hi => ?_⟩
    have hm := Nat.mod_lt (r + i) (show 12 > 0 by decide)
    exact ⟨(a3 i g hi).1.mono (g6 g (List.mem_of_getElem? hi)).sz.2 (hs.mono (fun b hb => by omega)), by rw [hs.J (b := 39 + 26 * ((r + i) % 12)) (by omega)]; exact (a3 i g hi).2⟩
theorem InvM.toK {μ μ' : Mu} {σ : Sg} {K : Nat → Option Pg} (h : InvM μ σ) (hs : same (fun b => 414 ≤ b ∧ b ≠ 425 ∧ b ≠ 426 ∧ b ≠ 427) μ μ') (hK : KeptM μ' K) : InvM μ' (wK σ K) := by
  obtain ⟨⟨h0, h1⟩, h2, h3, h4, h5, h6, h7⟩ := h
  have I : ∀ b k, (414 ≤ b ∧ b ≠ 425 ∧ b ≠ 426 ∧ b ≠ 427) → gI μ' b k = gI μ b k := fun b k hb => hs.I hb k
  refine ⟨⟨h0.mono (fun k => hs.R (b := 414) (by decide) k), fun k hk => by rw [I _ _ (by decide)]; exact h1 k hk⟩, by rw [I _ _ (by decide)]; exact h2, fun i hi => by rw [I _ _ (by decide)]; exact h3 i hi, ?_, by rw [hs.J (b := 414) (by decide)]; exact h5, ?_, hK⟩
  · obtain ⟨a1, a2, a3, a4, a5⟩ := h4
    exact ⟨by rw [I _ _ (by decide)]; exact a1, by rw [I _ _ (by decide)]; exact a2, by rw [I _ _ (by decide)]; exact a3, fun b hb => by rw [I _ _ (by decide), I _ _ (by decide)]; exact a4 b hb, fun p hp => by rw [I _ _ (by decide)]; exact a5 p hp⟩
  · exact ⟨by rw [I _ _ (by decide)]; exact h6.1, fun i g hg => ⟨fun k hk => by rw [I _ _ (by decide)]; exact (h6.2 i g hg).1 k hk, by rw [hs.J (b := 424) (by decide)]; exact (h6.2 i g hg).2⟩⟩
theorem kp_ix (n k : Nat) : (205 * nI n + nI k : Int32) = nI (205 * n + k) := bk_ix n k
theorem y_keep26 {μ0 : Mu} {s : Nat} (h : Mp μ0) (hs : s < 2) : ∀ (d k F : Nat) (μ : Mu), k + d = 205 → d < F → (∀ b j, gR μ b j = gR μ0 b j) → (∀ b j, gJ μ b j = gJ μ0 b j) → (∀ b j, b ≠ 425 → gI μ b j = gI μ0 b j) → (∀ j, (j < 205 * s ∨ 205 * s + 205 ≤ j) → gI μ 425 j = gI μ0 425 j) → (∀ j, j < k → gI μ 425 (205 * s + j) = gI μ0 422 j) → ∃ μ', m_X7_keep_h26 SH 414 (nI s) F (nI k) μ = m_X7_keep_b57 SH 414 (nI s) μ' ∧ (∀ b j, gR μ' b j = gR μ0 b j) ∧ (∀ b j, gJ μ' b j = gJ μ0 b j) ∧ (∀ b j, b ≠ 425 → gI μ' b j = gI μ0 b j) ∧ (∀ j, (j < 205 * s ∨ 205 * s + 205 ≤ j) → gI μ' 425 j = gI μ0 425 j) ∧ ∀ j, j < 205 → gI μ' 425 (205 * s + j) = gI μ0 422 j := by
  intro d
  induction d with
  | zero =>
    intro k F μ hk hF c1 c2 c3 c5 c4
    obtain ⟨F, rfl⟩ : ∃ g, F = g + 1 := ⟨F - 1, by omega⟩
    have e : k = 205 := by omega
    subst e
    refine ⟨μ, ?_, c1, c2, c3, c5, c4⟩
    show m_X7_keep_b26 SH (m_X7_keep_h26 SH 414 (nI s) F) 414 (nI s) (nI 205) μ = _
    unfold m_X7_keep_b26
    rw [if_pos (by decide)]
  | succ d ih =>
    intro k F μ hk hF c1 c2 c3 c5 c4
    obtain ⟨F, rfl⟩ : ∃ g, F = g + 1 := ⟨F - 1, by omega⟩
    obtain ⟨μ', e', q⟩ := ih (k + 1) F (sI μ 425 (205 * s + k) (gI μ0 422 k)) (by omega) (by omega) c1 c2 (fun b j hb => by rw [gI_sI, if_neg hb]; exact c3 b j hb) (fun j hj => by rw [gI_sI, if_pos rfl, if_neg (by omega)]; exact c5 j hj) (fun j hj => by
      rw [gI_sI, if_pos rfl]
      by_cases hjk : j = k
      · rw [if_pos (by omega), hjk]
      · rw [if_neg (by omega)]; exact c4 j (by omega))
    refine ⟨μ', ?_, q⟩
    rw [← e']
    show m_X7_keep_b26 SH (m_X7_keep_h26 SH 414 (nI s) F) 414 (nI s) (nI k) μ = _
    have u1 : ((205 : Int32) ≤ nI k) = False := eq_false (nleL 205 (by omega) (by decide))
    have x1 : ix SH 8 425 (nI (205 * s + k)) = true := ix_of (n := 410) rfl (by omega) (by decide)
    have x2 : ix SH 8 422 (nI k) = true := ix422 (by omega)
    have p1 : (nI (205 * s + k)).toNatClampNeg = 205 * s + k := nI_clamp (by omega)
    have p2 : (nI k).toNatClampNeg = k := nI_clamp (by omega)
    simp only [bd_n, gd_n, ca2_n, ca_n, nbtF, pbfT, Bool.not_true, Bool.not_false, if_true, if_false, m_X7_keep_b26, u1, iz7, c1, h.pg, h.kp, bk_ix, x1, x2, p1, p2, c3 422 k (by decide), nI_1]
theorem op_keep (v : Int32) : OpI (m_X6_keep SH 1 v) (m_X7_keep SH 414 v) := by
  intro μ σ c iX iM g hc
  have iM' := iM.thr 0
  rcases slot2 v with ⟨s, hs, ev, a1, a2, a3⟩ | ⟨a1, a3⟩
  · subst ev
    have cs : (nI s).toNatClampNeg = s := nI_clamp (by omega)
    have g2 : Good (wK σ (stK (sK σ) s (sN σ))) c := by
      refine ⟨g.1, g.2.1, g.2.2.1, g.2.2.2.1, g.2.2.2.2.1, g.2.2.2.2.2.1, fun t q ht hq => ?_⟩
      have hq : stK (sK σ) s (sN σ) t = some q := hq
      unfold stK at hq
      by_cases e : t = s
      · rw [if_pos e] at hq
        cases hq
        exact g.2.2.2.1
      · rw [if_neg e] at hq
        exact g.2.2.2.2.2.2 t q ht hq
    refine fin_rw (σ := σ) (σ' := wK σ (stK (sK σ) s (sN σ))) (r := (sN σ).1 203) iM (g2.more (by omega)) ?_ ?_
    · have sp : Sp μ (362 + 26 * s) := by
        have := iX.1.2.2.2.2.2.2.2.2.2.2.2.2.2.2.2.2.2.2
        rcases (show s = 0 ∨ s = 1 by omega) with rfl | rfl
        · exact this.1
        · exact this.2
      have rs : gR μ 351 s = 362 + 26 * s := by
        rcases (show s = 0 ∨ s = 1 by omega) with rfl | rfl
        · exact iX.1.2.2.2.2.2.2.2.2.2.2.1
        · exact iX.1.2.2.2.2.2.2.2.2.2.2.2.1
      obtain ⟨μ1, e1, s1, j1, r1, t1⟩ := x_copyFrom sp iX.sr (by omega) g.gp.sz.1 g.gp.sz.2 g.gp.lk4
      have t2 : same (fun b => b ≠ 352 ∧ (b < 362 + 26 * s ∨ 362 + 26 * s + 26 ≤ b)) μ (sI μ1 352 s 1) := (t1.mono (fun b hb => hb.2)).trans (same_sI (by simp))
      refine ⟨sI μ1 352 s 1, ?_, iX.toK g (t2.mono (fun b hb => by omega)) (fun b k => r1 b k) (fun t ht => ?_), t2.mono (fun b hb => by omega)⟩
      · have x1 : ix SH 12 351 (nI s) = true := ix_of (n := 2) rfl hs (by decide)
        have x2 : ix SH 10 352 (nI s) = true := ix_of (n := 2) rfl hs (by decide)
        have m1 : gI (sI μ1 352 s 1) 11 1 = (sN σ).1 203 := by rw [gI_sI, if_neg (by decide), t1.I (b := 11) (by omega)]; exact iX.sr.2.1
        simp only [bd_n, gd_n, ca2_n, ca_n, nbtF, pbfT, Bool.not_true, Bool.not_false, if_true, if_false, m_X6_keep, a1, a2, iz6, iz411, iX.1.2.2.2.2.1, iX.1.now, x1, cs, rs, sp.iz, e1, r1, iX.1.2.2.2.2.2.1, x2, gR_sI, m1, show ((1 : Int32) &&& 1) = 1 from rfl]
      · unfold stK
        by_cases e : t = s
        · rw [if_pos e, e]
          refine ⟨(fun q => by cases q), fun q hq => ?_⟩
          cases hq
          exact ⟨by rw [gI_sI, if_pos rfl, if_pos rfl], s1.mono g.gp.sz.2 (same_sI (by omega)), j1.trans iX.2.2.2.2.1.2⟩
        · rw [if_neg e]
          have i1 : gI (sI μ1 352 s 1) 352 t = gI μ 352 t := by rw [gI_sI, if_pos rfl, if_neg e, t1.I (b := 352) (by omega)]
          refine ⟨fun q => by rw [i1]; exact (iX.2.2.2.2.2.2 t ht).1 q, fun q hq => ?_⟩
          have := (iX.2.2.2.2.2.2 t ht).2 q hq
          exact ⟨by rw [i1]; exact this.1, this.2.1.mono (g.2.2.2.2.2.2 t q ht hq).sz.2 (t2.mono (fun b hb => by omega)), by rw [t2.J (b := 362 + 26 * t) (by omega)]; exact this.2.2⟩
    · intro μ iM
      have iM' := iM.thr 0
      obtain ⟨ν, hν⟩ : ∃ m, m = sI (sI μ 414 0 0) 427 s 1 := ⟨_, rfl⟩
      have mp : Mp ν := iM'.1.1.mono (fun k => by rw [hν]; rfl)
      obtain ⟨μ2, e2, c1, c2, c3, c5, c4⟩ := y_keep26 (μ0 := ν) mp hs 205 0 FU ν (by omega) (by rw [FU_eq]; omega) (fun _ _ => rfl) (fun _ _ => rfl) (fun _ _ _ => rfl) (fun _ _ => rfl) (fun j hj => absurd hj (by omega))
      have I : ∀ b k, b ≠ 425 → b ≠ 427 → gI μ2 b k = gI (sI μ 414 0 0) b k := fun b k h1 h2 => by rw [c3 b k h1, hν, gI_sI, if_neg h2]
      have J : ∀ b k, gJ μ2 b k = gJ (sI μ 414 0 0) b k := fun b k => by rw [c2, hν]; rfl
      have R : ∀ b k, gR μ2 b k = gR (sI μ 414 0 0) b k := fun b k => by rw [c1, hν]; rfl
      refine ⟨sJ μ2 426 s (sN σ).2, ?_, iM'.toK (fun b hb => ⟨fun k => by rw [gI_sJ]; exact I b k (by omega) (by omega), fun k => by rw [gJ_sJ, if_neg (by omega)]; exact J b k, fun k => by rw [gR_sJ]; exact R b k⟩) (fun t ht => ?_), fun b hb => ⟨fun k => by rw [gI_sJ, I b k (by omega) (by omega), gI_sI, if_neg (by omega)], fun k => by rw [gJ_sJ, if_neg (by omega), J]; rfl, fun k => by rw [gR_sJ, R]; rfl⟩⟩
      · rw [show nI 0 = (0 : Int32) from rfl] at e2
        have x1 : ix SH 10 427 (nI s) = true := ix_of (n := 2) rfl hs (by decide)
        have x2 : ix SH 9 426 (nI s) = true := ix_of (n := 2) rfl hs (by decide)
        have j17 : gJ μ2 414 17 = (sN σ).2 := (J _ _).trans iM'.2.2.2.2.1
        have m1 : gI (sJ μ2 426 s (sN σ).2) 422 203 = (sN σ).1 203 := by rw [gI_sJ, I _ _ (by decide) (by decide)]; exact iM'.1.2 203 (by decide)
        simp only [bd_n, gd_n, ca2_n, ca_n, nbtF, pbfT, Bool.not_true, Bool.not_false, if_true, if_false, m_X7_keep, iz7, y_in, a3, iM'.1.1.ik, x1, cs, show ((1 : Int32) &&& 1) = 1 from rfl, ← hν, e2, m_X7_keep_b57, R, iM'.1.1.ks, x2, j17, gR_sJ, iM'.1.1.pg, ixL203, c203, m1]
      · unfold stK
        have i7 : ∀ t, gI ν 427 t = if t = s then 1 else gI (sI μ 414 0 0) 427 t := fun t => by rw [hν, gI_sI, if_pos rfl]
        have n5 : ∀ k, gI ν 425 k = gI (sI μ 414 0 0) 425 k := fun k => by rw [hν, gI_sI, if_neg (by decide)]
        have n2 : ∀ k, gI ν 422 k = gI (sI μ 414 0 0) 422 k := fun k => by rw [hν, gI_sI, if_neg (by decide)]
        by_cases e : t = s
        · rw [if_pos e, e]
          refine ⟨(fun q => by cases q), fun q hq => ?_⟩
          cases hq
          exact ⟨by rw [gI_sJ, c3 _ _ (by decide), i7, if_pos rfl], fun k hk => by rw [gI_sJ, c4 k hk, n2]; exact iM'.1.2 k hk, by rw [gJ_sJ, if_pos rfl, if_pos rfl]⟩
        · rw [if_neg e]
          refine ⟨fun q => by rw [gI_sJ, c3 _ _ (by decide), i7, if_neg e]; exact (iM'.2.2.2.2.2.2 t ht).1 q, fun q hq => ?_⟩
          have := (iM'.2.2.2.2.2.2 t ht).2 q hq
          exact ⟨by rw [gI_sJ, c3 _ _ (by decide), i7, if_neg e]; exact this.1, fun k hk => by rw [gI_sJ, c5 _ (by omega), n5]; exact this.2.1 k hk, by rw [gJ_sJ, if_pos rfl, if_neg e, J]; exact this.2.2⟩
  · refine fin_ro (r := -1) iX iM g ?_ ?_
    · rcases a1 with a1 | ⟨a1, a2⟩
      · simp only [bd_n, gd_n, ca2_n, ca_n, nbtF, pbfT, Bool.not_true, Bool.not_false, if_true, if_false, m_X6_keep, a1]
      · simp only [bd_n, gd_n, ca2_n, ca_n, nbtF, pbfT, Bool.not_true, Bool.not_false, if_true, if_false, m_X6_keep, a1, a2]
    · simp only [bd_n, gd_n, ca2_n, ca_n, nbtF, pbfT, Bool.not_true, Bool.not_false, if_true, if_false, m_X7_keep, iz7, y_in, a3]
theorem y_again31 {μ0 : Mu} {s : Nat} (h : Mp μ0) (hs : s < 2) : ∀ (d k F : Nat) (μ : Mu), k + d = 205 → d < F → (∀ b j, gR μ b j = gR μ0 b j) → (∀ b j, gJ μ b j = gJ μ0 b j) → (∀ b j, b ≠ 422 → gI μ b j = gI μ0 b j) → (∀ j, j < k → gI μ 422 j = gI μ0 425 (205 * s + j)) → ∃ μ', m_X7_again_h31 SH 414 (nI s) F (nI k) μ = m_X7_again_b62 SH 414 (nI s) μ' ∧ (∀ b j, gR μ' b j = gR μ0 b j) ∧ (∀ b j, gJ μ' b j = gJ μ0 b j) ∧ (∀ b j, b ≠ 422 → gI μ' b j = gI μ0 b j) ∧ ∀ j, j < 205 → gI μ' 422 j = gI μ0 425 (205 * s + j) := by
  intro d
  induction d with
  | zero =>
    intro k F μ hk hF c1 c2 c3 c4
    obtain ⟨F, rfl⟩ : ∃ g, F = g + 1 := ⟨F - 1, by omega⟩
    have e : k = 205 := by omega
    subst e
    refine ⟨μ, ?_, c1, c2, c3, c4⟩
    show m_X7_again_b31 SH (m_X7_again_h31 SH 414 (nI s) F) 414 (nI s) (nI 205) μ = _
    unfold m_X7_again_b31
    rw [if_pos (by decide)]
  | succ d ih =>
    intro k F μ hk hF c1 c2 c3 c4
    obtain ⟨F, rfl⟩ : ∃ g, F = g + 1 := ⟨F - 1, by omega⟩
    obtain ⟨μ', e', q⟩ := ih (k + 1) F (sI μ 422 k (gI μ0 425 (205 * s + k))) (by omega) (by omega) c1 c2 (fun b j hb => by rw [gI_sI, if_neg hb]; exact c3 b j hb) (fun j hj => by
      rw [gI_sI, if_pos rfl]
      by_cases hjk : j = k
      · rw [if_pos hjk, hjk]
      · rw [if_neg hjk]; exact c4 j (by omega))
    refine ⟨μ', ?_, q⟩
    rw [← e']
    show m_X7_again_b31 SH (m_X7_again_h31 SH 414 (nI s) F) 414 (nI s) (nI k) μ = _
    have u1 : ((205 : Int32) ≤ nI k) = False := eq_false (nleL 205 (by omega) (by decide))
    have x1 : ix SH 8 425 (nI (205 * s + k)) = true := ix_of (n := 410) rfl (by omega) (by decide)
    have x2 : ix SH 8 422 (nI k) = true := ix422 (by omega)
    have p1 : (nI (205 * s + k)).toNatClampNeg = 205 * s + k := nI_clamp (by omega)
    have p2 : (nI k).toNatClampNeg = k := nI_clamp (by omega)
    simp only [bd_n, gd_n, ca2_n, ca_n, nbtF, pbfT, Bool.not_true, Bool.not_false, if_true, if_false, m_X7_again_b31, u1, iz7, c1, h.pg, h.kp, bk_ix, x1, x2, p1, p2, c3 425 (205 * s + k) (by decide), nI_1]
theorem op_again (v : Int32) : OpI (m_X6_again SH 1 v) (m_X7_again SH 414 v) := by
  intro μ σ c iX iM g hc
  have iM' := iM.thr 0
  rcases slot2 v with ⟨s, hs, ev, a1, a2, a3⟩ | ⟨a1, a3⟩
  · subst ev
    have cs : (nI s).toNatClampNeg = s := nI_clamp (by omega)
    have xk : ix SH 10 352 (nI s) = true := ix_of (n := 2) rfl hs (by decide)
    have yk : ix SH 10 427 (nI s) = true := ix_of (n := 2) rfl hs (by decide)
    cases hk : sK σ s with
    | none =>
      have k1 := (iX.2.2.2.2.2.2 s hs).1 hk
      have k2 := (iM'.2.2.2.2.2.2 s hs).1 hk
      refine fin_ro (r := -3) iX iM g ?_ ?_
      · simp only [bd_n, gd_n, ca2_n, ca_n, nbtF, pbfT, Bool.not_true, Bool.not_false, if_true, if_false, m_X6_again, a1, a2, iz6, iX.1.2.2.2.2.2.1, xk, cs, k1]
      · simp only [bd_n, gd_n, ca2_n, ca_n, nbtF, pbfT, Bool.not_true, Bool.not_false, if_true, if_false, m_X7_again, iz7, y_in, a3, iM'.1.1.ik, yk, cs, k2]
    | some q =>
      have gq := g.2.2.2.2.2.2 s q hs hk
      have g1 : Good (wA σ []) c := g.toA (by simp) (fun p hp => by cases hp)
      have g2 : Good (wN (wA σ []) q) c := g1.toN gq
      refine fin_rw (σ := σ) (σ' := wN (wA σ []) q) (r := q.1 203) iM (g2.more (by omega)) ?_ ?_
      · obtain ⟨k1, k2, k3⟩ := (iX.2.2.2.2.2.2 s hs).2 q hk
        have rs : gR μ 351 s = 362 + 26 * s := by
          rcases (show s = 0 ∨ s = 1 by omega) with rfl | rfl
          · exact iX.1.2.2.2.2.2.2.2.2.2.2.1
          · exact iX.1.2.2.2.2.2.2.2.2.2.2.2.1
        obtain ⟨μ1, e1, s1, j1, r1, t1⟩ := x_copyFrom (a := 11) iX.sr.1 k2 (by omega) gq.sz.1 gq.sz.2 gq.lk4
        have iN : InvX μ1 (wN σ q) := iX.toN g (t1.mono (fun b hb => by omega)) s1 (j1.trans k3)
        have gN : Good (wN σ q) c := g.toN gq
        obtain ⟨_, r, hr, a5, _⟩ := iN.2.2.2.2.2.1
        have t2 : same (fun b => b ≠ 37) μ1 (sI μ1 37 0 0) := same_sI (by simp)
        refine ⟨sI μ1 37 0 0, ?_, iN.toA gN (t2.mono (fun b hb => by omega)) (fun _ _ => rfl) ⟨by rw [gI_sI, if_pos rfl, if_pos rfl]; rfl, r, hr, by rw [gI_sI, if_pos rfl, if_neg (by decide)]; exact a5, fun i p hi => by have hi : ([] : List Pg)[i]? = some p := hi; rw [List.getElem?_nil] at hi; cases hi⟩, (t1.mono (fun b hb => by omega)).trans (t2.mono (fun b hb => by omega))⟩
        have x1 : ix SH 12 351 (nI s) = true := ix_of (n := 2) rfl hs (by decide)
        have m1 : gI (sI μ1 37 0 0) 11 1 = q.1 203 := by rw [gI_sI, if_neg (by decide)]; exact s1.2.1
        simp only [bd_n, gd_n, ca2_n, ca_n, nbtF, pbfT, Bool.not_true, Bool.not_false, if_true, if_false, m_X6_again, a1, a2, iz6, iz411, iz137, iX.1.2.2.2.2.2.1, xk, cs, k1, show ((1 : Int32) = 0) = False from eq_false (by decide), iX.1.now, iX.1.2.2.2.2.1, x1, rs, e1, r1, iX.1.past, m_X1_forgetAll, gR_sI, m1]
      · intro μ iM
        have iM' := iM.thr 0
        obtain ⟨k1, k2, k3⟩ := (iM'.2.2.2.2.2.2 s hs).2 q hk
        obtain ⟨μ2, e2, c1, c2, c3, c4⟩ := y_again31 (μ0 := sI μ 414 0 0) iM'.1.1 hs 205 0 FU (sI μ 414 0 0) (by omega) (by rw [FU_eq]; omega) (fun _ _ => rfl) (fun _ _ => rfl) (fun _ _ _ => rfl) (fun j hj => absurd hj (by omega))
        have iN : InvM (sJ μ2 414 17 q.2) (wN σ q) := by
          refine iM'.toN (fun b k h1 h2 => by rw [gI_sJ]; exact c3 b k h2) (fun b k => by rw [gR_sJ]; exact c1 b k) (fun b k hbk => ?_) (fun k hk => ?_) (by rw [gJ_sJ, if_pos rfl, if_pos rfl])
          · rw [gJ_sJ, c2]
            by_cases hb : b = 414
            · rw [if_pos hb, if_neg (fun e => by rcases hbk with q | q; exact q hb; exact q e)]
            · rw [if_neg hb]
          · rw [gI_sJ, c4 k hk]
            exact k2 k hk
        have t2 : same (fun b => b ≠ 414) (sJ μ2 414 17 q.2) (sI (sJ μ2 414 17 q.2) 414 20 0) := same_sI (by simp)
        refine ⟨sI (sJ μ2 414 17 q.2) 414 20 0, ?_, iN.toA (t2.mono (fun b hb => hb.2.1)) (fun _ _ => rfl) (fun k h1 h2 => by rw [gI_sI, if_pos rfl, if_neg h2]) rfl ⟨by rw [gI_sI, if_pos rfl, if_pos rfl]; rfl, fun i p hi => by have hi : ([] : List Pg)[i]? = some p := hi; rw [List.getElem?_nil] at hi; cases hi⟩, fun b hb => ⟨fun k => by rw [gI_sI, if_neg (by omega), gI_sJ, c3 _ _ (by omega), gI_sI, if_neg (by omega)], fun k => by rw [gJ_sI, gJ_sJ, if_neg (by omega), c2]; rfl, fun k => by rw [gR_sI, gR_sJ, c1]; rfl⟩⟩
        rw [show nI 0 = (0 : Int32) from rfl] at e2
        have x2 : ix SH 9 426 (nI s) = true := ix_of (n := 2) rfl hs (by decide)
        have m1 : gI (sI (sJ μ2 414 17 q.2) 414 20 0) 422 203 = q.1 203 := by rw [gI_sI, if_neg (by decide)]; exact iN.1.2 203 (by decide)
        have j1 : gJ μ2 426 s = q.2 := (c2 _ _).trans k3
        simp only [bd_n, gd_n, ca2_n, ca_n, nbtF, pbfT, Bool.not_true, Bool.not_false, if_true, if_false, m_X7_again, iz7, y_in, a3, iM'.1.1.ik, yk, cs, k1, show ((1 : Int32) = 0) = False from eq_false (by decide), e2, m_X7_again_b62, c1, iM'.1.1.ks, x2, j1, gR_sI, gR_sJ, show gR μ 414 16 = 422 from iM'.1.1.pg, show gR μ 414 22 = 426 from iM'.1.1.ks, ixL203, c203, m1]
  · refine fin_ro (r := -1) iX iM g ?_ ?_
    · rcases a1 with a1 | ⟨a1, a2⟩
      · simp only [bd_n, gd_n, ca2_n, ca_n, nbtF, pbfT, Bool.not_true, Bool.not_false, if_true, if_false, m_X6_again, a1]
      · simp only [bd_n, gd_n, ca2_n, ca_n, nbtF, pbfT, Bool.not_true, Bool.not_false, if_true, if_false, m_X6_again, a1, a2]
    · simp only [bd_n, gd_n, ca2_n, ca_n, nbtF, pbfT, Bool.not_true, Bool.not_false, if_true, if_false, m_X7_again, iz7, y_in, a3]

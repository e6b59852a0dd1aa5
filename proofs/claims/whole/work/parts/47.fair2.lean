def nwS (σ : Sg) (D : Pl) : Sg := (sL σ, sT σ, D, (begP, (sN σ).2), [], fun _ => none)
theorem x_f57 {μ : Mu} {q B P : Nat} (h7 : gR μ 1 7 = 352) (hq : gR μ 1 2 = q) (hz : iz SH 2 q = true) (hne : q ≠ 352) (e1 : gI μ q 1 = nI B) (e2 : gI μ q 2 = nI P) : m_X6_fair_h57 SH 1 FU 0 μ = some (nI (10 * B + P), sI (sI μ 352 0 0) 352 1 0) := by
  have key : ∀ F, m_X6_fair_h57 SH 1 (F + 1 + 1 + 1) 0 μ = some (nI (10 * B + P), sI (sI μ 352 0 0) 352 1 0) := by
    intro F
    have s0 : m_X6_fair_h57 SH 1 (F + 1 + 1 + 1) 0 μ = m_X6_fair_h57 SH 1 (F + 1 + 1) 1 (sI μ 352 0 0) := by
      show m_X6_fair_b57 SH (m_X6_fair_h57 SH 1 (F + 1 + 1)) 1 0 μ = _
      simp only [bd_n, gd_n, ca2_n, ca_n, nbtF, pbfT, Bool.not_true, Bool.not_false, if_true, if_false, m_X6_fair_b57, show ((2 : Int32) ≤ 0) = False from eq_false (by decide), iz6, h7, show ix SH 10 352 0 = true from rfl, show (0 : Int32) &&& 1 = 0 from rfl, c0L, show (0 : Int32) + 1 = 1 from rfl]
    have s1 : m_X6_fair_h57 SH 1 (F + 1 + 1) 1 (sI μ 352 0 0) = m_X6_fair_h57 SH 1 (F + 1) 2 (sI (sI μ 352 0 0) 352 1 0) := by
      show m_X6_fair_b57 SH (m_X6_fair_h57 SH 1 (F + 1)) 1 1 (sI μ 352 0 0) = _
      simp only [bd_n, gd_n, ca2_n, ca_n, nbtF, pbfT, Bool.not_true, Bool.not_false, if_true, if_false, m_X6_fair_b57, show ((2 : Int32) ≤ 1) = False from eq_false (by decide), iz6, gR_sI, h7, show ix SH 10 352 1 = true from rfl, show (0 : Int32) &&& 1 = 0 from rfl, show (1 : Int32).toNatClampNeg = 1 from rfl, show (1 : Int32) + 1 = 2 from rfl]
    have s2 : m_X6_fair_h57 SH 1 (F + 1) 2 (sI (sI μ 352 0 0) 352 1 0) = some (nI (10 * B + P), sI (sI μ 352 0 0) 352 1 0) := by
      show m_X6_fair_b57 SH (m_X6_fair_h57 SH 1 F) 1 2 (sI (sI μ 352 0 0) 352 1 0) = _
      have f1 : gI (sI (sI μ 352 0 0) 352 1 0) q 1 = nI B := by rw [gI_sI, if_neg hne, gI_sI, if_neg hne]; exact e1
      have f2 : gI (sI (sI μ 352 0 0) 352 1 0) q 2 = nI P := by rw [gI_sI, if_neg hne, gI_sI, if_neg hne]; exact e2
      have f3 : (10 : Int32) * nI B + nI P = nI (10 * B + P) := by rw [show (10 : Int32) = nI 10 from rfl, pk_mul, nI_add]
      simp only [bd_n, gd_n, ca2_n, ca_n, nbtF, pbfT, Bool.not_true, Bool.not_false, if_true, if_false, m_X6_fair_b57, show ((2 : Int32) ≤ 2) = True from eq_true (by decide), m_X6_fair_b75, iz6, gR_sI, hq, hz, f1, f2, f3]
    rw [s0, s1, s2]
  obtain ⟨G, hG⟩ : ∃ G, FU = G + 1 + 1 + 1 := ⟨65533, FU_eq⟩
  rw [hG]
  exact key G
theorem x_fair {μ : Mu} {σ : Sg} {c : Nat} (iX : InvX μ σ) (g : Good σ c) (hok : (rdr (tN σ) (sL σ) 0 1 D0).1 = -9) : ∃ μ', m_X6_fair SH 1 μ = some (nI (10 * pB (rdr (tN σ) (sL σ) 0 1 D0).2 + pP (rdr (tN σ) (sL σ) 0 1 D0).2), μ') ∧ InvX μ' (nwS σ (rdr (tN σ) (sL σ) 0 1 D0).2) ∧ same (fun b => 414 ≤ b) μ μ' := by
  obtain ⟨μ1, e1, k1, k2⟩ := x_rdr iX g
  have hPR := k1 hok
  rw [hok] at e1
  obtain ⟨D, hD⟩ : ∃ D, D = (rdr (tN σ) (sL σ) 0 1 D0).2 := ⟨_, rfl⟩
  rw [← hD] at hPR ⊢
  have hq := iX.1.2.1
  have i1 : InvX μ1 σ := iX.dr g k2
  obtain ⟨q, hqq⟩ : ∃ q, q = gR μ 1 3 := ⟨_, rfl⟩
  obtain ⟨p, hpp⟩ : ∃ p, p = gR μ 1 2 := ⟨_, rfl⟩
  rw [← hqq] at hPR e1 k2
  rw [← hqq, ← hpp] at hq
  have r13 : gR μ1 1 3 = q := (k2.1 _ _).trans hqq.symm
  have r12 : gR μ1 1 2 = p := (k2.1 _ _).trans hpp.symm
  obtain ⟨ν, hν⟩ : ∃ ν, ν = sR (sR μ1 1 2 q) 1 3 p := ⟨_, rfl⟩
  have vI : ∀ x k, gI ν x k = gI μ1 x k := fun x k => by rw [hν]; rfl
  have vJ : ∀ x k, gJ ν x k = gJ μ1 x k := fun x k => by rw [hν]; rfl
  have vR : ∀ x k, (x ≠ 1 ∨ (k ≠ 2 ∧ k ≠ 3)) → gR ν x k = gR μ1 x k := fun x k hx => by
    rw [hν, gR_sR]
    by_cases e : x = 1
    · rw [if_pos e, if_neg (by omega), gR_sR, if_pos e, if_neg (by omega)]
    · rw [if_neg e, gR_sR, if_neg e]
  have v12 : gR ν 1 2 = q := by rw [hν, gR_sR, if_pos rfl, if_neg (by decide), gR_sR, if_pos rfl, if_pos rfl]
  have v13 : gR ν 1 3 = p := by rw [hν, gR_sR, if_pos rfl, if_pos rfl]
  have sp : ∀ a, Sp μ1 a → Sp ν a := fun a ha => by
    have := scB_le ha.1
    exact ha.mono (fun b hb => ⟨fun k => vI b k, fun k => vJ b k, fun k => vR b k (by omega)⟩)
  have hX : Xp ν := by
    obtain ⟨k1, k2, k3, k4, k5, k6, k7, k8, k9, k10, k11, k12, k13, k14, k15, k16, k17, k18, k19, k20⟩ := i1.1
    refine ⟨by rw [vR _ _ (by decide)]; exact k1, by rw [v12, v13]; omega, by rw [vR _ _ (by decide)]; exact k3, by rw [vR _ _ (by decide)]; exact k4, by rw [vR _ _ (by decide)]; exact k5, by rw [vR _ _ (by decide)]; exact k6, by rw [vR _ _ (by decide)]; exact k7, by rw [vR _ _ (by decide)]; exact k8, by rw [vR _ _ (by decide)]; exact k9, fun i hi => by rw [vR _ _ (by omega)]; exact k10 i hi, by rw [vR _ _ (by decide)]; exact k11, by rw [vR _ _ (by decide)]; exact k12, ?_, ?_, k15.mono (fun k => vR _ _ (by omega)), k16.mono (fun k => vR _ _ (by omega)), sp _ k17, fun i hi => sp _ (k18 i hi), sp _ k19, sp _ k20⟩
    · rw [vR _ _ (by decide), vR _ _ (by decide), vR _ _ (by decide)]; exact k13
    · rw [vR _ _ (by decide), vR _ _ (by decide), vR _ _ (by decide), vR _ _ (by decide)]; exact k14
  obtain ⟨μ3, e3, s3, r3, j3, i3⟩ := x_start (μ := ν) (a := 11) (sp _ i1.sr.1)
  obtain ⟨ρ, hρ⟩ : ∃ ρ, ρ = sI (sI (sI μ3 37 0 0) 352 0 0) 352 1 0 := ⟨_, rfl⟩
  have wR : ∀ x k, gR ρ x k = gR ν x k := fun x k => by rw [hρ]; exact r3 x k
  have wJ : ∀ x k, gJ ρ x k = gJ μ1 x k := fun x k => by rw [hρ]; exact (j3 x k).trans (vJ x k)
  have wI : ∀ x k, x ≠ 37 → x ≠ 352 → gI ρ x k = gI μ3 x k := fun x k h1 h2 => by rw [hρ, gI_sI, if_neg h2, gI_sI, if_neg h2, gI_sI, if_neg h1]
  have wI2 : ∀ x k, x ≠ 37 → x ≠ 352 → (x < 11 ∨ 37 ≤ x) → gI ρ x k = gI μ1 x k := fun x k h1 h2 h3 => by rw [wI x k h1 h2, i3 x k (by omega), vI]
  refine ⟨ρ, ?_, ⟨hX.mono (fun b k _ => wR b k), ?_, fun i hi => ?_, ?_, ⟨?_, ?_⟩, ⟨?_, ?_⟩, fun s hs => ⟨fun _ => ?_, fun g e => by cases e⟩⟩, ?_⟩
  · have n9' : ((-9 : Int32) = -9) = True := eq_true rfl
    have v4 : gR ν 1 4 = 11 := (vR _ _ (by decide)).trans i1.1.now
    have v5 : gR μ3 1 5 = 37 := (r3 _ _).trans ((vR _ _ (by decide)).trans i1.1.past)
    have v7 : gR (sI μ3 37 0 0) 1 7 = 352 := (r3 _ _).trans ((vR _ _ (by decide)).trans i1.1.2.2.2.2.2.1)
    have v2 : gR (sI μ3 37 0 0) 1 2 = q := (r3 _ _).trans v12
    have h57 := x_f57 (μ := sI μ3 37 0 0) (B := pB D) (P := pP D) v7 v2 hPR.1.iz (by omega) (by rw [gI_sI, if_neg (by omega), i3 _ _ (by omega), vI]; exact hPR.2.2.1) (by rw [gI_sI, if_neg (by omega), i3 _ _ (by omega), vI]; exact hPR.2.2.2.1)
    have zq : iz SH 2 q = true := hPR.1.iz
    simp only [bd_n, gd_n, ca2_n, ca_n, nbtF, pbfT, Bool.not_true, Bool.not_false, if_true, if_false, m_X6_fair, iz6, ← hqq, iX.1.1, zq, iX.2.1, e1, r12, r13, ← hν, v4, iz411, e3, v5, iz137, m_X1_forgetAll, h57, ← hρ]
  · rw [wI2 _ _ (by decide) (by decide) (by decide)]; exact i1.2.1
  · rw [wI2 _ _ (by decide) (by decide) (by decide)]; exact i1.2.2.1 i hi
  · rw [wR, v12]
    exact hPR.mono (fun b hb => ⟨fun k => wI2 b k (by omega) (by omega) (by omega), fun k => wJ b k, fun k => (wR b k).trans (vR b k (by omega))⟩)
  · refine s3.mono (by show (0 : Nat) ≤ 8; omega) (fun b hb => ⟨fun k => wI b k (by omega) (by omega), fun k => by rw [hρ]; rfl, fun k => by rw [hρ]; rfl⟩)
  · rw [wJ]; exact i1.2.2.2.2.1.2
  · rw [hρ, gI_sI, if_neg (by decide), gI_sI, if_neg (by decide), gI_sI, if_pos rfl, if_pos rfl]; rfl
  · obtain ⟨_, r, hr, a5, _⟩ := i1.2.2.2.2.2.1
    refine ⟨r, hr, ?_, fun i p hi => by have hi : ([] : List Pg)[i]? = some p := hi; rw [List.getElem?_nil] at hi; cases hi⟩
    rw [hρ, gI_sI, if_neg (by decide), gI_sI, if_neg (by decide), gI_sI, if_pos rfl, if_neg (by decide), i3 _ _ (by decide), vI]
    exact a5
  · rw [hρ]
    rcases (show s = 0 ∨ s = 1 by omega) with rfl | rfl
    · rw [gI_sI, if_pos rfl, if_neg (by decide), gI_sI, if_pos rfl, if_pos rfl]
    · rw [gI_sI, if_pos rfl, if_pos rfl]
  · intro b hb
    refine ⟨fun k => ?_, fun k => ?_, fun k => ?_⟩
    · rw [wI2 b k (by omega) (by omega) (by omega)]; exact k2.2.2 b k (by omega)
    · rw [wJ]; exact k2.2.1 b k
    · rw [wR, vR b k (by omega)]; exact k2.1 b k
theorem y_fair {μ : Mu} {σ : Sg} {c : Nat} (iM : InvM μ σ) (g : Good σ c) (hok : (rdr (tN σ) (sL σ) 0 1 D0).1 = -9) : ∃ μ', m_X7_fair SH 414 μ = some (nI (10 * pB (rdr (tN σ) (sL σ) 0 1 D0).2 + pP (rdr (tN σ) (sL σ) 0 1 D0).2), μ') ∧ InvM μ' (nwS σ (rdr (tN σ) (sL σ) 0 1 D0).2) ∧ same (fun b => b < 414) μ μ' := by
  have iM' := iM.thr 0
  have hPV := rdr_V (t := tN σ) (sL σ) 0 1 D0 (by have := g.1; omega) D0_V hok
  obtain ⟨μ1, j, e1, k1, k2⟩ := y_rdr iM' g
  have hMD := k1 hok
  rw [hok] at e1
  obtain ⟨D, hD⟩ : ∃ D, D = (rdr (tN σ) (sL σ) 0 1 D0).2 := ⟨_, rfl⟩
  rw [← hD] at hMD hPV ⊢
  obtain ⟨h0, h1, h2, h3, h4, h5, h6, h7, h8⟩ := id hMD
  obtain ⟨ν, hν⟩ : ∃ ν, ν = sI (sI (sI μ1 414 4 (nI (pW D))) 414 5 (nI (pB D))) 414 6 (nI (pP D)) := ⟨_, rfl⟩
  have vA : ∀ k, k ≠ 4 → k ≠ 5 → k ≠ 6 → gI ν 414 k = gI μ1 414 k := fun k a b c => by rw [hν, gI_sI, if_pos rfl, if_neg c, gI_sI, if_pos rfl, if_neg b, gI_sI, if_pos rfl, if_neg a]
  have vB : ∀ x k, x ≠ 414 → gI ν x k = gI μ1 x k := fun x k a => by rw [hν, gI_sI, if_neg a, gI_sI, if_neg a, gI_sI, if_neg a]
  have hmν : MD ν (tN σ) (sL σ) j D := ⟨h0.mono (fun k => by rw [hν]; rfl), by rw [vA _ (by decide) (by decide) (by decide)]; exact h1, by rw [vA _ (by decide) (by decide) (by decide)]; exact h2, by rw [vA _ (by decide) (by decide) (by decide)]; exact h3, by rw [vA _ (by decide) (by decide) (by decide)]; exact h4, by rw [vA _ (by decide) (by decide) (by decide)]; exact h5, fun q hq => by rw [vB _ _ (by decide), vB _ _ (by decide)]; exact h6 q hq, fun q hq => by rw [vB _ _ (by decide)]; exact h7 q hq, fun q hq => by rw [vB _ _ (by decide)]; exact h8 q hq⟩
  have g4 : gI ν 414 4 = nI (pW D) := by rw [hν, gI_sI, if_pos rfl, if_neg (by decide), gI_sI, if_pos rfl, if_neg (by decide), gI_sI, if_pos rfl, if_pos rfl]
  have g5 : gI ν 414 5 = nI (pB D) := by rw [hν, gI_sI, if_pos rfl, if_neg (by decide), gI_sI, if_pos rfl, if_pos rfl]
  have g6 : gI ν 414 6 = nI (pP D) := by rw [hν, gI_sI, if_pos rfl, if_pos rfl]
  obtain ⟨μ2, e2, a1, a2, a3, a4⟩ := y_f43 hPV.2.1 (pB D) 0 FU ν (by omega) (by rw [FU_eq]; have := hPV.2.1; omega) hmν g5 (fun q hq => absurd hq (by omega))
  have hm2 : MD μ2 (tN σ) (sL σ) j D := by
    obtain ⟨h0, h1, h2, h3, h4, h5, h6, h7, h8⟩ := hmν
    exact ⟨h0.mono (fun k => a2 _ k), by rw [a4 _ _ (by decide) (by decide)]; exact h1, by rw [a4 _ _ (by decide) (by decide)]; exact h2, by rw [a4 _ _ (by decide) (by decide)]; exact h3, by rw [a4 _ _ (by decide) (by decide)]; exact h4, by rw [a4 _ _ (by decide) (by decide)]; exact h5, fun q hq => by rw [a4 _ _ (by decide) (by decide), a4 _ _ (by decide) (by decide)]; exact h6 q hq, fun q hq => by rw [a4 _ _ (by decide) (by decide)]; exact h7 q hq, fun q hq => by rw [a4 _ _ (by decide) (by decide)]; exact h8 q hq⟩
  obtain ⟨μ3, e3, b1, b2, b3, b4⟩ := y_f83 hPV.2.2.1 (pP D) 0 FU μ2 (by omega) (by rw [FU_eq]; have := hPV.2.2.1; omega) hm2 (by rw [a4 _ _ (by decide) (by decide)]; exact g6) (fun q hq => absurd hq (by omega))
  obtain ⟨μ4, e4, c1, c2, c3, c4, c5, c6, c7, c8⟩ := y_begin (μ := μ3) (hm2.1.mono (fun k => b2 _ k))
  rw [show nI 0 = (0 : Int32) from rfl] at e2 e3
  have R : ∀ x k, gR μ4 x k = gR μ1 x k := fun x k => by rw [c5, b2, a2, hν]; rfl
  have J : ∀ x k, gJ μ4 x k = gJ μ1 x k := fun x k => by rw [c6, b3, a3, hν]; rfl
  have A : ∀ k, k ≠ 20 → gI μ4 414 k = gI ν 414 k := fun k hk => by rw [c8 k hk, b4 _ _ (by decide), a4 _ _ (by decide) (by decide)]
  have I : ∀ x k, x ≠ 414 → x ≠ 416 → x ≠ 417 → x ≠ 418 → x ≠ 422 → x ≠ 427 → gI μ4 x k = gI μ1 x k := fun x k y1 y2 y3 y4 y5 y6 => by rw [c7 x k y1 y5 y6, b4 _ _ y4, a4 _ _ y2 y3, vB _ _ y1]
  have k2I := k2.2.2.1
  refine ⟨μ4, ?_, ⟨⟨iM'.1.1.mono (fun k => (R _ k).trans (k2.1 _ k)), fun k hk => c1 k hk⟩, ?_, fun i hi => ?_, ⟨?_, ?_, ?_, fun b hb => ⟨?_, ?_⟩, fun p hp => ?_⟩, ?_, ⟨?_, fun i p hi => by have hi : ([] : List Pg)[i]? = some p := hi; rw [List.getElem?_nil] at hi; cases hi⟩, fun s hs => ⟨fun _ => ?_, fun g e => by cases e⟩⟩, ?_⟩
  · have f5 : gI μ4 414 5 = nI (pB D) := (A _ (by decide)).trans g5
    have f6 : gI μ4 414 6 = nI (pP D) := (A _ (by decide)).trans g6
    have f3 : (10 : Int32) * nI (pB D) + nI (pP D) = nI (10 * pB D + pP D) := by rw [show (10 : Int32) = nI 10 from rfl, pk_mul, nI_add]
    have w11 : gI (sI μ1 414 4 (nI (pW D))) 414 11 = nI (pB D) := by rw [gI_sI, if_pos rfl, if_neg (by decide)]; exact h4
    have w12 : gI (sI (sI μ1 414 4 (nI (pW D))) 414 5 (nI (pB D))) 414 12 = nI (pP D) := by rw [gI_sI, if_pos rfl, if_neg (by decide), gI_sI, if_pos rfl, if_neg (by decide)]; exact h5
    simp only [bd_n, gd_n, ca2_n, ca_n, nbtF, pbfT, Bool.not_true, Bool.not_false, if_true, if_false, m_X7_fair, iz7, e1, h3, w11, w12, ← hν, e2, m_X7_fair_b81, e3, m_X7_fair_b109, e4, f5, f6, f3]
  · rw [A _ (by decide), vA _ (by decide) (by decide) (by decide)]; exact h1
  · rw [I _ _ (by decide) (by decide) (by decide) (by decide) (by decide) (by decide), k2I _ _ (by decide) (by decide) (by decide) (by decide)]; exact iM'.2.2.1 i hi
  · rw [A _ (by decide)]; exact g4
  · rw [A _ (by decide)]; exact g5
  · rw [A _ (by decide)]; exact g6
  · rw [c7 _ _ (by decide) (by decide) (by decide), b4 _ _ (by decide)]; exact (a1 b hb).1
  · rw [c7 _ _ (by decide) (by decide) (by decide), b4 _ _ (by decide)]; exact (a1 b hb).2
  · rw [c7 _ _ (by decide) (by decide) (by decide)]; exact b1 p hp
  · rw [J, k2.2.1]; exact iM'.2.2.2.2.1
  · exact c2
  · rcases (show s = 0 ∨ s = 1 by omega) with rfl | rfl
    · exact c3
    · exact c4
  · intro b hb
    refine ⟨fun k => ?_, fun k => ?_, fun k => ?_⟩
    · rw [I _ _ (by omega) (by omega) (by omega) (by omega) (by omega) (by omega), k2I _ _ (by omega) (by omega) (by omega) (by omega), gI_sI, if_neg (by omega)]
    · rw [J, k2.2.1]; rfl
    · rw [R, k2.1]; rfl
theorem op_fair : OpI (m_X6_fair SH 1) (m_X7_fair SH 414) := by
  intro μ σ c iX iM g hc
  by_cases hok : (rdr (tN σ) (sL σ) 0 1 D0).1 = -9
  · have hPV := rdr_V (t := tN σ) (sL σ) 0 1 D0 (by have := g.1; omega) D0_V hok
    have g2 : Good (nwS σ (rdr (tN σ) (sL σ) 0 1 D0).2) (c + 1) := ⟨g.1, g.2.1, hPV, GP.beg _ _, Nat.zero_le _, (fun q hq => by cases hq), (fun s q hs hq => by cases hq)⟩
    exact fin_rw (σ := σ) iM g2 (x_fair iX g hok) (fun μ iM => y_fair iM g hok)
  · refine fin_rw (σ := σ) (σ' := σ) (r := -3) iM (g.more (by omega)) ?_ ?_
    · obtain ⟨μ1, e1, _, k1⟩ := x_rdr iX g
      have hq := iX.1.2.1
      refine ⟨μ1, ?_, iX.dr g k1, k1.same.mono (fun b hb => by omega)⟩
      simp only [bd_n, gd_n, ca2_n, ca_n, nbtF, pbfT, Bool.not_true, Bool.not_false, if_true, if_false, m_X6_fair, iz6, iX.1.1, iX.1.dr.iz, iX.2.1, e1, hok]
    · intro μ iM
      have iM' := iM.thr 0
      obtain ⟨μ1, j, e1, _, k1⟩ := y_rdr iM' g
      refine ⟨μ1, ?_, iM'.rd k1, thr_same.trans k1.same⟩
      simp only [bd_n, gd_n, ca2_n, ca_n, nbtF, pbfT, Bool.not_true, Bool.not_false, if_true, if_false, m_X7_fair, iz7, e1, hok]

theorem SR.dj {μ μ' : Mu} {a : Nat} {f : Nat → Int32} (h : SR μ a f) (hz : szF f ≤ 8) (hl : ∀ q, q < 2 → lkF f q ≤ 4) (c1 : ∀ x k, gI μ' x k = gI μ x k) (c2 : ∀ x k, gR μ' x k = gR μ x k) (c3 : ∀ x k, x ≠ a → gJ μ' x k = gJ μ x k) : SR μ' a f := by
  obtain ⟨k0, k1, k2, k3, k4, k5, k6, k7⟩ := id h
  exact h.head hz hl c2 (fun x hx => ⟨fun k => c1 x k, fun k => c3 x k (by omega), fun k => c2 x k⟩) ((c1 _ _).trans k1) ((c1 _ _).trans k2) ((c1 _ _).trans k3) ((c1 _ _).trans k4) (fun p hp => ⟨(c1 _ _).trans (k5 p hp).1, (c1 _ _).trans (k5 p hp).2.1, (c1 _ _).trans (k5 p hp).2.2⟩) (fun k _ _ => rfl)
theorem x_hatf {μ : Mu} {q b t : Nat} {f : Nat → Int32} (h : SR μ 11 f) (h15 : f 15 = -9 ∨ ∃ p, p < 5 ∧ f 15 = nI p) : m_X4_flash_b67 SH 11 q (nI b) t (nI (inS f b)) μ = m_X4_flash_b95 SH 11 q (nI b) t (nI (inS f b)) (hv f b) (nI (inS f b)) (f 203) t μ := by
  have hin := inS_lt f b
  unfold hv
  rcases h15 with e | ⟨p, hp, e⟩
  · have hh : m_X6_has SH (nI (inS f b)) (-9) μ = some (0, μ) := x_has0 (by decide)
    have e3 : gI μ 11 3 = -9 := h.2.2.2.1.trans e
    simp only [bd_n, gd_n, ca2_n, ca_n, nbtF, pbfT, Bool.not_true, Bool.not_false, if_true, if_false, m_X4_flash_b67, iz411, e3, hh, h.2.1]
    rw [if_pos e]
  · have hh := xs_has (s := inS f b) (p := p) (μ := μ) (by omega) hp
    rw [inS_bit hp] at hh
    have e3 : gI μ 11 3 = nI p := h.2.2.2.1.trans e
    rw [e, if_neg (n9 (by omega)), nI_clamp (by omega)]
    by_cases c : f p = nI b
    · rw [decide_eq_true c] at hh
      simp only [bd_n, gd_n, ca2_n, ca_n, nbtF, pbfT, Bool.not_true, Bool.not_false, if_true, if_false, m_X4_flash_b67, iz411, e3, hh, h.2.1]
      rw [if_pos c]
    · rw [decide_eq_false c] at hh
      simp only [bd_n, gd_n, ca2_n, ca_n, nbtF, pbfT, Bool.not_true, Bool.not_false, if_true, if_false, m_X4_flash_b67, iz411, e3, hh, h.2.1]
      rw [if_neg c]
def fshM (P : Pl) (f : Nat → Int32) (s : Int64) (b m : Nat) : (Nat → Int32) × Int64 × Nat := if isFl P b m = true then fsh P f s b else (f, s, 0)
theorem x_flash95 {μ : Mu} {q b m : Nat} {P : Pl} {f : Nat → Int32} {s : Int64} (h : SR μ 11 f) (hs : gJ μ 11 0 = s) (hP : PR μ q P) (hv' : PV P) (hb : b < pB P) (hQ : GQ P m b f) (hlk : ∀ q, q < 2 → lkF f q ≤ 3) (hn : szF f < 8) : ∃ μ', m_X4_flash_b95 SH 11 q (nI b) (33 + 2 * b) (nI (inS f b)) (hv f b) (nI (inS f b)) (f 203) (33 + 2 * b) μ = some (nI (if lkF f b = 3 then 1 else 0), μ') ∧ SR μ' 11 (if lkF f b = 3 then flF (tkF f b (lkF f b) (drw P f b s 5).2) b (szF f) else tkF f b (lkF f b) (drw P f b s 5).2) ∧ gJ μ' 11 0 = (drw P f b s 5).1 ∧ same (fun x => x < 11 ∨ 37 ≤ x) μ μ' := by
  have hB := hv'.2.1
  have hl4 : ∀ q, q < 2 → lkF f q ≤ 4 := fun q hq => by have := hlk q hq; omega
  obtain ⟨k, hk⟩ : ∃ k, k = lkF f b := ⟨_, rfl⟩
  have hk3 := hlk b (by omega)
  rw [← hk] at hk3 ⊢
  obtain ⟨n, hnn⟩ : ∃ n, n = szF f := ⟨_, rfl⟩
  rw [← hnn] at hn ⊢
  obtain ⟨μ1, e1, c1, c2, c3, c4⟩ := x_draw (μ0 := μ) (a := 11) (b := b) (f := f) (s := s) hP hv' iz411 (fun p hp e => by
    rcases hQ.2.2.2.2.2.2.2.1 p hp with q | q
    · rw [q] at e; exact absurd e.symm (n9 (by omega))
    · exact q.1) 5 0 FU μ (by omega) (by rw [FU_eq]; omega) (fun _ _ => rfl) (fun _ _ => rfl) (fun _ _ _ => rfl) hs
  obtain ⟨v, hvv⟩ : ∃ v, v = (drw P f b s 5).2 := ⟨_, rfl⟩
  rw [← hvv] at e1 ⊢
  have e1 : m_X4_drawBlinks SH 11 q (nI (inS f b)) μ = some (v, μ1) := e1
  have sr1 : SR μ1 11 f := h.dj (by omega) hl4 c1 c2 c3
  have tp1 : Tp μ1 (33 + 2 * b) := sr1.1.tpb (b := b) (by omega)
  have lk1 : gI μ1 (33 + 2 * b) 1 = nI k := ((sr1.2.2.2.2.2.2.2 b (by omega)).2.1).trans (by rw [hk]; exact (hQ.lk (by omega)).1)
  have e2 := x_take (v1 := f 203) (v2 := nI (inS f b)) (v3 := hv f b) (v4 := v) tp1 lk1 hk3
  have sr2 : SR (tkM μ1 (33 + 2 * b) k (f 203) (nI (inS f b)) (hv f b) v) 11 (tkF f b k v) := SR.tk (a := 11) sr1 (by omega) hl4 (by omega) hk.symm hk3
  obtain ⟨μ2, hμ2⟩ : ∃ m, m = tkM μ1 (33 + 2 * b) k (f 203) (nI (inS f b)) (hv f b) v := ⟨_, rfl⟩
  rw [← hμ2] at e2 sr2
  have S2 : same (fun x => x ≠ 33 + 2 * b ∧ x ≠ 33 + 2 * b + 1) μ1 μ2 := by
    rw [hμ2]
    exact ((((same_sI (by simp)).trans (same_sI (by simp))).trans (same_sI (by simp))).trans (same_sI (by simp))).trans (same_sI (by simp))
  have J2 : ∀ x k, gJ μ2 x k = gJ μ1 x k := fun x k => by rw [hμ2]; rfl
  have R2 : ∀ x k, gR μ2 x k = gR μ x k := fun x k => by rw [hμ2]; exact c2 x k
  have l2 : gI μ2 (33 + 2 * b) 1 = nI (k + 1) := by rw [hμ2]; unfold tkM; rw [gI_sI, if_pos rfl, if_pos rfl]
  have S02 : same (fun x => x < 11 ∨ 37 ≤ x) μ μ2 := fun x hx => ⟨fun j => by rw [S2.I (by omega), c1], fun j => by rw [J2, c3 _ _ (by omega)], fun j => R2 x j⟩
  have tz : iz SH 5 (33 + 2 * b) = true := tp1.iz
  by_cases hk4 : k = 3
  · rw [if_pos hk4, if_pos hk4]
    have n8 : gI μ2 11 4 = nI n := by
      rw [S2.I (by omega), c1, h.2.2.2.2.1, hnn]; exact hQ.sz.1
    have tpn : Tp μ2 (gR μ2 12 n) := sr2.1.tpi (i := n) (by omega)
    have tpb : Tp μ2 (33 + 2 * b) := sr2.1.tpb (b := b) (by omega)
    obtain ⟨j0, hj0, ej0⟩ := sr2.1.st (i := n) (by omega)
    have ej0 : gR μ2 12 n = 11 + 6 + 2 * j0 := ej0
    obtain ⟨μ3, e3, r3, j3, s3, d1, d2⟩ := x_scopy tpn tpb (by omega) (by omega) (by omega)
    have ez2 : szF (tkF f b k v) = n := by unfold szF; rw [tkF_n (by omega) (by omega), hnn]; rfl
    have el2 : ∀ q, q < 2 → lkF (tkF f b k v) q ≤ 4 := fun q hq => by
      by_cases e : q = b
      · subst e; unfold lkF; rw [tkF_at, nI_clamp (by omega)]; omega
      · unfold lkF; rw [tkF_n (by omega) (by omega)]; exact hl4 q hq
    have elb : lkF (tkF f b k v) b = 4 := by unfold lkF; rw [tkF_at, nI_clamp (by omega)]; omega
    have sr3 : SR (flM μ3 11 (33 + 2 * b) b n) 11 (flF (tkF f b k v) b n) := SR.fl (a := 11) sr2 ez2 hn el2 (by omega) elb r3 s3 d1 d2
    have n3 : gI μ3 11 4 = nI n := by rw [s3.I (by omega)]; exact n8
    refine ⟨flM μ3 11 (33 + 2 * b) b n, ?_, sr3, ?_, ?_⟩
    · have u4 : ((4 : Int32) ≤ nI (k + 1)) = True := eq_true (leL 4 (by omega) (by omega))
      have x1 : ix SH 11 12 (nI n) = true := sr2.1.ix1 (by omega)
      have p1 : (nI n).toNatClampNeg = n := nI_clamp (by omega)
      simp only [bd_n, gd_n, ca2_n, ca_n, nbtF, pbfT, Bool.not_true, Bool.not_false, if_true, if_false, m_X4_flash_b95, iz411, e1, tz, e2, l2, u4, show gR μ2 11 5 = 12 from sr2.1.2.1, n8, x1, p1, tpn.iz, e3, n3, show nI n + 1 = nI (n + 1) from nI_add _ 1, m_X5_begin]
      rfl
    · show gJ μ3 11 0 = _
      rw [j3, J2, c4]
    · refine S02.trans ((s3.mono (fun x hx => by omega)).trans ?_)
      exact ((((same_sI (by omega)).trans (same_sI (by omega))).trans (same_sI (by omega))).trans (same_sI (by omega))).trans (same_sI (by omega))
  · rw [if_neg hk4, if_neg hk4]
    refine ⟨μ2, ?_, sr2, ?_, S02⟩
    · have u4 : ((4 : Int32) ≤ nI (k + 1)) = False := eq_false (nleL 4 (by omega) (by decide))
      simp only [bd_n, gd_n, ca2_n, ca_n, nbtF, pbfT, Bool.not_true, Bool.not_false, if_true, if_false, m_X4_flash_b95, iz411, e1, tz, e2, l2, u4]
      rfl
    · rw [J2, c4]
theorem x_flash {μ : Mu} {q b m : Nat} {P : Pl} {f : Nat → Int32} {s : Int64} (h : SR μ 11 f) (hs : gJ μ 11 0 = s) (hP : PR μ q P) (hv' : PV P) (hb : b < pB P) (hQ : GQ P m b f) (hlk : ∀ q, q < 2 → lkF f q ≤ 3) (hm : m < 1000) : ∃ μ', m_X4_flash SH 11 q (nI b) μ = some (nI (fshM P f s b m).2.2, μ') ∧ SR μ' 11 (fshM P f s b m).1 ∧ gJ μ' 11 0 = (fshM P f s b m).2.1 ∧ same (fun x => x < 11 ∨ 37 ≤ x) μ μ' := by
  have hB := hv'.2.1
  have hsz := hQ.sz
  have n8 : gI μ 11 4 = nI (szF f) := h.2.2.2.2.1.trans hsz.1
  have ub0 : (nI b < 0) = False := eq_false (nlt0 (by omega))
  have ub2 : ((2 : Int32) ≤ nI b) = False := eq_false (nleL 2 (by omega) (by decide))
  have un0 : (nI (szF f) < 0) = False := eq_false (nlt0 (by omega))
  unfold fshM fsh
  by_cases h8 : szF f = 8
  · have un8 : (nI (szF f) < 8) = False := eq_false (by rw [h8]; decide)
    rw [if_pos (Or.inl h8), ite_self]
    refine ⟨μ, ?_, h, hs, same.rf⟩
    simp only [bd_n, gd_n, ca2_n, ca_n, nbtF, pbfT, Bool.not_true, Bool.not_false, if_true, if_false, m_X4_flash, ub0, ub2, iz411, n8, un0, un8]
    rfl
  · have un8 : (nI (szF f) < 8) = True := eq_true (ltL 8 (by omega) (by decide))
    have x1 : ix SH 11 13 (nI b) = true := h.1.ix2 (by omega)
    have p1 : (nI b).toNatClampNeg = b := nI_clamp (by omega)
    have r1 : gR μ 13 b = 33 + 2 * b := h.1.2.2.2.2.2.2.1 b (by omega)
    have hfl := x_flashesAt hP hv' hb (show m < 1100 by omega)
    have m1 : gI μ 11 1 = nI m := h.2.1.trans hQ.2.1
    cases hF : isFl P b m with
    | false =>
      rw [if_neg (by decide)]
      rw [hF] at hfl
      refine ⟨μ, ?_, h, hs, same.rf⟩
      simp only [bd_n, gd_n, ca2_n, ca_n, nbtF, pbfT, Bool.not_true, Bool.not_false, if_true, if_false, m_X4_flash, ub0, ub2, iz411, n8, un0, un8, show gR μ 11 6 = 13 from h.1.2.2.1, x1, p1, r1, xs_in h, hP.1.iz, m1, hfl]
      rfl
    | true =>
      rw [if_pos rfl]
      rw [hF] at hfl
      have tz : iz SH 5 (33 + 2 * b) = true := (h.1.tpb (b := b) (by omega)).iz
      have lk1 : gI μ (33 + 2 * b) 1 = nI (lkF f b) := ((h.2.2.2.2.2.2.2 b (by omega)).2.1).trans (hQ.lk (by omega)).1
      have hin := inS_lt f b
      have hh := x_hatf (q := q) (b := b) (t := 33 + 2 * b) h hQ.2.2.2.2.2.2.1
      by_cases h0 : inS f b = 0 ∧ lkF f b = 0
      · rw [if_pos (Or.inr h0)]
        refine ⟨μ, ?_, h, hs, same.rf⟩
        simp only [bd_n, gd_n, ca2_n, ca_n, nbtF, pbfT, Bool.not_true, Bool.not_false, if_true, if_false, m_X4_flash, ub0, ub2, iz411, n8, un0, un8, show gR μ 11 6 = 13 from h.1.2.2.1, x1, p1, r1, xs_in h, hP.1.iz, m1, hfl, h0.1, h0.2, tz, lk1, show (nI 0 = (0 : Int32)) = True from eq_true rfl]
        rfl
      · rw [if_neg (fun q => q.elim h8 h0)]
        obtain ⟨μ', e', z1, z2, z3⟩ := x_flash95 h hs hP hv' hb hQ hlk (by omega)
        refine ⟨μ', ?_, ?_, ?_, z3⟩
        · have E : m_X4_flash SH 11 q (nI b) μ = m_X4_flash_b67 SH 11 q (nI b) (33 + 2 * b) (nI (inS f b)) μ := by
            simp only [bd_n, gd_n, ca2_n, ca_n, nbtF, pbfT, Bool.not_true, Bool.not_false, if_true, if_false, m_X4_flash, ub0, ub2, iz411, n8, un0, un8, show gR μ 11 6 = 13 from h.1.2.2.1, x1, p1, r1, xs_in h, hP.1.iz, m1, hfl, tz, lk1]
            by_cases hi0 : inS f b = 0
            · have hl0 : ¬ nI (lkF f b) = 0 := fun e => h0 ⟨hi0, (nI_eq (b := 0) (by have := hlk b (by omega); omega) (by decide)).mp e⟩
              rw [if_pos (by rw [hi0]; rfl), if_neg hl0]
            · have hi1 : ¬ nI (inS f b) = 0 := fun e => hi0 ((nI_eq (b := 0) (by omega) (by decide)).mp e)
              rw [if_neg hi1]
          rw [E, hh, e']
          by_cases c : lkF f b = 3
          · rw [if_pos c, if_pos c]
          · rw [if_neg c, if_neg c]
        · by_cases c : lkF f b = 3
          · rw [if_pos c] at z1 ⊢; exact z1
          · rw [if_neg c] at z1 ⊢; exact z1
        · by_cases c : lkF f b = 3
          · rw [if_pos c]; exact z2
          · rw [if_neg c]; exact z2

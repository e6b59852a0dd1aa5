/-! undo -/
theorem Xp.sp {μ : Mu} (h : Xp μ) {i : Nat} (hi : i < 12) : Sp μ (39 + 26 * i) := h.2.2.2.2.2.2.2.2.2.2.2.2.2.2.2.2.2.1 i hi
theorem x_undo {μ : Mu} {σ : Sg} {c : Nat} {A : List Pg} {q : Pg} (h : InvX μ σ) (g : Good σ c) (hA : sA σ = A ++ [q]) : ∃ μ', m_X6_undo SH 1 μ = some (nI A.length, μ') ∧ InvX μ' (wN (wA σ A) q) ∧ same (fun b => 414 ≤ b) μ μ' := by
  obtain ⟨a1, r, hr, a2, a3⟩ := h.2.2.2.2.2.1
  have hlen := g.2.2.2.2.1
  rw [hA] at a1 a3 hlen
  rw [List.length_append] at a1 hlen
  have hlen : A.length + 1 ≤ 12 := hlen
  have a1 : gI μ 37 0 = nI (A.length + 1) := a1
  have hq : q ∈ sA σ := by rw [hA]; exact List.mem_append_right _ (List.mem_singleton.mpr rfl)
  have gq := g.2.2.2.2.2.1 q hq
  have hm := Nat.mod_lt (r + A.length) (show 12 > 0 by decide)
  obtain ⟨k, hk⟩ : ∃ k, k = (r + A.length) % 12 := ⟨_, rfl⟩
  rw [← hk] at hm
  have hb := a3 A.length q (by rw [List.getElem?_append_right (by omega)]; simp)
  rw [← hk] at hb
  have t0 : same (fun b => b ≠ 37) μ (sI μ 37 0 (nI A.length)) := same_sI (by simp)
  have g1 : Good (wA σ A) c := g.toA (by omega) (fun p hp => g.2.2.2.2.2.1 p (by rw [hA]; exact List.mem_append_left _ hp))
  have iA : InvX (sI μ 37 0 (nI A.length)) (wA σ A) := by
    refine h.toA g (t0.mono (fun b hb => by omega)) (fun _ _ => rfl) ⟨by rw [gI_sI, if_pos rfl, if_pos rfl], r, hr, ?_, fun i p hi => ?_⟩
    · rw [gI_sI, if_pos rfl, if_neg (by decide)]; exact a2
    · have hil := (List.getElem?_eq_some_iff.mp hi).1
      have := a3 i p (by rw [List.getElem?_append_left hil]; exact hi)
      have hm2 := Nat.mod_lt (r + i) (show 12 > 0 by decide)
      exact ⟨this.1.mono (g1.2.2.2.2.2.1 p (List.mem_of_getElem? hi)).sz.2 (t0.mono (fun b hb => by omega)), this.2⟩
  obtain ⟨μ1, e1, s1, j1, r1, t1⟩ := x_copyFrom (a := 11) iA.sr.1 (hb.1.mono gq.sz.2 (t0.mono (fun b hb => by omega))) (by omega) gq.sz.1 gq.sz.2 gq.lk4
  refine ⟨μ1, ?_, iA.toN g1 (t1.mono (fun b hb => by omega)) s1 (j1.trans hb.2), (t0.mono (fun b hb => by omega)).trans (t1.mono (fun b hb => by omega))⟩
  have u1 : ((1 : Int32) ≤ nI (A.length + 1)) = True := eq_true (leL 1 (by omega) (by omega))
  have u2 : nI (A.length + 1) - 1 = nI A.length := pk_sub (a := A.length + 1) (b := 1) (by omega)
  have v1 : gI (sI μ 37 0 (nI A.length)) 37 1 = nI r := by rw [gI_sI, if_pos rfl, if_neg (by decide)]; exact a2
  have v0 : gI (sI μ 37 0 (nI A.length)) 37 0 = nI A.length := by rw [gI_sI, if_pos rfl, if_pos rfl]
  have v2 : gI μ1 37 0 = nI A.length := by rw [t1.I (b := 37) (by decide)]; exact v0
  have hfm : m_J9_floorMod_7cf53 SH (nI (r + A.length)) 12 (sI μ 37 0 (nI A.length)) = some (nI k, sI μ 37 0 (nI A.length)) := by
    rw [j_floorMod (by decide), fm_pos _ (by omega), ← hk]
  have x1 : ix SH 12 38 (nI k) = true := ix_of (sh := SH) (kd := 12) (a := 38) (i := k) (n := 12) rfl hm (by decide)
  have ck : (nI k).toNatClampNeg = k := nI_clamp (by omega)
  simp only [bd_n, gd_n, ca2_n, ca_n, nbtF, pbfT, Bool.not_true, Bool.not_false, if_true, if_false, m_X6_undo, iz6, iz137, iz411, h.1.now, h.1.past, m_X1_takeBack, a1, u1, u2, gR_sI, h.1.2.2.2.2.2.2.2.2.1, v0, v1, nI_add, hfm, x1, ck, h.1.2.2.2.2.2.2.2.2.2.1 k hm, e1, show ((1 : Int32) = 0) = False from eq_false (by decide), show gR μ1 1 5 = 37 from (r1 _ _).trans h.1.past, v2]
theorem Mp.kp {μ : Mu} (h : Mp μ) : gR μ 414 21 = 425 := h.2.2.2.2.2.2.2.2.2.2.1
theorem Mp.ks {μ : Mu} (h : Mp μ) : gR μ 414 22 = 426 := h.2.2.2.2.2.2.2.2.2.2.2.1
theorem Mp.ik {μ : Mu} (h : Mp μ) : gR μ 414 23 = 427 := h.2.2.2.2.2.2.2.2.2.2.2.2.1
theorem y_undo27 {μ0 : Mu} {n : Nat} (h : Mp μ0) (hn : n < 12) (e20 : gI μ0 414 20 = nI n) : ∀ (d k F : Nat) (μ : Mu), k + d = 205 → d < F → (∀ b j, gR μ b j = gR μ0 b j) → (∀ b j, gJ μ b j = gJ μ0 b j) → (∀ b j, b ≠ 422 → gI μ b j = gI μ0 b j) → (∀ j, j < k → gI μ 422 j = gI μ0 423 (205 * n + j)) → ∃ μ', m_X7_undo_h27 SH 414 F (nI k) μ = m_X7_undo_b61 SH 414 μ' ∧ (∀ b j, gR μ' b j = gR μ0 b j) ∧ (∀ b j, gJ μ' b j = gJ μ0 b j) ∧ (∀ b j, b ≠ 422 → gI μ' b j = gI μ0 b j) ∧ ∀ j, j < 205 → gI μ' 422 j = gI μ0 423 (205 * n + j) := by
  intro d
  induction d with
  | zero =>
    intro k F μ hk hF c1 c2 c3 c4
    obtain ⟨F, rfl⟩ : ∃ g, F = g + 1 := ⟨F - 1, by omega⟩
    have e : k = 205 := by omega
    subst e
    refine ⟨μ, ?_, c1, c2, c3, c4⟩
    show m_X7_undo_b27 SH (m_X7_undo_h27 SH 414 F) 414 (nI 205) μ = _
    unfold m_X7_undo_b27
    rw [if_pos (by decide)]
  | succ d ih =>
    intro k F μ hk hF c1 c2 c3 c4
    obtain ⟨F, rfl⟩ : ∃ g, F = g + 1 := ⟨F - 1, by omega⟩
    obtain ⟨μ', e', q⟩ := ih (k + 1) F (sI μ 422 k (gI μ0 423 (205 * n + k))) (by omega) (by omega) c1 c2 (fun b j hb => by rw [gI_sI, if_neg hb]; exact c3 b j hb) (fun j hj => by
      rw [gI_sI, if_pos rfl]
      by_cases hjk : j = k
      · rw [if_pos hjk, hjk]
      · rw [if_neg hjk]; exact c4 j (by omega))
    refine ⟨μ', ?_, q⟩
    rw [← e']
    show m_X7_undo_b27 SH (m_X7_undo_h27 SH 414 F) 414 (nI k) μ = _
    have u1 : ((205 : Int32) ≤ nI k) = False := eq_false (nleL 205 (by omega) (by decide))
    have x1 : ix SH 8 423 (nI (205 * n + k)) = true := ix_of (n := 2460) rfl (by omega) (by decide)
    have x2 : ix SH 8 422 (nI k) = true := ix422 (by omega)
    have p1 : (nI (205 * n + k)).toNatClampNeg = 205 * n + k := nI_clamp (by omega)
    have p2 : (nI k).toNatClampNeg = k := nI_clamp (by omega)
    simp only [bd_n, gd_n, ca2_n, ca_n, nbtF, pbfT, Bool.not_true, Bool.not_false, if_true, if_false, m_X7_undo_b27, u1, iz7, c1, h.pg, h.bk, c3 414 20 (by decide), e20, bk_ix, x1, x2, p1, p2, c3 423 (205 * n + k) (by decide), nI_1]
theorem y_undo {μ : Mu} {σ : Sg} {A : List Pg} {q : Pg} (h : InvM μ σ) (hl : A.length < 12) (hA : sA σ = A ++ [q]) : ∃ μ', m_X7_undo SH 414 μ = some (nI A.length, μ') ∧ InvM μ' (wN (wA σ A) q) ∧ same (fun b => b < 414) μ μ' := by
  have h' := h.thr 0
  obtain ⟨h6, h6'⟩ := h'.2.2.2.2.2.1
  rw [hA] at h6 h6'
  rw [List.length_append] at h6
  have h6 : gI (sI μ 414 0 0) 414 20 = nI (A.length + 1) := h6
  obtain ⟨μ1, hμ1⟩ : ∃ m, m = sI (sI μ 414 0 0) 414 20 (nI A.length) := ⟨_, rfl⟩
  have b0 : ∀ k, k ≠ 20 → gI μ1 414 k = gI (sI μ 414 0 0) 414 k := fun k hk => by rw [hμ1, gI_sI, if_pos rfl, if_neg hk]
  have t0 : same (fun b => b ≠ 414) (sI μ 414 0 0) μ1 := by rw [hμ1]; exact same_sI (by simp)
  have J0 : ∀ b k, gJ μ1 b k = gJ μ b k := fun b k => by rw [hμ1]; rfl
  have iA : InvM μ1 (wA σ A) := by
    refine h'.toA (t0.mono (fun b hb => hb.2.1)) (fun b k => by rw [hμ1]; rfl) (fun k h1 h2 => b0 k h2) (by rw [hμ1]; rfl) ⟨by rw [hμ1, gI_sI, if_pos rfl, if_pos rfl], fun i p hi => ?_⟩
    have hil := (List.getElem?_eq_some_iff.mp hi).1
    have := h6' i p (by rw [List.getElem?_append_left hil]; exact hi)
    exact ⟨fun k hk => by rw [t0.I (b := 423) (by decide)]; exact this.1 k hk, by rw [J0]; exact this.2⟩
  have e20 : gI μ1 414 20 = nI A.length := iA.2.2.2.2.2.1.1
  have hl' := h6' A.length q (by rw [List.getElem?_append_right (by omega)]; simp)
  obtain ⟨μ2, e2, c1, c2, c3, c4⟩ := y_undo27 (μ0 := μ1) iA.1.1 hl e20 205 0 FU μ1 (by omega) (by rw [FU_eq]; omega) (fun _ _ => rfl) (fun _ _ => rfl) (fun _ _ _ => rfl) (fun j hj => absurd hj (by omega))
  refine ⟨sJ μ2 414 17 q.2, ?_, ?_, ?_⟩
  · have u0 : (nI (A.length + 1) = 0) = False := eq_false (fun e => by have := (nI_eq (b := 0) (by omega) (by decide)).mp e; omega)
    have u2 : nI (A.length + 1) - 1 = nI A.length := pk_sub (a := A.length + 1) (b := 1) (by omega)
    rw [show nI 0 = (0 : Int32) from rfl] at e2
    have x1 : ix SH 9 424 (nI A.length) = true := ix_of (n := 12) rfl (by omega) (by decide)
    have p1 : (nI A.length).toNatClampNeg = A.length := nI_clamp (by omega)
    have g24 : gJ μ2 424 A.length = q.2 := by rw [c2, J0]; exact hl'.2
    simp only [bd_n, gd_n, ca2_n, ca_n, nbtF, pbfT, Bool.not_true, Bool.not_false, if_true, if_false, m_X7_undo, iz7, h6, u0, u2, ← hμ1, e2, m_X7_undo_b61, c1, iA.1.1.bs, c3 414 20 (by decide), e20, x1, p1, g24, gI_sJ]
  · refine iA.toN (fun b k h1 h2 => by rw [gI_sJ]; exact c3 b k h2) (fun b k => by rw [gR_sJ]; exact c1 b k) (fun b k hbk => ?_) (fun k hk => ?_) (by rw [gJ_sJ, if_pos rfl, if_pos rfl])
    · rw [gJ_sJ, c2]
      by_cases hb : b = 414
      · rw [if_pos hb, if_neg (fun e => by rcases hbk with q | q; exact q hb; exact q e)]
      · rw [if_neg hb]
    · rw [gI_sJ, c4 k hk, t0.I (b := 423) (by decide)]
      exact hl'.1 k hk
  · intro b hb
    refine ⟨fun k => ?_, fun k => ?_, fun k => ?_⟩
    · rw [gI_sJ, c3 _ _ (by omega), t0.I (b := b) (by omega), gI_sI, if_neg (by omega)]
    · rw [gJ_sJ, if_neg (by omega), c2, J0]
    · rw [gR_sJ, c1, hμ1]; rfl
theorem op_undo : OpI (m_X6_undo SH 1) (m_X7_undo SH 414) := by
  intro μ σ c iX iM g hc
  rcases List.eq_nil_or_concat (sA σ) with h | ⟨A, q, hA⟩
  · have a1 := iX.2.2.2.2.2.1.1
    have iM' := iM.thr 0
    have m1 := iM'.2.2.2.2.2.1.1
    rw [h] at a1 m1
    refine fin_ro (r := -3) iX iM g ?_ ?_
    · simp only [bd_n, gd_n, ca2_n, ca_n, nbtF, pbfT, Bool.not_true, Bool.not_false, if_true, if_false, m_X6_undo, iz6, iz137, iX.1.now, iX.1.past, m_X1_takeBack, a1, List.length_nil, show ((1 : Int32) ≤ nI 0) = False from eq_false (by decide)]
    · simp only [bd_n, gd_n, ca2_n, ca_n, nbtF, pbfT, Bool.not_true, Bool.not_false, if_true, if_false, m_X7_undo, iz7, m1, List.length_nil, show (nI 0 = (0 : Int32)) = True from eq_true rfl]
  · rw [List.concat_eq_append] at hA
    have hlen := g.2.2.2.2.1
    have hq : q ∈ sA σ := by rw [hA]; exact List.mem_append_right _ (List.mem_singleton.mpr rfl)
    have gq := g.2.2.2.2.2.1 q hq
    have hl : A.length < 12 := by rw [hA, List.length_append] at hlen; exact hlen
    have g1 : Good (wA σ A) c := g.toA (by omega) (fun p hp => g.2.2.2.2.2.1 p (by rw [hA]; exact List.mem_append_left _ hp))
    have g2 : Good (wN (wA σ A) q) c := g1.toN gq
    exact fin_rw (σ := σ) iM (g2.more (by omega)) (x_undo iX g hA) (fun μ iM => y_undo iM hl hA)

theorem bd_s {α β : Type} {a : α} {f : α → β} : bd a f = f a := rfl
/-! the reference's book -/
theorem InvM.toA {μ μ' : Mu} {σ : Sg} {A : List Pg} (h : InvM μ σ) (hs : same (fun b => 414 ≤ b ∧ b ≠ 414 ∧ b ≠ 423 ∧ b ≠ 424) μ μ') (hR : ∀ b k, gR μ' b k = gR μ b k) (hI : ∀ k, k ≠ 0 → k ≠ 20 → gI μ' 414 k = gI μ 414 k) (hJ : gJ μ' 414 17 = gJ μ 414 17) (hA : PastM μ' A) : InvM μ' (wA σ A) := by
  obtain ⟨⟨h0, h1⟩, h2, h3, h4, h5, h6, h7⟩ := h
  have I : ∀ b k, (414 ≤ b ∧ b ≠ 414 ∧ b ≠ 423 ∧ b ≠ 424) → gI μ' b k = gI μ b k := fun b k hb => hs.I hb k
  refine ⟨⟨h0.mono (fun k => hR 414 k), fun k hk => by rw [I _ _ (by decide)]; exact h1 k hk⟩, by rw [hI _ (by decide) (by decide)]; exact h2, fun i hi => by rw [I _ _ (by decide)]; exact h3 i hi, ?_, hJ.trans h5, hA, ?_⟩
  · obtain ⟨a1, a2, a3, a4, a5⟩ := h4
    exact ⟨by rw [hI _ (by decide) (by decide)]; exact a1, by rw [hI _ (by decide) (by decide)]; exact a2, by rw [hI _ (by decide) (by decide)]; exact a3, fun b hb => by rw [I _ _ (by decide), I _ _ (by decide)]; exact a4 b hb, fun p hp => by rw [I _ _ (by decide)]; exact a5 p hp⟩
  · exact fun s hs2 => ⟨fun e => by rw [I _ _ (by decide)]; exact (h7 s hs2).1 e, fun g e => ⟨by rw [I _ _ (by decide)]; exact ((h7 s hs2).2 g e).1, fun k hk => by rw [I _ _ (by decide)]; exact ((h7 s hs2).2 g e).2.1 k hk, by rw [hs.J (b := 426) (by decide)]; exact ((h7 s hs2).2 g e).2.2⟩⟩
theorem InvM.toN {μ μ' : Mu} {σ : Sg} {N : Pg} (h : InvM μ σ) (hI : ∀ b k, 414 ≤ b → b ≠ 422 → gI μ' b k = gI μ b k) (hR : ∀ b k, gR μ' b k = gR μ b k) (hJ : ∀ b k, (b ≠ 414 ∨ k ≠ 17) → gJ μ' b k = gJ μ b k) (hp : ∀ k, k < 205 → gI μ' 422 k = N.1 k) (hs : gJ μ' 414 17 = N.2) : InvM μ' (wN σ N) := by
  obtain ⟨⟨h0, h1⟩, h2, h3, h4, h5, h6, h7⟩ := h
  refine ⟨⟨h0.mono (fun k => hR 414 k), hp⟩, by rw [hI _ _ (by decide) (by decide)]; exact h2, fun i hi => by rw [hI _ _ (by decide) (by decide)]; exact h3 i hi, ?_, hs, ?_, ?_⟩
  · obtain ⟨a1, a2, a3, a4, a5⟩ := h4
    exact ⟨by rw [hI _ _ (by decide) (by decide)]; exact a1, by rw [hI _ _ (by decide) (by decide)]; exact a2, by rw [hI _ _ (by decide) (by decide)]; exact a3, fun b hb => by rw [hI _ _ (by decide) (by decide), hI _ _ (by decide) (by decide)]; exact a4 b hb, fun p hp => by rw [hI _ _ (by decide) (by decide)]; exact a5 p hp⟩
  · exact ⟨by rw [hI _ _ (by decide) (by decide)]; exact h6.1, fun i g hg => ⟨fun k hk => by rw [hI _ _ (by decide) (by decide)]; exact (h6.2 i g hg).1 k hk, by rw [hJ _ _ (Or.inl (by decide))]; exact (h6.2 i g hg).2⟩⟩
  · exact fun s hs2 => ⟨fun e => by rw [hI _ _ (by decide) (by decide)]; exact (h7 s hs2).1 e, fun g e => ⟨by rw [hI _ _ (by decide) (by decide)]; exact ((h7 s hs2).2 g e).1, fun k hk => by rw [hI _ _ (by decide) (by decide)]; exact ((h7 s hs2).2 g e).2.1 k hk, by rw [hJ _ _ (Or.inl (by decide))]; exact ((h7 s hs2).2 g e).2.2⟩⟩
theorem Mp.bk {μ : Mu} (h : Mp μ) : gR μ 414 18 = 423 := h.2.2.2.2.2.2.2.2.1
theorem Mp.bs {μ : Mu} (h : Mp μ) : gR μ 414 19 = 424 := h.2.2.2.2.2.2.2.2.2.1
theorem bk_ix (n k : Nat) : (205 * nI n + nI k : Int32) = nI (205 * n + k) := by
  rw [show (205 : Int32) = nI 205 from rfl, pk_mul, nI_add]
/-- the page is laid down behind -/
theorem y_note80 {μ0 : Mu} {n : Nat} (h : Mp μ0) (hn : n < 12) (e20 : gI μ0 414 20 = nI n) : ∀ (d k F : Nat) (μ : Mu), k + d = 205 → d < F → (∀ b j, gR μ b j = gR μ0 b j) → (∀ b j, gJ μ b j = gJ μ0 b j) → same (fun b => b ≠ 423) μ0 μ → (∀ j, j < 205 * n → gI μ 423 j = gI μ0 423 j) → (∀ j, j < k → gI μ 423 (205 * n + j) = gI μ0 422 j) → ∃ μ', m_X7_note_h80 SH 414 F (nI k) μ = m_X7_note_b114 SH 414 μ' ∧ (∀ b j, gR μ' b j = gR μ0 b j) ∧ (∀ b j, gJ μ' b j = gJ μ0 b j) ∧ same (fun b => b ≠ 423) μ0 μ' ∧ (∀ j, j < 205 * n → gI μ' 423 j = gI μ0 423 j) ∧ ∀ j, j < 205 → gI μ' 423 (205 * n + j) = gI μ0 422 j := by
  intro d
  induction d with
  | zero =>
    intro k F μ hk hF c1 c2 c3 c4 c5
    obtain ⟨F, rfl⟩ : ∃ g, F = g + 1 := ⟨F - 1, by omega⟩
    have e : k = 205 := by omega
    subst e
    refine ⟨μ, ?_, c1, c2, c3, c4, c5⟩
    show m_X7_note_b80 SH (m_X7_note_h80 SH 414 F) 414 (nI 205) μ = _
    unfold m_X7_note_b80
    rw [if_pos (by decide)]
  | succ d ih =>
    intro k F μ hk hF c1 c2 c3 c4 c5
    obtain ⟨F, rfl⟩ : ∃ g, F = g + 1 := ⟨F - 1, by omega⟩
    obtain ⟨μ', e', q⟩ := ih (k + 1) F (sI μ 423 (205 * n + k) (gI μ0 422 k)) (by omega) (by omega) c1 c2 (c3.trans (same_sI (by simp))) (fun j hj => by rw [gI_sI, if_pos rfl, if_neg (by omega)]; exact c4 j hj) (fun j hj => by
      rw [gI_sI, if_pos rfl]
      by_cases hjk : j = k
      · rw [if_pos (by omega), hjk]
      · rw [if_neg (by omega)]; exact c5 j (by omega))
    refine ⟨μ', ?_, q⟩
    rw [← e']
    show m_X7_note_b80 SH (m_X7_note_h80 SH 414 F) 414 (nI k) μ = _
    unfold m_X7_note_b80
    simp only [bd]
    rw [if_neg (nleL 205 (by omega) (by decide)), gd_of iz7, c1, c1, h.pg, h.bk, gd_of (MR.ix (by omega)), nI_clamp (by omega), c3.I (b := 414) (by decide), e20, bk_ix, gd_of (ix_of (sh := SH) (kd := 8) (a := 423) (i := 205 * n + k) (n := 2460) rfl (by omega) (by decide)), nI_clamp (by omega), c3.I (b := 422) (by decide), nI_1]
theorem y_note78 {μ : Mu} {σ : Sg} (h : InvM μ σ) (hl : (sA σ).length < 12) : ∃ μ', m_X7_note_b78 SH 414 μ = some μ' ∧ InvM μ' (wA σ (sA σ ++ [sN σ])) ∧ same (fun b => b < 414) μ μ' := by
  obtain ⟨⟨m0, m1⟩, h2, h3, h4, h5, ⟨h6, h6'⟩, h7⟩ := id h
  obtain ⟨μ1, e1, c1, c2, c3, c4, c5⟩ := y_note80 m0 hl h6 205 0 FU μ rfl (by rw [FU_eq]; omega) (fun _ _ => rfl) (fun _ _ => rfl) same.rf (fun _ _ => rfl) (fun j hj => absurd hj (by omega))
  have i20 : gI μ1 414 20 = nI (sA σ).length := by rw [c3.I (b := 414) (by decide)]; exact h6
  have t : same (fun b => b ≠ 414 ∧ b ≠ 423 ∧ b ≠ 424) μ (sI (sJ μ1 424 (sA σ).length (gJ μ1 414 17)) 414 20 (nI ((sA σ).length + 1))) := ((c3.mono (fun b hb => hb.2.1)).trans (same_sJ (by simp))).trans (same_sI (by simp))
  refine ⟨sI (sJ μ1 424 (sA σ).length (gJ μ1 414 17)) 414 20 (nI ((sA σ).length + 1)), ?_, ?_, t.mono (fun b hb => by omega)⟩
  · unfold m_X7_note_b78
    refine Eq.trans e1 ?_
    unfold m_X7_note_b114
    simp only [bd]
    rw [gd_of iz7, c1, m0.bs, i20, gd_of (ix_of (sh := SH) (kd := 9) (a := 424) (i := (sA σ).length) (n := 12) rfl hl (by decide)), nI_clamp (by omega), gI_sJ, i20, nI_1]
  · refine h.toA (t.mono (fun b hb => hb.2)) (fun b k => c1 b k) (fun k hk1 hk2 => ?_) ?_ ⟨?_, fun i g hi => ?_⟩
    · rw [gI_sI, if_pos rfl, if_neg hk2, gI_sJ, c3.I (b := 414) (by decide)]
    · rw [gJ_sI, gJ_sJ, if_neg (by decide), c2]
    · rw [gI_sI, if_pos rfl, if_pos rfl, List.length_append]; rfl
    · by_cases hi2 : i < (sA σ).length
      · rw [List.getElem?_append_left hi2] at hi
        refine ⟨fun k hk => ?_, ?_⟩
        · rw [gI_sI, if_neg (by decide), gI_sJ, c4 _ (by omega)]
          exact (h6' i g hi).1 k hk
        · rw [gJ_sI, gJ_sJ, if_pos rfl, if_neg (by omega), c2]
          exact (h6' i g hi).2
      · rw [List.getElem?_append_right (by omega)] at hi
        have h0 : i - (sA σ).length = 0 := by
          rcases Nat.eq_zero_or_pos (i - (sA σ).length) with q | q
          · exact q
          · rw [List.getElem?_eq_none (by simp; omega)] at hi; cases hi
        rw [h0] at hi
        have e : sN σ = g := by simpa using hi
        have hi3 : i = (sA σ).length := by omega
        subst e
        subst hi3
        refine ⟨fun k hk => ?_, ?_⟩
        · rw [gI_sI, if_neg (by decide), gI_sJ, c5 k hk]
          exact m1 k hk
        · rw [gJ_sI, gJ_sJ, if_pos rfl, if_pos rfl, c2]
          exact h5
/-- the book is shifted -/
theorem y_note11 {μ0 : Mu} (h : Mp μ0) : ∀ (d k F : Nat) (μ : Mu), k + d = 2255 → d < F → (∀ b j, gR μ b j = gR μ0 b j) → (∀ b j, gJ μ b j = gJ μ0 b j) → same (fun b => b ≠ 423) μ0 μ → (∀ j, k ≤ j → gI μ 423 j = gI μ0 423 j) → (∀ j, j < k → gI μ 423 j = gI μ0 423 (205 + j)) → ∃ μ', m_X7_note_h11 SH 414 F (nI k) μ = m_X7_note_b40 SH 414 μ' ∧ (∀ b j, gR μ' b j = gR μ0 b j) ∧ (∀ b j, gJ μ' b j = gJ μ0 b j) ∧ same (fun b => b ≠ 423) μ0 μ' ∧ (∀ j, j < 2255 → gI μ' 423 j = gI μ0 423 (205 + j)) := by
  intro d
  induction d with
  | zero =>
    intro k F μ hk hF c1 c2 c3 c4 c5
    obtain ⟨F, rfl⟩ : ∃ g, F = g + 1 := ⟨F - 1, by omega⟩
    have e : k = 2255 := by omega
    subst e
    refine ⟨μ, ?_, c1, c2, c3, c5⟩
    show m_X7_note_b11 SH (m_X7_note_h11 SH 414 F) 414 (nI 2255) μ = _
    unfold m_X7_note_b11
    rw [if_pos (by decide)]
  | succ d ih =>
    intro k F μ hk hF c1 c2 c3 c4 c5
    obtain ⟨F, rfl⟩ : ∃ g, F = g + 1 := ⟨F - 1, by omega⟩
    obtain ⟨μ', e', q⟩ := ih (k + 1) F (sI μ 423 k (gI μ0 423 (205 + k))) (by omega) (by omega) c1 c2 (c3.trans (same_sI (by simp))) (fun j hj => by rw [gI_sI, if_pos rfl, if_neg (by omega)]; exact c4 j (by omega)) (fun j hj => by
      rw [gI_sI, if_pos rfl]
      by_cases hjk : j = k
      · rw [if_pos hjk, hjk]
      · rw [if_neg hjk]; exact c5 j (by omega))
    refine ⟨μ', ?_, q⟩
    rw [← e']
    show m_X7_note_b11 SH (m_X7_note_h11 SH 414 F) 414 (nI k) μ = _
    unfold m_X7_note_b11
    simp only [bd]
    rw [if_neg (nleL 2255 (by omega) (by decide)), gd_of iz7, c1, h.bk, show (205 : Int32) = nI 205 from rfl, nI_add, gd_of (ix_of (sh := SH) (kd := 8) (a := 423) (i := k + 205) (n := 2460) rfl (by omega) (by decide)), gd_of (ix_of (sh := SH) (kd := 8) (a := 423) (i := k) (n := 2460) rfl (by omega) (by decide)), nI_clamp (by omega), nI_clamp (by omega), c4 _ (by omega), Nat.add_comm k 205, nI_1]
theorem y_note42 {μ0 : Mu} (h : Mp μ0) : ∀ (d k F : Nat) (μ : Mu), k + d = 11 → d < F → (∀ b j, gR μ b j = gR μ0 b j) → (∀ b j, gI μ b j = gI μ0 b j) → (∀ b j, b ≠ 424 → gJ μ b j = gJ μ0 b j) → (∀ j, k ≤ j → gJ μ 424 j = gJ μ0 424 j) → (∀ j, j < k → gJ μ 424 j = gJ μ0 424 (j + 1)) → ∃ μ', m_X7_note_h42 SH 414 F (nI k) μ = m_X7_note_b68 SH 414 μ' ∧ (∀ b j, gR μ' b j = gR μ0 b j) ∧ (∀ b j, gI μ' b j = gI μ0 b j) ∧ (∀ b j, b ≠ 424 → gJ μ' b j = gJ μ0 b j) ∧ (∀ j, j < 11 → gJ μ' 424 j = gJ μ0 424 (j + 1)) := by
  intro d
  induction d with
  | zero =>
    intro k F μ hk hF c1 c2 c3 c4 c5
    obtain ⟨F, rfl⟩ : ∃ g, F = g + 1 := ⟨F - 1, by omega⟩
    have e : k = 11 := by omega
    subst e
    refine ⟨μ, ?_, c1, c2, c3, c5⟩
    show m_X7_note_b42 SH (m_X7_note_h42 SH 414 F) 414 (nI 11) μ = _
    unfold m_X7_note_b42
    rw [if_pos (by decide)]
  | succ d ih =>
    intro k F μ hk hF c1 c2 c3 c4 c5
    obtain ⟨F, rfl⟩ : ∃ g, F = g + 1 := ⟨F - 1, by omega⟩
    obtain ⟨μ', e', q⟩ := ih (k + 1) F (sJ μ 424 k (gJ μ0 424 (k + 1))) (by omega) (by omega) c1 c2 (fun b j hb => by rw [gJ_sJ, if_neg hb]; exact c3 b j hb) (fun j hj => by rw [gJ_sJ, if_pos rfl, if_neg (by omega)]; exact c4 j (by omega)) (fun j hj => by
      rw [gJ_sJ, if_pos rfl]
      by_cases hjk : j = k
      · rw [if_pos hjk, hjk]
      · rw [if_neg hjk]; exact c5 j (by omega))
    refine ⟨μ', ?_, q⟩
    rw [← e']
    show m_X7_note_b42 SH (m_X7_note_h42 SH 414 F) 414 (nI k) μ = _
    unfold m_X7_note_b42
    simp only [bd]
    rw [if_neg (nleL 11 (by omega) (by decide)), gd_of iz7, c1, h.bs, nI_1, gd_of (ix_of (sh := SH) (kd := 9) (a := 424) (i := k + 1) (n := 12) rfl (by omega) (by decide)), gd_of (ix_of (sh := SH) (kd := 9) (a := 424) (i := k) (n := 12) rfl (by omega) (by decide)), nI_clamp (by omega), nI_clamp (by omega), c4 _ (by omega)]
theorem y_note {μ : Mu} {σ : Sg} {c : Nat} (h : InvM μ σ) (g : Good σ c) : ∃ μ', m_X7_note SH 414 μ = some μ' ∧ InvM μ' (wA σ (psh (sA σ) (sN σ))) ∧ same (fun b => b < 414) μ μ' := by
  have m0 := h.1.1
  have h6 := h.2.2.2.2.2.1.1
  have h6' := h.2.2.2.2.2.1.2
  have hlen := g.2.2.2.2.1
  unfold psh m_X7_note
  rw [gd_of iz7, h6]
  by_cases e : (sA σ).length < 12
  · rw [if_neg (fun q => by have := (nI_eq (b := 12) (by omega) (by decide)).mp q; omega), if_pos e]
    exact y_note78 h e
  · have e12 : (sA σ).length = 12 := by omega
    rw [if_neg e, if_pos (by rw [e12]; decide)]
    obtain ⟨μ1, e1, c1, c2, c3, c4⟩ := y_note11 m0 2255 0 FU μ (Nat.zero_add _) (by rw [FU_eq]; omega) (fun _ _ => rfl) (fun _ _ => rfl) same.rf (fun _ _ => rfl) (fun j hj => absurd hj (by omega))
    obtain ⟨μ2, e2, d1, d2, d3, d4⟩ := y_note42 (μ0 := μ1) (m0.mono (fun k => c1 _ k)) 11 0 FU μ1 rfl (by rw [FU_eq]; omega) (fun _ _ => rfl) (fun _ _ => rfl) (fun _ _ _ => rfl) (fun _ _ => rfl) (fun j hj => absurd hj (by omega))
    have i20 : gI μ2 414 20 = nI 12 := by rw [d2, c3.I (b := 414) (by decide), h6, e12]
    have t0 : same (fun b => b ≠ 414 ∧ b ≠ 423 ∧ b ≠ 424) μ (sI μ2 414 20 (nI 11)) := by
      intro b hb
      refine ⟨fun k => ?_, fun k => ?_, fun k => ?_⟩
      · rw [gI_sI, if_neg hb.1, d2, c3.I (b := b) hb.2.1]
      · rw [gJ_sI, d3 _ _ hb.2.2, c2]
      · rw [gR_sI, d1, c1]
    have hX : InvM (sI μ2 414 20 (nI 11)) (wA σ (sA σ).tail) := by
      refine h.toA (t0.mono (fun b hb => hb.2)) (fun b k => by rw [gR_sI, d1, c1]) (fun k hk1 hk2 => ?_) ?_ ⟨?_, fun i q hi => ?_⟩
      · rw [gI_sI, if_pos rfl, if_neg hk2, d2, c3.I (b := 414) (by decide)]
      · rw [gJ_sI, d3 _ _ (by decide), c2]
      · rw [gI_sI, if_pos rfl, if_pos rfl, List.length_tail, e12]
      · rw [List.getElem?_tail] at hi
        have := h6' (i + 1) q hi
        have hi11 : i < 11 := by
          have := (List.getElem?_eq_some_iff.mp hi).1
          omega
        refine ⟨fun k hk => ?_, ?_⟩
        · rw [gI_sI, if_neg (by decide), d2, c4 _ (by omega), show 205 + (205 * i + k) = 205 * (i + 1) + k by omega]
          exact this.1 k hk
        · rw [gJ_sI, d4 _ hi11, c2]
          exact this.2
    obtain ⟨μ', e', hX', t'⟩ := y_note78 hX (by show (sA σ).tail.length < 12; rw [List.length_tail]; omega)
    refine ⟨μ', ?_, hX', (t0.mono (fun b hb => by omega)).trans t'⟩
    have z0 : nI 0 = (0 : Int32) := rfl
    rw [z0] at e1 e2
    rw [e1]
    unfold m_X7_note_b40
    rw [e2]
    unfold m_X7_note_b68
    rw [gd_of iz7, bd_s, i20, show nI 12 - 1 = nI 11 by decide]
    exact e'

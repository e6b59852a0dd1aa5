/-! an op: class and reference answer alike, and stay together -/
def OpI (X M : Mu → Option (Int32 × Mu)) : Prop := ∀ μ σ c, InvX μ σ → InvM μ σ → Good σ c → c < 512 → ∃ r μ1 μ2 σ', X μ = some (r, μ1) ∧ M μ1 = some (r, μ2) ∧ InvX μ2 σ' ∧ InvM μ2 σ' ∧ Good σ' (c + 1)
def OpJ (X M : Mu → Option (Int64 × Mu)) : Prop := ∀ μ σ c, InvX μ σ → InvM μ σ → Good σ c → c < 512 → ∃ r μ1 μ2 σ', X μ = some (r, μ1) ∧ M μ1 = some (r, μ2) ∧ InvX μ2 σ' ∧ InvM μ2 σ' ∧ Good σ' (c + 1)
theorem Good.more {σ : Sg} {c d : Nat} (h : Good σ c) (hc : c ≤ d) : Good σ d := ⟨h.1, h.2.1, h.2.2.1, h.2.2.2.1.more hc, h.2.2.2.2.1, fun g hg => (h.2.2.2.2.2.1 g hg).more hc, fun s g hs hg => (h.2.2.2.2.2.2 s g hs hg).more hc⟩
theorem OpI.mk {X M : Mu → Option (Int32 × Mu)} (ans : Sg → Int32) (nx : Sg → Sg) (hX : ∀ μ σ c, InvX μ σ → Good σ c → c < 512 → ∃ μ', X μ = some (ans σ, μ') ∧ InvX μ' (nx σ) ∧ same (fun b => 414 ≤ b) μ μ') (hM : ∀ μ σ c, InvM μ σ → Good σ c → c < 512 → ∃ μ', M μ = some (ans σ, μ') ∧ InvM μ' (nx σ) ∧ same (fun b => b < 414) μ μ') (hG : ∀ σ c, Good σ c → c < 512 → Good (nx σ) (c + 1)) : OpI X M := by
  intro μ σ c iX iM g hc
  obtain ⟨μ1, e1, jX, s1⟩ := hX μ σ c iX g hc
  obtain ⟨μ2, e2, jM, s2⟩ := hM μ1 σ c (iM.mono s1) g hc
  exact ⟨ans σ, μ1, μ2, nx σ, e1, e2, jX.mono (hG σ c g hc) s2, jM, hG σ c g hc⟩
theorem OpJ.mk {X M : Mu → Option (Int64 × Mu)} (ans : Sg → Int64) (nx : Sg → Sg) (hX : ∀ μ σ c, InvX μ σ → Good σ c → c < 512 → ∃ μ', X μ = some (ans σ, μ') ∧ InvX μ' (nx σ) ∧ same (fun b => 414 ≤ b) μ μ') (hM : ∀ μ σ c, InvM μ σ → Good σ c → c < 512 → ∃ μ', M μ = some (ans σ, μ') ∧ InvM μ' (nx σ) ∧ same (fun b => b < 414) μ μ') (hG : ∀ σ c, Good σ c → c < 512 → Good (nx σ) (c + 1)) : OpJ X M := by
  intro μ σ c iX iM g hc
  obtain ⟨μ1, e1, jX, s1⟩ := hX μ σ c iX g hc
  obtain ⟨μ2, e2, jM, s2⟩ := hM μ1 σ c (iM.mono s1) g hc
  exact ⟨ans σ, μ1, μ2, nx σ, e1, e2, jX.mono (hG σ c g hc) s2, jM, hG σ c g hc⟩
/-- an op that only reads -/
theorem OpI.ro {X M : Mu → Option (Int32 × Mu)} (ans : Sg → Int32) (hX : ∀ μ σ c, InvX μ σ → Good σ c → c < 512 → X μ = some (ans σ, μ)) (hM : ∀ μ σ c, InvM μ σ → Good σ c → c < 512 → M μ = some (ans σ, sI μ 414 0 0)) : OpI X M :=
  OpI.mk ans id (fun μ σ c h g hc => ⟨μ, hX μ σ c h g hc, h, same.rf⟩) (fun μ σ c h g hc => ⟨_, hM μ σ c h g hc, h.thr 0, thr_same⟩) (fun σ c g _ => g.more (by omega))
theorem OpJ.ro {X M : Mu → Option (Int64 × Mu)} (ans : Sg → Int64) (hX : ∀ μ σ c, InvX μ σ → Good σ c → c < 512 → X μ = some (ans σ, μ)) (hM : ∀ μ σ c, InvM μ σ → Good σ c → c < 512 → M μ = some (ans σ, sI μ 414 0 0)) : OpJ X M :=
  OpJ.mk ans id (fun μ σ c h g hc => ⟨μ, hX μ σ c h g hc, h, same.rf⟩) (fun μ σ c h g hc => ⟨_, hM μ σ c h g hc, h.thr 0, thr_same⟩) (fun σ c g _ => g.more (by omega))
theorem nbt : ¬ bI true = 0 := by decide
theorem pbf : bI false = 0 := rfl
theorem iz411 : iz SH 4 11 = true := rfl
theorem iz137 : iz SH 1 37 = true := rfl
theorem Xp.now {μ : Mu} (h : Xp μ) : gR μ 1 4 = 11 := h.2.2.1
theorem Xp.past {μ : Mu} (h : Xp μ) : gR μ 1 5 = 37 := h.2.2.2.1
theorem InvX.pr {μ : Mu} {σ : Sg} (h : InvX μ σ) : PR μ (gR μ 1 2) (sP σ) := h.2.2.2.1
theorem InvX.sr {μ : Mu} {σ : Sg} (h : InvX μ σ) : SR μ 11 (sN σ).1 := h.2.2.2.2.1.1
theorem Good.pv {σ : Sg} {c : Nat} (h : Good σ c) : PV (sP σ) := h.2.2.1
theorem Good.gp {σ : Sg} {c : Nat} (h : Good σ c) : GP (sP σ) c (sN σ).1 := h.2.2.2.1
/-! write, wipe -/
theorem InvX.text {μ μ' : Mu} {σ : Sg} {c L : Nat} {T : Nat → Int32} (h : InvX μ σ) (hg : Good σ c) (hs : same (fun b => b ≠ 1 ∧ b ≠ 2 ∧ b < 414) μ μ') (hR : ∀ b k, gR μ' b k = gR μ b k) (hL : gI μ' 1 1 = nI L) (hT : ∀ i, i < L → gI μ' 2 i = T i) : InvX μ' (L, T, sP σ, sN σ, sA σ, sK σ) := by
  obtain ⟨h0, h1, h2, h3, h4, h5, h6⟩ := h
  obtain ⟨g1, g2, g3, g4, g5, g6, g7⟩ := hg
  have hpl := h0.pl
  refine ⟨h0.mono (fun b k hb => hR b k), hL, hT, ?_, ⟨h4.1.mono g4.sz.2 (hs.mono (fun b hb => by omega)), by rw [hs.J (b := 11) (by decide)]; exact h4.2⟩, ?_, ?_⟩
  · rw [hR]
    exact h3.mono (hs.mono (fun b hb => by omega))
  · obtain ⟨a1, r, hr, a2, a3⟩ := h5
    refine ⟨by rw [hs.I (b := 37) (by decide)]; exact a1, r, hr, by rw [hs.I (b := 37) (by decide)]; exact a2, fun i g hi => ?_⟩
    have hm := Nat.mod_lt (r + i) (show 12 > 0 by decide)
    exact ⟨(a3 i g hi).1.mono (g6 g (List.mem_of_getElem? hi)).sz.2 (hs.mono (fun b hb => by omega)), by rw [hs.J (b := 39 + 26 * ((r + i) % 12)) (by omega)]; exact (a3 i g hi).2⟩
  · exact fun s hs2 => ⟨fun e => by rw [hs.I (b := 352) (by decide)]; exact (h6 s hs2).1 e, fun g e => ⟨by rw [hs.I (b := 352) (by decide)]; exact ((h6 s hs2).2 g e).1, ((h6 s hs2).2 g e).2.1.mono (g7 s g hs2 e).sz.2 (hs.mono (fun b hb => by omega)), by rw [hs.J (b := 362 + 26 * s) (by omega)]; exact ((h6 s hs2).2 g e).2.2⟩⟩
theorem InvM.text {μ μ' : Mu} {σ : Sg} {L : Nat} {T : Nat → Int32} (h : InvM μ σ) (hs : same (fun b => 415 < b) μ μ') (hR : ∀ b k, gR μ' b k = gR μ b k) (hJ : ∀ b k, gJ μ' b k = gJ μ b k) (hI : ∀ k, k ≠ 0 → k ≠ 2 → gI μ' 414 k = gI μ 414 k) (hL : gI μ' 414 2 = nI L) (hT : ∀ i, i < L → gI μ' 415 i = T i) : InvM μ' (L, T, sP σ, sN σ, sA σ, sK σ) := by
  obtain ⟨⟨h0, h1⟩, h2, h3, h4, h5, h6, h7⟩ := h
  have I : ∀ b k, 415 < b → gI μ' b k = gI μ b k := fun b k hb => hs.I hb k
  refine ⟨⟨h0.mono (fun k => hR 414 k), fun k hk => by rw [I _ _ (by decide)]; exact h1 k hk⟩, hL, hT, ?_, by rw [hJ]; exact h5, ?_, ?_⟩
  · obtain ⟨a1, a2, a3, a4, a5⟩ := h4
    exact ⟨by rw [hI _ (by decide) (by decide)]; exact a1, by rw [hI _ (by decide) (by decide)]; exact a2, by rw [hI _ (by decide) (by decide)]; exact a3, fun b hb => by rw [I _ _ (by decide), I _ _ (by decide)]; exact a4 b hb, fun p hp => by rw [I _ _ (by decide)]; exact a5 p hp⟩
  · exact ⟨by rw [hI _ (by decide) (by decide)]; exact h6.1, fun i g hg => ⟨fun k hk => by rw [I _ _ (by decide)]; exact (h6.2 i g hg).1 k hk, by rw [hJ]; exact (h6.2 i g hg).2⟩⟩
  · exact fun s hs2 => ⟨fun e => by rw [I _ _ (by decide)]; exact (h7 s hs2).1 e, fun g e => ⟨by rw [I _ _ (by decide)]; exact ((h7 s hs2).2 g e).1, fun k hk => by rw [I _ _ (by decide)]; exact ((h7 s hs2).2 g e).2.1 k hk, by rw [hJ]; exact ((h7 s hs2).2 g e).2.2⟩⟩
theorem sg_eta (σ : Sg) : (sL σ, sT σ, sP σ, sN σ, sA σ, sK σ) = σ := rfl
theorem op_wipe : OpI (m_X6_wipe SH 1) (m_X7_wipe SH 414) := by
  refine OpI.mk (fun σ => nI (sL σ)) (fun σ => (0, sT σ, sP σ, sN σ, sA σ, sK σ)) (fun μ σ c h g hc => ?_) (fun μ σ c h g hc => ?_) (fun σ c g hc => ?_)
  · refine ⟨sI μ 1 1 0, ?_, h.text g (same_sI (by decide)) (fun _ _ => rfl) rfl (fun i hi => absurd hi (by omega)), same_sI (by decide)⟩
    unfold m_X6_wipe
    simp only [bd, gd_of iz6, h.2.1]
  · refine ⟨sI (sI μ 414 0 0) 414 2 0, ?_, (h.thr 0).text (same_sI (by decide)) (fun _ _ => rfl) (fun _ _ => rfl) (fun k h1 h2 => by rw [gI_sI, if_pos rfl, if_neg h2]) rfl (fun i hi => absurd hi (by omega)), (thr_same).trans (same_sI (by decide))⟩
    unfold m_X7_wipe
    simp only [bd, gd_of iz7, (h.thr 0).2.1]
  · obtain ⟨g1, g2, g3⟩ := g.more (d := c + 1) (by omega)
    exact ⟨Nat.zero_le _, fun i hi => absurd hi (by unfold sL at hi; omega), g3⟩
theorem le255 {v : Int32} (h0 : ¬ v < 0) : v ≤ 255 ↔ isIn v 256 = true := by
  rw [isIn_iff (by decide), fa_le]
  have h1 : 0 ≤ v.toInt := by
    have := Int32.not_lt.mp h0
    rw [fa_le] at this
    exact this
  rw [show (255 : Int32).toInt = 255 from rfl]
  omega
theorem op_write (v : Int32) : OpI (m_X6_write SH 1 v) (m_X7_write SH 414 v) := by
  by_cases hv : isIn v 256 = true
  · obtain ⟨w, hw, ew⟩ := isIn_t hv (by decide)
    refine OpI.mk (fun σ => if sL σ = 24 then -4 else nI (sL σ + 1)) (fun σ => if sL σ = 24 then σ else (sL σ + 1, upd (sT σ) (sL σ) v, sP σ, sN σ, sA σ, sK σ)) (fun μ σ c h g hc => ?_) (fun μ σ c h g hc => ?_) (fun σ c g hc => ?_)
    · have hL := g.1
      have h0 : ¬ v < 0 := by rw [ew]; exact nlt0 (by omega)
      by_cases hf : sL σ = 24
      · refine ⟨μ, ?_, by simpa only [if_pos hf] using h, same.rf⟩
        unfold m_X6_write
        rw [if_neg h0, if_pos ((le255 h0).mpr hv), gd_of iz6, h.2.1, hf, if_neg (show ¬ nI 24 < 0 by decide), if_neg (show ¬ nI 24 < 24 by decide)]
        rfl
      · refine ⟨sI (sI μ 2 (sL σ) v) 1 1 (nI (sL σ + 1)), ?_, ?_, (same_sI (by decide)).trans (same_sI (by decide))⟩
        · unfold m_X6_write
          simp only [bd, h.1.1]
          rw [if_neg h0, if_pos ((le255 h0).mpr hv), gd_of iz6, h.2.1, if_neg (nlt0 (show sL σ < 2 ^ 31 by omega)), if_pos (ltL 24 (show sL σ < 24 by omega) (by decide)), gd_of (ix_of (i := sL σ) (a := 2) (n := 24) rfl (by omega) (by decide)), nI_clamp (by omega), gI_sI μ, if_neg (show ¬ 1 = 2 by decide), h.2.1, nI_1, gI_sI, if_pos rfl, if_pos rfl]
          simp only [if_neg hf]
        · simp only [if_neg hf]
          refine h.text g ((same_sI (by decide)).trans (same_sI (by decide))) (fun _ _ => rfl) (by rw [gI_sI, if_pos rfl, if_pos rfl]) (fun i hi => ?_)
          rw [gI_sI, if_neg (by decide), gI_sI, if_pos rfl]
          unfold upd
          by_cases e : i = sL σ
          · rw [if_pos e, if_pos e]
          · rw [if_neg e, if_neg e]
            exact h.2.2.1 i (by omega)
    · have hL := g.1
      have h' := h.thr 0
      by_cases hf : sL σ = 24
      · refine ⟨sI μ 414 0 0, ?_, by simpa only [if_pos hf] using h', thr_same⟩
        unfold m_X7_write
        simp only [bd]
        rw [gd_of iz7, y_in, inL_of (n := 256) (by decide) rfl, hv]
        simp only [ca2]
        rw [if_neg nbt, h'.2.1, hf, if_pos (show nI 24 = 24 from rfl)]
        rfl
      · refine ⟨sI (sI (sI μ 414 0 0) 415 (sL σ) v) 414 2 (nI (sL σ + 1)), ?_, ?_, (thr_same.trans (same_sI (by decide))).trans (same_sI (by decide))⟩
        · unfold m_X7_write
          simp only [bd]
          rw [gd_of iz7, y_in, inL_of (n := 256) (by decide) rfl, hv]
          simp only [ca2]
          have hne : ¬ nI (sL σ) = 24 := fun e => hf ((nI_eq (by omega) (by decide)).mp e)
          rw [if_neg nbt, h'.2.1, if_neg hne, h'.1.1.1, gd_of (ix_of (i := sL σ) (a := 415) (n := 24) rfl (by omega) (by decide)), nI_clamp (by omega), gI_sI (sI μ 414 0 0), if_neg (show ¬ 414 = 415 by decide), h'.2.1, nI_1, gI_sI, if_pos rfl, if_pos rfl]
          simp only [if_neg hf]
        · simp only [if_neg hf]
          refine h'.text ((same_sI (by decide)).trans (same_sI (by decide))) (fun _ _ => rfl) (fun _ _ => rfl) (fun k h1 h2 => by rw [gI_sI, if_pos rfl, if_neg h2, gI_sI, if_neg (by decide)]) (by rw [gI_sI, if_pos rfl, if_pos rfl]) (fun i hi => ?_)
          rw [gI_sI, if_neg (by decide), gI_sI, if_pos rfl]
          unfold upd
          by_cases e : i = sL σ
          · rw [if_pos e, if_pos e]
          · rw [if_neg e, if_neg e]
            exact h'.2.2.1 i (by omega)
    · have g' := g.more (d := c + 1) (by omega)
      have hL := g.1
      by_cases hf : sL σ = 24
      · simp only [if_pos hf]
        exact g'
      · simp only [if_neg hf]
        refine ⟨by show sL σ + 1 ≤ 24; omega, fun i hi => ?_, g'.2.2⟩
        have hi : i < sL σ + 1 := hi
        show ∃ n, n < 256 ∧ upd (sT σ) (sL σ) v i = nI n
        unfold upd
        by_cases e : i = sL σ
        · rw [if_pos e]
          exact ⟨w, hw, ew⟩
        · rw [if_neg e]
          exact g'.2.1 i (by omega)
  · have hv : isIn v 256 = false := by simpa using hv
    refine OpI.ro (fun _ => -2) (fun μ σ c h g hc => ?_) (fun μ σ c h g hc => ?_)
    · unfold m_X6_write
      by_cases h0 : v < 0
      · rw [if_pos h0]
      · rw [if_neg h0, if_neg (fun q => by rw [le255 h0, hv] at q; cases q)]
    · unfold m_X7_write
      simp only [bd]
      rw [gd_of iz7, y_in, inL_of (n := 256) (by decide) rfl, hv]
      rfl
/-! about -/
theorem op_about (v : Int32) : OpI (m_X6_about SH 1 v) (m_X7_about SH 414 v) := by
  refine OpI.ro (fun σ => if v = 0 then nI (pB (sP σ)) else if v = 1 then nI (pP (sP σ)) else if v = 2 then nI (pW (sP σ)) else if v = 3 then (sN σ).1 203 else if v = 4 then (sN σ).1 204 else if v = 5 then (sN σ).1 202 else if v = 6 then (sN σ).1 15 else if v = 7 then nI (sA σ).length else if v = 8 then tornG (sN σ).1 (szF (sN σ).1) else if v = 9 then nI (sL σ) else -2) (fun μ σ c h g hc => ?_) (fun μ σ c h g hc => ?_)
  · have hsz := g.gp.sz
    unfold m_X6_about
    simp only [bd, h.1.now, h.1.past, gd_of iz6, gd_of h.pr.1.iz, gd_of iz411, gd_of iz137, h.pr.2.1, h.pr.2.2.1, h.pr.2.2.2.1, h.sr.2.1, h.sr.2.2.1, h.sr.2.2.2.1, h.sr.2.2.2.2.1, h.2.1, h.2.2.2.2.2.1.1, x_tornOnes h.sr hsz.1 hsz.2, ca2]
    repeat' split
    all_goals rfl
  · have hsz := g.gp.sz
    have h' := h.thr 0
    unfold m_X7_about
    simp only [bd, h'.1.1.pg, gd_of iz7, gd_of ixL202, gd_of ixL203, gd_of ixL204, gd_of ixL15, c202, c203, c204, c15, h'.1.2 203 (by decide), h'.1.2 204 (by decide), h'.1.2 202 (by decide), h'.1.2 15 (by decide), h'.2.1, h'.2.2.2.1.1, h'.2.2.2.1.2.1, h'.2.2.2.1.2.2.1, h'.2.2.2.2.2.1.1, y_tornOnes h'.1 hsz.1 hsz.2 g.gp.torn, ca2]
    repeat' split
    all_goals rfl
/-! seed -/
theorem op_seed (v : Int64) : OpJ (m_X6_seed SH 1 v) (m_X7_seed SH 414 v) := by
  refine OpJ.mk (fun σ => (sN σ).2) (fun σ => (sL σ, sT σ, sP σ, ((sN σ).1, v), sA σ, sK σ)) (fun μ σ c h g hc => ?_) (fun μ σ c h g hc => ?_) (fun σ c g hc => g.more (by omega))
  · have hs : same (fun b => b ≠ 11) μ (sJ μ 11 0 v) := same_sJ (by decide)
    refine ⟨sJ μ 11 0 v, ?_, ?_, same_sJ (by decide)⟩
    · unfold m_X6_seed
      simp only [bd, h.1.now, gd_of iz6, gd_of iz411, h.2.2.2.2.1.2]
    · obtain ⟨h0, h1, h2, h3, h4, h5, h6⟩ := h
      obtain ⟨g1, g2, g3, g4, g5, g6, g7⟩ := g
      have hpl := h0.pl
      refine ⟨h0.mono (fun b k hb => rfl), h1, h2, h3.mono (hs.mono (fun b hb => by omega)), ⟨?_, rfl⟩, ?_, ?_⟩
      · exact h4.1
      · obtain ⟨a1, r, hr, a2, a3⟩ := h5
        refine ⟨a1, r, hr, a2, fun i g hi => ?_⟩
        have hm := Nat.mod_lt (r + i) (show 12 > 0 by decide)
        exact ⟨(a3 i g hi).1, by rw [hs.J (b := 39 + 26 * ((r + i) % 12)) (by omega)]; exact (a3 i g hi).2⟩
      · exact fun s hs2 => ⟨fun e => (h6 s hs2).1 e, fun g e => ⟨((h6 s hs2).2 g e).1, ((h6 s hs2).2 g e).2.1, by rw [hs.J (b := 362 + 26 * s) (by omega)]; exact ((h6 s hs2).2 g e).2.2⟩⟩
  · have h' := h.thr 0
    refine ⟨sJ (sI μ 414 0 0) 414 17 v, ?_, ?_, thr_same.trans (same_sJ (by decide))⟩
    · unfold m_X7_seed
      simp only [bd, gd_of iz7, h'.2.2.2.2.1]
    · obtain ⟨⟨h0, h1⟩, h2, h3, h4, h5, h6, h7⟩ := h'
      exact ⟨⟨h0, h1⟩, h2, h3, h4, rfl, h6, h7⟩

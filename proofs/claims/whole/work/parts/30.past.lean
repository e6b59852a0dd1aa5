/-! the row of acts: the class's ring, the reference's book -/
def psh (A : List Pg) (g : Pg) : List Pg := (if A.length < 12 then A else A.tail) ++ [g]
def wA (σ : Sg) (A : List Pg) : Sg := (sL σ, sT σ, sP σ, sN σ, A, sK σ)
def wN (σ : Sg) (N : Pg) : Sg := (sL σ, sT σ, sP σ, N, sA σ, sK σ)
theorem fm_pos : ∀ d, d < 40 → fmI (nI d) 12 = nI (d % 12) := by decide +kernel
theorem Good.toA {σ : Sg} {c : Nat} {A : List Pg} (h : Good σ c) (hl : A.length ≤ 12) (hm : ∀ g ∈ A, GP (sP σ) c g.1) : Good (wA σ A) c := ⟨h.1, h.2.1, h.2.2.1, h.2.2.2.1, hl, hm, h.2.2.2.2.2.2⟩
theorem Good.toN {σ : Sg} {c : Nat} {N : Pg} (h : Good σ c) (hm : GP (sP σ) c N.1) : Good (wN σ N) c := ⟨h.1, h.2.1, h.2.2.1, hm, h.2.2.2.2⟩
theorem Good.toP {σ : Sg} {c : Nat} (h : Good σ c) : Good (wA σ (psh (sA σ) (sN σ))) c := by
  refine h.toA ?_ ?_
  · have := h.2.2.2.2.1
    unfold psh
    by_cases e : (sA σ).length < 12
    · rw [if_pos e, List.length_append]; simp; omega
    · rw [if_neg e, List.length_append, List.length_tail]; simp; omega
  · intro g hg
    unfold psh at hg
    rcases List.mem_append.mp hg with q | q
    · refine h.2.2.2.2.2.1 g ?_
      by_cases e : (sA σ).length < 12
      · rwa [if_pos e] at q
      · rw [if_neg e] at q; exact List.mem_of_mem_tail q
    · rw [List.mem_singleton.mp q]; exact h.2.2.2.1
/-- the ring as it stands, with other things changed -/
theorem InvX.toA {μ μ' : Mu} {σ : Sg} {c : Nat} {A : List Pg} (h : InvX μ σ) (hg : Good σ c) (hs : same (fun b => b < 37 ∨ 350 < b ∧ b < 414) μ μ') (hR : ∀ b k, gR μ' b k = gR μ b k) (hA : PastX μ' A) : InvX μ' (wA σ A) := by
  obtain ⟨h0, h1, h2, h3, h4, h5, h6⟩ := h
  obtain ⟨g1, g2, g3, g4, g5, g6, g7⟩ := hg
  have hpl := h0.pl
  refine ⟨h0.mono (fun b k hb => hR b k), by rw [hs.I (b := 1) (by decide)]; exact h1, fun i hi => by rw [hs.I (b := 2) (by decide)]; exact h2 i hi, ?_, ⟨h4.1.mono g4.sz.2 (hs.mono (fun b hb => by omega)), by rw [hs.J (b := 11) (by decide)]; exact h4.2⟩, hA, ?_⟩
  · rw [hR]
    exact h3.mono (hs.mono (fun b hb => by omega))
  · exact fun s hs2 => ⟨fun e => by rw [hs.I (b := 352) (by decide)]; exact (h6 s hs2).1 e, fun g e => ⟨by rw [hs.I (b := 352) (by decide)]; exact ((h6 s hs2).2 g e).1, ((h6 s hs2).2 g e).2.1.mono (g7 s g hs2 e).sz.2 (hs.mono (fun b hb => by omega)), by rw [hs.J (b := 362 + 26 * s) (by omega)]; exact ((h6 s hs2).2 g e).2.2⟩⟩
theorem InvX.toN {μ μ' : Mu} {σ : Sg} {c : Nat} {N : Pg} (h : InvX μ σ) (hg : Good σ c) (hs : same (fun b => b < 11 ∨ 37 ≤ b ∧ b < 414) μ μ') (hS : SR μ' 11 N.1) (hJ : gJ μ' 11 0 = N.2) : InvX μ' (wN σ N) := by
  obtain ⟨h0, h1, h2, h3, h4, h5, h6⟩ := h
  obtain ⟨g1, g2, g3, g4, g5, g6, g7⟩ := hg
  have hpl := h0.pl
  have hX : Xp μ' := by
    obtain ⟨k1, k2, k3, k4, k5, k6, k7, k8, k9, k10, k11, k12, k13, k14, k15, k16, k17, k18, k19, k20⟩ := h0
    have R : ∀ b k, (b < 11 ∨ 37 ≤ b ∧ b < 414) → gR μ' b k = gR μ b k := fun b k hb => hs.R hb k
    refine ⟨by rw [R _ _ (by decide)]; exact k1, by rw [R _ _ (by decide), R _ _ (by decide)]; exact k2, by rw [R _ _ (by decide)]; exact k3, by rw [R _ _ (by decide)]; exact k4, by rw [R _ _ (by decide)]; exact k5, by rw [R _ _ (by decide)]; exact k6, by rw [R _ _ (by decide)]; exact k7, by rw [R _ _ (by decide)]; exact k8, by rw [R _ _ (by decide)]; exact k9, fun i hi => by rw [R _ _ (by decide)]; exact k10 i hi, by rw [R _ _ (by decide)]; exact k11, by rw [R _ _ (by decide)]; exact k12, ?_, ?_, k15.mono (fun k => R _ _ (by decide)), k16.mono (fun k => R _ _ (by decide)), hS.1, fun i hi => (k18 i hi).mono (hs.mono (fun b hb => by omega)), k19.mono (hs.mono (fun b hb => by omega)), k20.mono (hs.mono (fun b hb => by omega))⟩
    · rw [R _ _ (by decide), R _ _ (by decide), R _ _ (by decide)]; exact k13
    · rw [R _ _ (by decide), R _ _ (by decide), R _ _ (by decide), R _ _ (by decide)]; exact k14
  refine ⟨hX, by rw [hs.I (b := 1) (by decide)]; exact h1, fun i hi => by rw [hs.I (b := 2) (by decide)]; exact h2 i hi, ?_, ⟨hS, hJ⟩, ?_, ?_⟩
  · rw [hs.R (b := 1) (by decide)]
    exact h3.mono (hs.mono (fun b hb => by omega))
  · obtain ⟨a1, r, hr, a2, a3⟩ := h5
    refine ⟨by rw [hs.I (b := 37) (by decide)]; exact a1, r, hr, by rw [hs.I (b := 37) (by decide)]; exact a2, fun i g hi => ?_⟩
    have hm := Nat.mod_lt (r + i) (show 12 > 0 by decide)
    exact ⟨(a3 i g hi).1.mono (g6 g (List.mem_of_getElem? hi)).sz.2 (hs.mono (fun b hb => by omega)), by rw [hs.J (b := 39 + 26 * ((r + i) % 12)) (by omega)]; exact (a3 i g hi).2⟩
  · exact fun s hs2 => ⟨fun e => by rw [hs.I (b := 352) (by decide)]; exact (h6 s hs2).1 e, fun g e => ⟨by rw [hs.I (b := 352) (by decide)]; exact ((h6 s hs2).2 g e).1, ((h6 s hs2).2 g e).2.1.mono (g7 s g hs2 e).sz.2 (hs.mono (fun b hb => by omega)), by rw [hs.J (b := 362 + 26 * s) (by omega)]; exact ((h6 s hs2).2 g e).2.2⟩⟩
theorem x_rem30 {μ : Mu} {σ : Sg} {c : Nat} (h : InvX μ σ) (g : Good σ c) (hl : (sA σ).length < 12) : ∃ μ', m_X1_remember_b30 SH 37 11 μ = some μ' ∧ InvX μ' (wA σ (sA σ ++ [sN σ])) ∧ same (fun b => b < 37 ∨ 350 < b) μ μ' := by
  obtain ⟨a1, r, hr, a2, a3⟩ := h.2.2.2.2.2.1
  have hm := Nat.mod_lt (r + (sA σ).length) (show 12 > 0 by decide)
  obtain ⟨k, hk⟩ : ∃ k, k = (r + (sA σ).length) % 12 := ⟨_, rfl⟩
  rw [← hk] at hm
  have hsp : Sp μ (39 + 26 * k) := h.1.2.2.2.2.2.2.2.2.2.2.2.2.2.2.2.2.2.1 k hm
  obtain ⟨μ1, e1, s1, j1, r1, t1⟩ := x_copyFrom hsp h.sr (by omega) g.gp.sz.1 g.gp.sz.2 (fun q hq => by have := (g.gp.lk hq).2; omega)
  have i37 : gI μ1 37 0 = gI μ 37 0 := t1.I (b := 37) (by omega) 0
  have t2 : same (fun b => b ≠ 37 ∧ (b < 39 + 26 * k ∨ 39 + 26 * k + 26 ≤ b)) μ (sI μ1 37 0 (nI ((sA σ).length + 1))) := (t1.mono (fun b hb => hb.2)).trans (same_sI (by simp))
  refine ⟨sI μ1 37 0 (nI ((sA σ).length + 1)), ?_, ?_, t2.mono (fun b hb => by omega)⟩
  · unfold m_X1_remember_b30
    simp only [bd]
    rw [gd_of iz137, a1, a2, nI_add, j_floorMod (by decide), fm_pos _ (by omega), ca2_s, h.1.2.2.2.2.2.2.2.2.1, ← hk, gd_of (ix_of (sh := SH) (kd := 12) (a := 38) (i := k) (n := 12) rfl hm (by decide)), nI_clamp (by omega), h.1.2.2.2.2.2.2.2.2.2.1 k hm, gd_of hsp.iz, e1, ca_s, i37, a1, nI_1]
  · refine h.toA g (t2.mono (fun b hb => by omega)) (fun b k => r1 b k) ?_
    refine ⟨by rw [gI_sI, if_pos rfl, if_pos rfl, List.length_append]; rfl, r, hr, ?_, fun i q hi => ?_⟩
    · rw [gI_sI, if_pos rfl, if_neg (by decide), t1.I (b := 37) (by omega)]; exact a2
    · by_cases hi2 : i < (sA σ).length
      · rw [List.getElem?_append_left hi2] at hi
        have hne : (r + i) % 12 ≠ k := by omega
        have hm2 := Nat.mod_lt (r + i) (show 12 > 0 by decide)
        exact ⟨(a3 i q hi).1.mono (g.2.2.2.2.2.1 q (List.mem_of_getElem? hi)).sz.2 (t2.mono (fun b hb => by omega)), by rw [t2.J (b := 39 + 26 * ((r + i) % 12)) (by omega)]; exact (a3 i q hi).2⟩
      · rw [List.getElem?_append_right (by omega)] at hi
        have h0 : i - (sA σ).length = 0 := by
          rcases Nat.eq_zero_or_pos (i - (sA σ).length) with q | q
          · exact q
          · rw [List.getElem?_eq_none (by simp; omega)] at hi; cases hi
        rw [h0] at hi
        have e : sN σ = q := by simpa using hi
        have hi3 : i = (sA σ).length := by omega
        subst e
        rw [hi3, ← hk]
        exact ⟨s1.mono g.gp.sz.2 (same_sI (by omega)), by rw [gJ_sI, j1]; exact h.2.2.2.2.1.2⟩
theorem x_remember {μ : Mu} {σ : Sg} {c : Nat} (h : InvX μ σ) (g : Good σ c) : ∃ μ', m_X1_remember SH 37 11 μ = some μ' ∧ InvX μ' (wA σ (psh (sA σ) (sN σ))) ∧ same (fun b => b < 37 ∨ 350 < b) μ μ' := by
  obtain ⟨a1, r, hr, a2, a3⟩ := h.2.2.2.2.2.1
  have hlen := g.2.2.2.2.1
  unfold psh m_X1_remember
  rw [gd_of iz137, a1]
  by_cases e : (sA σ).length < 12
  · rw [if_pos (ltL 12 e (by decide)), if_pos e]
    exact x_rem30 h g e
  · have e12 : (sA σ).length = 12 := by omega
    rw [if_neg e, if_neg (by rw [e12]; decide), a2, nI_1, j_floorMod (by decide), fm_pos _ (by omega), ca2_s]
    have t0 : same (fun b => b ≠ 37) μ (sI (sI μ 37 1 (nI ((r + 1) % 12))) 37 0 11) := (same_sI (by simp)).trans (same_sI (by simp))
    have hX : InvX (sI (sI μ 37 1 (nI ((r + 1) % 12))) 37 0 11) (wA σ (sA σ).tail) := by
      refine h.toA g (t0.mono (fun b hb => by omega)) (fun _ _ => rfl) ⟨?_, (r + 1) % 12, Nat.mod_lt _ (by decide), ?_, fun i q hi => ?_⟩
      · rw [gI_sI, if_pos rfl, if_pos rfl, List.length_tail, e12]
        rfl
      · rw [gI_sI, if_pos rfl, if_neg (by decide), gI_sI, if_pos rfl, if_pos rfl]
      · rw [List.getElem?_tail] at hi
        have := a3 (i + 1) q hi
        have e2 : ((r + 1) % 12 + i) % 12 = (r + (i + 1)) % 12 := by omega
        rw [e2]
        have hm2 := Nat.mod_lt (r + (i + 1)) (show 12 > 0 by decide)
        exact ⟨this.1.mono (g.2.2.2.2.2.1 q (List.mem_of_getElem? hi)).sz.2 (t0.mono (fun b hb => by omega)), by rw [t0.J (b := 39 + 26 * ((r + (i + 1)) % 12)) (by omega)]; exact this.2⟩
    have hG : Good (wA σ (sA σ).tail) c := g.toA (by rw [List.length_tail]; omega) (fun q hq => g.2.2.2.2.2.1 q (List.mem_of_mem_tail hq))
    obtain ⟨μ', e', hX', t'⟩ := x_rem30 hX hG (by show (sA σ).tail.length < 12; rw [List.length_tail]; omega)
    exact ⟨μ', e', hX', (t0.mono (fun b hb => by omega)).trans t'⟩

/-! plan, parts, rows, the two slots -/
def P0 : Pl := (0, 0, 0, fun _ => 0, fun _ => 0, fun _ => 0)
theorem x_i2 {q : Nat} {μ : Mu} (hq : q = 3 ∨ q = 7) : ∃ μ', m_X2_init q (SHc q) q μ = some (q + 3, SHc (q + 3), μ') ∧ PR μ' q P0 ∧ same (fun b => b < q ∨ q + 4 ≤ b) μ μ' := by
  have h0 : SH q = (2, 6) := by rcases hq with rfl | rfl <;> rfl
  have h1 : SH (q + 1) = (8, 2) := by rcases hq with rfl | rfl <;> rfl
  have h2 : SH (q + 1 + 1) = (8, 2) := by rcases hq with rfl | rfl <;> rfl
  have h3 : SH (q + 1 + 1 + 1) = (8, 5) := by rcases hq with rfl | rfl <;> rfl
  have z : ∀ N, q ≤ N → iz (SHc N) 2 q = true := fun N hN => by rw [iz_c hN]; exact iz_of h0
  refine ⟨sR (zr (sR (zr (sR (zr (sI (sI (sI μ q 0 0) q 1 0) q 2 0) (q + 1)) q 3 (q + 1)) (q + 1 + 1)) q 4 (q + 1 + 1)) (q + 1 + 1 + 1)) q 5 (q + 1 + 1 + 1), ?_, ⟨⟨hq, ?_, ?_, ?_⟩, ?_, ?_, ?_, fun b hb => absurd hb (by show ¬ b < 0; omega), fun p hp => absurd hp (by show ¬ p < 0; omega)⟩, ((((((((same.rf.wI (by omega)).wI (by omega)).wI (by omega)).wz (by omega)).wR (by omega)).wz (by omega)).wR (by omega)).wz (by omega)).wR (by omega)⟩
  · unfold m_X2_init
    rw [nn0_t (by omega), gd_n, z q (Nat.le_refl q), gd_n, bd_n, bd_n, bd_n, roomB_t (by omega) (by omega), gd_n, bd_n, bd_n, bd_n, bd_n, bd_n, shn_c h1, z _ (by omega), gd_n, bd_n, roomB_t (by omega) (by omega), gd_n, bd_n, bd_n, bd_n, bd_n, bd_n, shn_c h2, z _ (by omega), gd_n, bd_n, roomB_t (by omega) (by omega), gd_n, bd_n, bd_n, bd_n, bd_n, bd_n, shn_c h3, z _ (by omega), gd_n, bd_n, eqB_t rfl rfl, gd_n]
  · rw [gR_k (by decide), gR_zo (by omega), gR_k (by decide), gR_zo (by omega), gR_w]
  · rw [gR_k (by decide), gR_zo (by omega), gR_w]
  · rw [gR_w]
  · rw [gI_sR, gI_zr, if_neg (by omega), gI_sR, gI_zr, if_neg (by omega), gI_sR, gI_zr, if_neg (by omega), gI_k (by decide), gI_k (by decide), gI_w]; rfl
  · rw [gI_sR, gI_zr, if_neg (by omega), gI_sR, gI_zr, if_neg (by omega), gI_sR, gI_zr, if_neg (by omega), gI_k (by decide), gI_w]; rfl
  · rw [gI_sR, gI_zr, if_neg (by omega), gI_sR, gI_zr, if_neg (by omega), gI_sR, gI_zr, if_neg (by omega), gI_w]; rfl
theorem x_i0 {μ : Mu} : ∃ μ', m_X0_init 353 (SHc 353) 353 μ = some (356, SHc 356, μ') ∧ P3 μ' ∧ same (fun b => b < 353 ∨ 357 ≤ b) μ μ' := by
  have z : ∀ N, 353 ≤ N → iz (SHc N) 0 353 = true := fun N hN => by rw [iz_c hN]; rfl
  refine ⟨sR (zr (sR (zr (sR (zr (sI μ 353 0 0) (353 + 1)) 353 1 (353 + 1)) (353 + 1 + 1)) 353 2 (353 + 1 + 1)) (353 + 1 + 1 + 1)) 353 3 (353 + 1 + 1 + 1), ?_, ⟨?_, ?_, ?_⟩, ((((((same.rf.wI (by omega)).wz (by omega)).wR (by omega)).wz (by omega)).wR (by omega)).wz (by omega)).wR (by omega)⟩
  · unfold m_X0_init
    rw [nn0_t (by omega), gd_n, z _ (by omega), gd_n, bd_n, roomB_t (by omega) (by omega), gd_n, bd_n, bd_n, bd_n, bd_n, bd_n, shn_c (show SH (353 + 1) = (8, 8) from rfl), z _ (by omega), gd_n, bd_n, roomB_t (by omega) (by omega), gd_n, bd_n, bd_n, bd_n, bd_n, bd_n, shn_c (show SH (353 + 1 + 1) = (8, 8) from rfl), z _ (by omega), gd_n, bd_n, roomB_t (by omega) (by omega), gd_n, bd_n, bd_n, bd_n, bd_n, bd_n, shn_c (show SH (353 + 1 + 1 + 1) = (8, 256) from rfl), z _ (by omega), gd_n, bd_n, eqB_t rfl rfl, gd_n]
  · rw [gR_k (by decide), gR_zo (by omega), gR_k (by decide), gR_zo (by omega), gR_w]
  · rw [gR_k (by decide), gR_zo (by omega), gR_w]
  · rw [gR_w]
theorem x_i3 {μ : Mu} : ∃ μ', m_X3_init 357 (SHc 357) 357 μ = some (361, SHc 361, μ') ∧ P4 μ' ∧ same (fun b => b < 357 ∨ 362 ≤ b) μ μ' := by
  have z : ∀ N, 357 ≤ N → iz (SHc N) 3 357 = true := fun N hN => by rw [iz_c hN]; rfl
  refine ⟨sR (zr (sR (zr (sR (zr (sR (zr (sI μ 357 0 0) (357 + 1)) 357 1 (357 + 1)) (357 + 1 + 1)) 357 2 (357 + 1 + 1)) (357 + 1 + 1 + 1)) 357 3 (357 + 1 + 1 + 1)) (357 + 1 + 1 + 1 + 1)) 357 4 (357 + 1 + 1 + 1 + 1), ?_, ⟨?_, ?_, ?_, ?_⟩, ((((((((same.rf.wI (by omega)).wz (by omega)).wR (by omega)).wz (by omega)).wR (by omega)).wz (by omega)).wR (by omega)).wz (by omega)).wR (by omega)⟩
  · unfold m_X3_init
    rw [nn0_t (by omega), gd_n, z _ (by omega), gd_n, bd_n, roomB_t (by omega) (by omega), gd_n, bd_n, bd_n, bd_n, bd_n, bd_n, shn_c (show SH (357 + 1) = (8, 6) from rfl), z _ (by omega), gd_n, bd_n, roomB_t (by omega) (by omega), gd_n, bd_n, bd_n, bd_n, bd_n, bd_n, shn_c (show SH (357 + 1 + 1) = (8, 6) from rfl), z _ (by omega), gd_n, bd_n, roomB_t (by omega) (by omega), gd_n, bd_n, bd_n, bd_n, bd_n, bd_n, shn_c (show SH (357 + 1 + 1 + 1) = (8, 384) from rfl), z _ (by omega), gd_n, bd_n, roomB_t (by omega) (by omega), gd_n, bd_n, bd_n, bd_n, bd_n, bd_n, shn_c (show SH (357 + 1 + 1 + 1 + 1) = (8, 384) from rfl), z _ (by omega), gd_n, bd_n, eqB_t rfl rfl, gd_n]
  · rw [gR_k (by decide), gR_zo (by omega), gR_k (by decide), gR_zo (by omega), gR_k (by decide), gR_zo (by omega), gR_w]
  · rw [gR_k (by decide), gR_zo (by omega), gR_k (by decide), gR_zo (by omega), gR_w]
  · rw [gR_k (by decide), gR_zo (by omega), gR_w]
  · rw [gR_w]
def KI (i : Nat) (μ : Mu) : Prop := gR μ 1 6 = 351 ∧ (∀ j, j < i → gR μ 351 j = 362 + 26 * j) ∧ ∀ j, j < i → Sp μ (362 + 26 * j)
theorem sc362 : ∀ i, i < 2 → scB (362 + 26 * i) = true := by decide
theorem x_i6a {μ0 : Mu} : ∀ (d i F : Nat) (μ : Mu), i + d = 2 → d < F → KI i μ → same (fun b => b < 362 ∧ b ≠ 351 ∨ 414 ≤ b) μ0 μ → ∃ μ', m_X6_init_h100 1 F (nI i) (361 + 26 * i) (360 + 26 * i) (4319 + 245 * i) (SHc (361 + 26 * i)) μ = some (413, SHc 413, μ') ∧ KI 2 μ' ∧ same (fun b => b < 362 ∧ b ≠ 351 ∨ 414 ≤ b) μ0 μ' := by
  intro d
  induction d with
  | zero =>
    intro i F μ hi hF h hs
    obtain ⟨F, rfl⟩ : ∃ g, F = g + 1 := ⟨F - 1, by omega⟩
    have e : i = 2 := by omega
    subst e
    refine ⟨μ, ?_, h, hs⟩
    show m_X6_init_b100 (m_X6_init_h100 1 F) 1 (nI 2) (361 + 26 * 2) (360 + 26 * 2) (4319 + 245 * 2) (SHc (361 + 26 * 2)) μ = _
    unfold m_X6_init_b100
    rw [if_pos (by decide), eqB_t rfl rfl, gd_n]
  | succ d ih =>
    intro i F μ hi hF h hs
    obtain ⟨F, rfl⟩ : ∃ g, F = g + 1 := ⟨F - 1, by omega⟩
    show ∃ μ', m_X6_init_b100 (m_X6_init_h100 1 F) 1 (nI i) (361 + 26 * i) (360 + 26 * i) (4319 + 245 * i) (SHc (361 + 26 * i)) μ = _ ∧ _
    obtain ⟨p1, p4, p5⟩ := h
    have sc := sc362 i (by omega)
    have ea : 361 + 26 * i + 1 = 362 + 26 * i := by omega
    have t1 : SH (361 + 26 * i + 1) = (4, 10) := by rw [ea]; exact scB_sh (d := 0) sc (by decide)
    obtain ⟨μ1, e1, e2, e3, e4⟩ := x_i4 (μ := zr μ (361 + 26 * i + 1)) sc
    rw [← ea] at e1
    have z1 : iz (SHc (361 + 26 * i)) 6 1 = true := by rw [iz_c (by omega)]; rfl
    have z2 : ix (SHc (361 + 26 * i + 1 + 25)) 12 351 (nI i) = true := by rw [ix_c (by omega)]; exact ix_of (n := 2) rfl (by omega) (by decide)
    have z3 : iz (SHc (361 + 26 * i + 1 + 25)) 4 (361 + 26 * i + 1) = true := by rw [iz_c (by omega)]; exact iz_of t1
    have fr : same (fun b => b < 362 + 26 * i ∨ 362 + 26 * i + 26 ≤ b) μ μ1 := (same.rf.wz (a := 361 + 26 * i + 1) (by omega)).trans e4
    obtain ⟨μ', f1, f2⟩ := ih (i + 1) F (sR μ1 351 i (361 + 26 * i + 1)) (by omega) (by omega) ⟨by rw [gR_o (by decide), fr.R (by omega)]; exact p1, fun j hj => by
        by_cases e : j = i
        · rw [e, gR_w]; omega
        · rw [gR_k e, fr.R (by omega)]; exact p4 j (by omega), fun j hj => by
        have w : same (fun b => 362 ≤ b) μ1 (sR μ1 351 i (361 + 26 * i + 1)) := same_sR (by omega)
        by_cases e : j = i
        · rw [e]; exact e2.1.mono (w.mono (fun b hb => by omega))
        · exact (p5 j (by omega)).mono ((fr.mono (fun b hb => by omega)).trans (w.mono (fun b hb => by omega)))⟩ ((hs.trans (fr.mono (fun b hb => by omega))).wR (by omega))
    refine ⟨μ', ?_, f2⟩
    unfold m_X6_init_b100
    rw [if_neg (nleL 2 (by omega) (by decide)), z1, gd_n, bd_n, p1, roomB_t (by omega) (by omega), gd_n, bd_n, bd_n, bd_n, bd_n, bd_n, shn_c t1, nn0_t (by omega), gd_n, e1, ca3_n, roomB_t (by omega) (by omega), gd_n, eq1_t rfl, gd_n, bd_n, bd_n, z2, gd_n, z3, gd_n, bd_n, bd_n, nI_clamp (by omega), nI_1]
    rw [show 361 + 26 * (i + 1) = 361 + 26 * i + 1 + 25 by omega, show 360 + 26 * (i + 1) = 360 + 26 * i + 1 + 25 by omega, show 4319 + 245 * (i + 1) = 4319 + 245 * i + 10 + 235 by omega] at f1
    exact f1
def σ0 : Sg := (0, fun _ => 0, P0, (begP, 0), [], fun _ => none)
theorem good0 : Good σ0 0 := by
  refine ⟨by decide, fun i hi => absurd hi (by show ¬ i < 0; omega), ⟨by decide, by decide, by decide, fun b hb => absurd hb (by show ¬ b < 0; omega), fun p hp => absurd hp (by show ¬ p < 0; omega)⟩, GP.beg _ _, by decide, (fun g hg => by cases hg), (fun s g _ hg => by cases hg)⟩
/-- how a field of the object itself is set behind a constructor's call -/
theorem st1 {μ ν : Mu} {N x k : Nat} (hN : 2 ≤ N) (h : same (fun b => b < N) μ ν) : (∀ j, gR (sR ν 1 k x) 1 j = if j = k then x else gR μ 1 j) ∧ gI (sR ν 1 k x) 1 1 = gI μ 1 1 ∧ same (fun b => b < N ∧ b ≠ 1) μ (sR ν 1 k x) := by
  refine ⟨fun j => ?_, ?_, (h.mono (fun b hb => hb.1)).wR (by omega)⟩
  · rw [gR_sR, if_pos rfl, h.R (by omega)]
  · rw [gI_sR, h.I (by omega)]
theorem x_i6 {μ : Mu} : ∃ μ', m_X6_init 1 (SHc 1) 1 μ = some (413, SHc 413, μ') ∧ InvX μ' σ0 ∧ same (fun b => 414 ≤ b) μ μ' := by
  obtain ⟨m1, d1⟩ : ∃ m, m = sI (sR (zr μ 2) 1 0 2) 1 1 0 := ⟨_, rfl⟩
  have F1 : same (fun b => 414 ≤ b) μ m1 := by rw [d1]; exact ((same.rf.wz (by omega)).wR (by omega)).wI (by omega)
  have R1 : gR m1 1 0 = 2 := by rw [d1, gR_sI, gR_w]
  have I1 : gI m1 1 1 = 0 := by rw [d1, gI_w]
  obtain ⟨m2, e2, f2, g2⟩ := x_i2 (q := 3) (μ := zr m1 3) (Or.inl rfl)
  have s2 : same (fun b => b < 3) m1 m2 := (same.rf.wz (a := 3) (by omega)).trans (g2.mono (fun b hb => by omega))
  have F2 : same (fun b => 414 ≤ b) m1 m2 := (same.rf.wz (a := 3) (by omega)).trans (g2.mono (fun b hb => by omega))
  obtain ⟨R2, I2, T2⟩ := st1 (x := 3) (k := 2) (by omega) s2
  obtain ⟨n2, D2⟩ : ∃ n, n = sR m2 1 2 3 := ⟨_, rfl⟩
  have G2 : same (fun b => b ≠ 1) m2 n2 := by rw [D2]; exact same_sR (by omega)
  rw [← D2] at R2 I2 T2
  obtain ⟨m3, e3, f3, g3⟩ := x_i2 (q := 7) (μ := zr n2 7) (Or.inr rfl)
  have s3 : same (fun b => b < 7) n2 m3 := (same.rf.wz (a := 7) (by omega)).trans (g3.mono (fun b hb => by omega))
  have F3 : same (fun b => 414 ≤ b) n2 m3 := (same.rf.wz (a := 7) (by omega)).trans (g3.mono (fun b hb => by omega))
  obtain ⟨R3, I3, T3⟩ := st1 (x := 7) (k := 3) (by omega) s3
  obtain ⟨n3, D3⟩ : ∃ n, n = sR m3 1 3 7 := ⟨_, rfl⟩
  have G3 : same (fun b => b ≠ 1) m3 n3 := by rw [D3]; exact same_sR (by omega)
  rw [← D3] at R3 I3 T3
  obtain ⟨m4, e4, f4, j4, g4⟩ := x_i4 (a := 11) (μ := zr n3 11) (by decide)
  have s4 : same (fun b => b < 11) n3 m4 := (same.rf.wz (a := 11) (by omega)).trans (g4.mono (fun b hb => by omega))
  have F4 : same (fun b => 414 ≤ b) n3 m4 := (same.rf.wz (a := 11) (by omega)).trans (g4.mono (fun b hb => by omega))
  obtain ⟨R4, I4, T4⟩ := st1 (x := 11) (k := 4) (by omega) s4
  obtain ⟨n4, D4⟩ : ∃ n, n = sR m4 1 4 11 := ⟨_, rfl⟩
  have G4 : same (fun b => b ≠ 1) m4 n4 := by rw [D4]; exact same_sR (by omega)
  rw [← D4] at R4 I4 T4
  obtain ⟨m5, e5, f5, g5⟩ := x_i1 (μ := zr n4 37)
  have s5 : same (fun b => b < 37) n4 m5 := (same.rf.wz (a := 37) (by omega)).trans (g5.mono (fun b hb => by omega))
  have F5 : same (fun b => 414 ≤ b) n4 m5 := (same.rf.wz (a := 37) (by omega)).trans (g5.mono (fun b hb => by omega))
  obtain ⟨R5, I5, T5⟩ := st1 (x := 37) (k := 5) (by omega) s5
  obtain ⟨n5, D5⟩ : ∃ n, n = sR m5 1 5 37 := ⟨_, rfl⟩
  have G5 : same (fun b => b ≠ 1) m5 n5 := by rw [D5]; exact same_sR (by omega)
  rw [← D5] at R5 I5 T5
  have s6 : same (fun b => b < 351) n5 (zr n5 351) := same.rf.wz (by omega)
  obtain ⟨R6, I6, T6⟩ := st1 (x := 351) (k := 6) (by omega) s6
  obtain ⟨n6, D6⟩ : ∃ n, n = sR (zr n5 351) 1 6 351 := ⟨_, rfl⟩
  have F6 : same (fun b => 414 ≤ b) n5 n6 := by rw [D6]; exact (same.rf.wz (by omega)).wR (by omega)
  rw [← D6] at R6 I6 T6
  have s7 : same (fun b => b < 352) n6 (zr n6 352) := same.rf.wz (by omega)
  obtain ⟨R7, I7, T7⟩ := st1 (x := 352) (k := 7) (by omega) s7
  obtain ⟨n7, D7⟩ : ∃ n, n = sR (zr n6 352) 1 7 352 := ⟨_, rfl⟩
  have F7 : same (fun b => 414 ≤ b) n6 n7 := by rw [D7]; exact (same.rf.wz (by omega)).wR (by omega)
  have K7 : ∀ s, gI n7 352 s = 0 := fun s => by rw [D7, gI_sR, gI_zr, if_pos rfl]
  rw [← D7] at R7 I7 T7
  obtain ⟨m8, e8, f8, g8⟩ := x_i0 (μ := zr n7 353)
  have s8 : same (fun b => b < 353) n7 m8 := (same.rf.wz (a := 353) (by omega)).trans (g8.mono (fun b hb => by omega))
  have F8 : same (fun b => 414 ≤ b) n7 m8 := (same.rf.wz (a := 353) (by omega)).trans (g8.mono (fun b hb => by omega))
  obtain ⟨R8, I8, T8⟩ := st1 (x := 353) (k := 8) (by omega) s8
  obtain ⟨n8, D8⟩ : ∃ n, n = sR m8 1 8 353 := ⟨_, rfl⟩
  have G8 : same (fun b => b ≠ 1) m8 n8 := by rw [D8]; exact same_sR (by omega)
  rw [← D8] at R8 I8 T8
  obtain ⟨m9, e9, f9, g9⟩ := x_i3 (μ := zr n8 357)
  have s9 : same (fun b => b < 357) n8 m9 := (same.rf.wz (a := 357) (by omega)).trans (g9.mono (fun b hb => by omega))
  have F9 : same (fun b => 414 ≤ b) n8 m9 := (same.rf.wz (a := 357) (by omega)).trans (g9.mono (fun b hb => by omega))
  obtain ⟨R9, I9, T9⟩ := st1 (x := 357) (k := 9) (by omega) s9
  obtain ⟨n9, D9⟩ : ∃ n, n = sR m9 1 9 357 := ⟨_, rfl⟩
  have G9 : same (fun b => b ≠ 1) m9 n9 := by rw [D9]; exact same_sR (by omega)
  rw [← D9] at R9 I9 T9
  have q6 : gR n9 1 6 = 351 := by rw [R9, if_neg (by decide), R8, if_neg (by decide), R7, if_neg (by decide), R6, if_pos rfl]
  obtain ⟨mz, ez, fz, gz⟩ := x_i6a (μ0 := n9) 2 0 FU n9 (by omega) (by decide) ⟨q6, fun j hj => by omega, fun j hj => by omega⟩ same.rf
  rw [show nI 0 = (0 : Int32) from rfl] at ez
  have E9 : same (fun b => b < 362 ∧ b ≠ 351) n9 mz := gz.mono (fun b hb => Or.inl hb)
  have E8 : same (fun b => b < 357 ∧ b ≠ 1 ∧ b ≠ 351) n8 mz := (T9.mono (fun b hb => by omega)).trans (E9.mono (fun b hb => by omega))
  have E7 : same (fun b => b < 353 ∧ b ≠ 1 ∧ b ≠ 351) n7 mz := (T8.mono (fun b hb => by omega)).trans (E8.mono (fun b hb => by omega))
  have E6 : same (fun b => b < 352 ∧ b ≠ 1 ∧ b ≠ 351) n6 mz := (T7.mono (fun b hb => by omega)).trans (E7.mono (fun b hb => by omega))
  have E5 : same (fun b => b < 351 ∧ b ≠ 1) n5 mz := (T6.mono (fun b hb => by omega)).trans (E6.mono (fun b hb => by omega))
  have E4 : same (fun b => b < 37 ∧ b ≠ 1) n4 mz := (T5.mono (fun b hb => by omega)).trans (E5.mono (fun b hb => by omega))
  have E3 : same (fun b => b < 11 ∧ b ≠ 1) n3 mz := (T4.mono (fun b hb => by omega)).trans (E4.mono (fun b hb => by omega))
  have E2 : same (fun b => b < 7 ∧ b ≠ 1) n2 mz := (T3.mono (fun b hb => by omega)).trans (E3.mono (fun b hb => by omega))
  have A2 : same (fun b => b < 7 ∧ b ≠ 1) m2 mz := (G2.mono (fun b hb => by omega)).trans E2
  have A3 : same (fun b => b < 11 ∧ b ≠ 1) m3 mz := (G3.mono (fun b hb => by omega)).trans E3
  have A4 : same (fun b => b < 37 ∧ b ≠ 1) m4 mz := (G4.mono (fun b hb => by omega)).trans E4
  have A5 : same (fun b => b < 351 ∧ b ≠ 1) m5 mz := (G5.mono (fun b hb => by omega)).trans E5
  have A8 : same (fun b => b < 357 ∧ b ≠ 1 ∧ b ≠ 351) m8 mz := (G8.mono (fun b hb => by omega)).trans E8
  have A9 : same (fun b => b < 362 ∧ b ≠ 1 ∧ b ≠ 351) m9 mz := (G9.mono (fun b hb => by omega)).trans (E9.mono (fun b hb => by omega))
  have Z1 : ∀ j, gR mz 1 j = gR n9 1 j := fun j => E9.R (by omega) j
  have p0 : gR mz 1 0 = 2 := by rw [Z1, R9, if_neg (by decide), R8, if_neg (by decide), R7, if_neg (by decide), R6, if_neg (by decide), R5, if_neg (by decide), R4, if_neg (by decide), R3, if_neg (by decide), R2, if_neg (by decide), R1]
  have p2 : gR mz 1 2 = 3 := by rw [Z1, R9, if_neg (by decide), R8, if_neg (by decide), R7, if_neg (by decide), R6, if_neg (by decide), R5, if_neg (by decide), R4, if_neg (by decide), R3, if_neg (by decide), R2, if_pos rfl]
  have p3 : gR mz 1 3 = 7 := by rw [Z1, R9, if_neg (by decide), R8, if_neg (by decide), R7, if_neg (by decide), R6, if_neg (by decide), R5, if_neg (by decide), R4, if_neg (by decide), R3, if_pos rfl]
  have p4 : gR mz 1 4 = 11 := by rw [Z1, R9, if_neg (by decide), R8, if_neg (by decide), R7, if_neg (by decide), R6, if_neg (by decide), R5, if_neg (by decide), R4, if_pos rfl]
  have p5 : gR mz 1 5 = 37 := by rw [Z1, R9, if_neg (by decide), R8, if_neg (by decide), R7, if_neg (by decide), R6, if_neg (by decide), R5, if_pos rfl]
  have p6 : gR mz 1 6 = 351 := by rw [Z1]; exact q6
  have p7 : gR mz 1 7 = 352 := by rw [Z1, R9, if_neg (by decide), R8, if_neg (by decide), R7, if_pos rfl]
  have p8 : gR mz 1 8 = 353 := by rw [Z1, R9, if_neg (by decide), R8, if_pos rfl]
  have p9 : gR mz 1 9 = 357 := by rw [Z1, R9, if_pos rfl]
  have i1 : gI mz 1 1 = 0 := by rw [E9.I (by omega), I9, I8, I7, I6, I5, I4, I3, I2, I1]
  have pr3 : PR mz 3 P0 := f2.mono (A2.mono (fun b hb => by omega))
  have pr7 : PR mz 7 P0 := f3.mono (A3.mono (fun b hb => by omega))
  have sr : SR mz 11 begP := f4.mono (by decide) (A4.mono (fun b hb => by omega))
  obtain ⟨w1, w2, w3, w4, w5⟩ := f5
  refine ⟨mz, ?_, ⟨⟨p0, Or.inl ⟨p2, p3⟩, p4, p5, p6, p7, p8, p9, by rw [A5.R (by omega)]; exact w1, fun i hi => by rw [A5.R (by omega)]; exact w4 i hi, fz.2.1 0 (by omega), fz.2.1 1 (by omega), ⟨by rw [A8.R (by omega)]; exact f8.1, by rw [A8.R (by omega)]; exact f8.2.1, by rw [A8.R (by omega)]; exact f8.2.2⟩, ⟨by rw [A9.R (by omega)]; exact f9.1, by rw [A9.R (by omega)]; exact f9.2.1, by rw [A9.R (by omega)]; exact f9.2.2.1, by rw [A9.R (by omega)]; exact f9.2.2.2⟩, pr3.1, pr7.1, sr.1, fun i hi => (w5 i hi).mono (A5.mono (fun b hb => by omega)), fz.2.2 0 (by omega), fz.2.2 1 (by omega)⟩, i1, fun i hi => absurd hi (by show ¬ i < 0; omega), by rw [p2]; exact pr3, ⟨sr, by rw [A4.J (by omega)]; exact j4⟩, ⟨by rw [A5.I (by omega)]; exact w2, 0, by decide, by rw [A5.I (by omega)]; exact w3, fun i g hi => by cases hi⟩, fun s hs => ⟨fun _ => by rw [E7.I (by omega)]; exact K7 s, fun g hg => by cases hg⟩⟩, ?_⟩
  · have z : ∀ N, 1 ≤ N → iz (SHc N) 6 1 = true := fun N hN => by rw [iz_c hN]; rfl
    unfold m_X6_init
    rw [nn0_t (by omega), gd_n]
    rw [roomB_t (by omega) (by omega), gd_n, bd_n, bd_n, bd_n, bd_n, bd_n, shn_c (show SH (1 + 1) = (8, 24) from rfl), z _ (by omega), gd_n, bd_n, bd_n]
    rw [roomB_t (by omega) (by omega), gd_n, bd_n, bd_n, bd_n, bd_n, bd_n, shn_c (show SH (1 + 1 + 1) = (2, 6) from rfl), nn0_t (by omega), gd_n]
    rw [show m_X2_init (1 + 1 + 1) (SHc (1 + 1 + 1)) (1 + 1 + 1) (zr (sI (sR (zr μ (1 + 1)) 1 0 (1 + 1)) 1 1 0) (1 + 1 + 1)) = some (6, SHc 6, m2) from by rw [d1] at e2; exact e2, ca3_n]
    rw [roomB_t (by omega) (by omega), gd_n, eq1_t rfl, gd_n, bd_n, bd_n, z _ (by omega), gd_n, bd_n]
    rw [roomB_t (by omega) (by omega), gd_n, bd_n, bd_n, bd_n, bd_n, bd_n, shn_c (show SH (6 + 1) = (2, 6) from rfl), nn0_t (by omega), gd_n]
    rw [show m_X2_init (6 + 1) (SHc (6 + 1)) (6 + 1) (zr (sR m2 1 2 (1 + 1 + 1)) (6 + 1)) = some (10, SHc 10, m3) from by rw [D2] at e3; exact e3, ca3_n]
    rw [roomB_t (by omega) (by omega), gd_n, eq1_t rfl, gd_n, bd_n, bd_n, z _ (by omega), gd_n, bd_n]
    rw [roomB_t (by omega) (by omega), gd_n, bd_n, bd_n, bd_n, bd_n, bd_n, shn_c (show SH (10 + 1) = (4, 10) from rfl), nn0_t (by omega), gd_n]
    rw [show m_X4_init (10 + 1) (SHc (10 + 1)) (10 + 1) (zr (sR m3 1 3 (6 + 1)) (10 + 1)) = some (36, SHc 36, m4) from by rw [D3] at e4; exact e4, ca3_n]
    rw [roomB_t (by omega) (by omega), gd_n, eq1_t rfl, gd_n, bd_n, bd_n, z _ (by omega), gd_n, bd_n]
    rw [roomB_t (by omega) (by omega), gd_n, bd_n, bd_n, bd_n, bd_n, bd_n, shn_c (show SH (36 + 1) = (1, 3) from rfl), nn0_t (by omega), gd_n]
    rw [show m_X1_init (36 + 1) (SHc (36 + 1)) (36 + 1) (zr (sR m4 1 4 (10 + 1)) (36 + 1)) = some (350, SHc 350, m5) from by rw [D4] at e5; exact e5, ca3_n]
    rw [roomB_t (by omega) (by omega), gd_n, eq1_t rfl, gd_n, bd_n, bd_n, z _ (by omega), gd_n, bd_n]
    rw [roomB_t (by omega) (by omega), gd_n, bd_n, bd_n, bd_n, bd_n, bd_n, shn_c (show SH (350 + 1) = (12, 2) from rfl), z _ (by omega), gd_n, bd_n]
    rw [roomB_t (by omega) (by omega), gd_n, bd_n, bd_n, bd_n, bd_n, bd_n, shn_c (show SH (350 + 1 + 1) = (10, 2) from rfl), z _ (by omega), gd_n, bd_n]
    rw [roomB_t (by omega) (by omega), gd_n, bd_n, bd_n, bd_n, bd_n, bd_n, shn_c (show SH (350 + 1 + 1 + 1) = (0, 4) from rfl), nn0_t (by omega), gd_n]
    rw [show m_X0_init (350 + 1 + 1 + 1) (SHc (350 + 1 + 1 + 1)) (350 + 1 + 1 + 1) (zr (sR (zr (sR (zr (sR m5 1 5 (36 + 1)) (350 + 1)) 1 6 (350 + 1)) (350 + 1 + 1)) 1 7 (350 + 1 + 1)) (350 + 1 + 1 + 1)) = some (356, SHc 356, m8) from by rw [D7, D6, D5] at e8; exact e8, ca3_n]
    rw [roomB_t (by omega) (by omega), gd_n, eq1_t rfl, gd_n, bd_n, bd_n, z _ (by omega), gd_n, bd_n]
    rw [roomB_t (by omega) (by omega), gd_n, bd_n, bd_n, bd_n, bd_n, bd_n, shn_c (show SH (356 + 1) = (3, 5) from rfl), nn0_t (by omega), gd_n]
    rw [show m_X3_init (356 + 1) (SHc (356 + 1)) (356 + 1) (zr (sR m8 1 8 (350 + 1 + 1 + 1)) (356 + 1)) = some (361, SHc 361, m9) from by rw [D8] at e9; exact e9, ca3_n]
    rw [roomB_t (by omega) (by omega), gd_n, eq1_t rfl, gd_n, bd_n, bd_n, z _ (by omega), gd_n, bd_n]
    rw [D9] at ez
    exact ez
  · exact F1.trans (F2.trans ((G2.mono (fun b hb => by omega)).trans (F3.trans ((G3.mono (fun b hb => by omega)).trans (F4.trans ((G4.mono (fun b hb => by omega)).trans (F5.trans ((G5.mono (fun b hb => by omega)).trans (F6.trans (F7.trans (F8.trans ((G8.mono (fun b hb => by omega)).trans (F9.trans ((G9.mono (fun b hb => by omega)).trans (gz.mono (fun b hb => Or.inr hb))))))))))))))))

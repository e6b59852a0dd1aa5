/-! a scene, made -/
theorem st46_cg {a N : Nat} (hN : a + 25 ≤ N) : ∀ (d i F : Nat) (μ : Mu), i + d = 5 → d < F → Sp μ a → m_X4_startAnew_h46 (SHc N) a F (nI i) μ = m_X4_startAnew_h46 SH a F (nI i) μ := by
  intro d
  induction d with
  | zero =>
    intro i F μ hi hF h
    obtain ⟨F, rfl⟩ : ∃ g, F = g + 1 := ⟨F - 1, by omega⟩
    have e : i = 5 := by omega
    subst e
    show m_X4_startAnew_b46 (SHc N) (m_X4_startAnew_h46 (SHc N) a F) a (nI 5) μ = m_X4_startAnew_b46 SH (m_X4_startAnew_h46 SH a F) a (nI 5) μ
    unfold m_X4_startAnew_b46
    rw [if_pos (by decide), if_pos (by decide)]
  | succ d ih =>
    intro i F μ hi hF h
    obtain ⟨F, rfl⟩ : ∃ g, F = g + 1 := ⟨F - 1, by omega⟩
    show m_X4_startAnew_b46 (SHc N) (m_X4_startAnew_h46 (SHc N) a F) a (nI i) μ = m_X4_startAnew_b46 SH (m_X4_startAnew_h46 SH a F) a (nI i) μ
    have u1 : ((5 : Int32) ≤ nI i) = False := eq_false (nleL 5 (by omega) (by decide))
    simp only [bd_n, gd_n, ca2_n, ca_n, nbtF, pbfT, Bool.not_true, Bool.not_false, if_true, if_false, m_X4_startAnew_b46, u1, h.2.2.2.1, h.2.2.2.2.1, h.2.2.2.2.2.1, gR_sI, iz_c (ci := 4) (show a ≤ N by omega), ix_c (kd := 8) (i := nI i) (show a + 3 ≤ N by omega), ix_c (kd := 8) (i := nI i) (show a + 4 ≤ N by omega), ix_c (kd := 8) (i := nI i) (show a + 5 ≤ N by omega), show nI i + 1 = nI (i + 1) from nI_add _ 1]
    rw [ih (i + 1) F]
    · omega
    · omega
    · exact h.cps (fun x k => rfl)
theorem st23_cg {a N : Nat} (hN : a + 25 ≤ N) : ∀ (d i F : Nat) (μ : Mu), i + d = 2 → d < F → Sp μ a → m_X4_startAnew_h23 (SHc N) a F (nI i) μ = m_X4_startAnew_h23 SH a F (nI i) μ := by
  intro d
  induction d with
  | zero =>
    intro i F μ hi hF h
    obtain ⟨F, rfl⟩ : ∃ g, F = g + 1 := ⟨F - 1, by omega⟩
    have e : i = 2 := by omega
    subst e
    show m_X4_startAnew_b23 (SHc N) (m_X4_startAnew_h23 (SHc N) a F) a (nI 2) μ = m_X4_startAnew_b23 SH (m_X4_startAnew_h23 SH a F) a (nI 2) μ
    unfold m_X4_startAnew_b23 m_X4_startAnew_b44
    rw [if_pos (by decide), if_pos (by decide)]
    have q := st46_cg hN 5 0 FU μ (by omega) (by decide) h
    rw [show nI 0 = (0 : Int32) from rfl] at q
    exact q
  | succ d ih =>
    intro i F μ hi hF h
    obtain ⟨F, rfl⟩ : ∃ g, F = g + 1 := ⟨F - 1, by omega⟩
    show m_X4_startAnew_b23 (SHc N) (m_X4_startAnew_h23 (SHc N) a F) a (nI i) μ = m_X4_startAnew_b23 SH (m_X4_startAnew_h23 SH a F) a (nI i) μ
    have u1 : ((2 : Int32) ≤ nI i) = False := eq_false (nleL 2 (by omega) (by decide))
    simp only [bd_n, gd_n, ca2_n, ca_n, nbtF, pbfT, Bool.not_true, Bool.not_false, if_true, if_false, m_X4_startAnew_b23, u1, h.2.2.1, iz_c (ci := 4) (show a ≤ N by omega), ix_c (kd := 11) (i := nI i) (show a + 2 ≤ N by omega), nI_clamp (show i < 2 ^ 31 by omega), h.2.2.2.2.2.2.1 i (by omega), iz_c (ci := 5) (show a + 22 + 2 * i ≤ N by omega), (h.tpb (b := i) (by omega)).iz, m_X5_begin, show nI i + 1 = nI (i + 1) from nI_add _ 1]
    rw [ih (i + 1) F]
    · omega
    · omega
    · exact h.cps (fun x k => rfl)
theorem st_cg {a N : Nat} {μ : Mu} (hN : a + 25 ≤ N) (h : Sp μ a) : m_X4_startAnew (SHc N) a μ = m_X4_startAnew SH a μ := by
  have q := st23_cg hN 2 0 FU (sI (sI (sI (sI μ a 1 0) a 2 0) a 3 (-9)) a 4 0) (by omega) (by decide) (h.cps (fun x k => rfl))
  rw [show nI 0 = (0 : Int32) from rfl] at q
  simp only [bd_n, gd_n, ca2_n, ca_n, nbtF, pbfT, Bool.not_true, Bool.not_false, if_true, if_false, m_X4_startAnew, iz_c (ci := 4) (show a ≤ N by omega)]
  rw [q]
theorem x_i4 {a : Nat} {μ : Mu} (ha : scB a = true) : ∃ μ', m_X4_init a (SHc a) a μ = some (a + 25, SHc (a + 25), μ') ∧ SR μ' a begP ∧ gJ μ' a 0 = 0 ∧ same (fun b => b < a ∨ a + 26 ≤ b) μ μ' := by
  have al := scB_le ha
  have h0 : SH a = (4, 10) := scB_sh (d := 0) ha (by decide)
  have h1 : SH (a + 1) = (11, 8) := by rw [scB_sh ha (by decide)]; rfl
  have h2 : SH (a + 1 + 1) = (11, 2) := by rw [show a + 1 + 1 = a + 2 by omega, scB_sh ha (by decide)]; rfl
  have h3 : SH (a + 1 + 1 + 1) = (8, 5) := by rw [show a + 1 + 1 + 1 = a + 3 by omega, scB_sh ha (by decide)]; rfl
  have h4 : SH (a + 1 + 1 + 1 + 1) = (8, 5) := by rw [show a + 1 + 1 + 1 + 1 = a + 4 by omega, scB_sh ha (by decide)]; rfl
  have h5 : SH (a + 1 + 1 + 1 + 1 + 1) = (8, 5) := by rw [show a + 1 + 1 + 1 + 1 + 1 = a + 5 by omega, scB_sh ha (by decide)]; rfl
  have z : ∀ N, a ≤ N → iz (SHc N) 4 a = true := fun N hN => by rw [iz_c hN]; exact iz_of h0
  obtain ⟨ν, hν⟩ : ∃ ν, ν = sR (zr (sR (zr (sR (zr (sR (zr (sR (zr (sI (sI (sI (sI (sJ μ a 0 0) a 1 0) a 2 0) a 3 (-9)) a 4 0) (a + 1)) a 5 (a + 1)) (a + 1 + 1)) a 6 (a + 1 + 1)) (a + 1 + 1 + 1)) a 7 (a + 1 + 1 + 1)) (a + 1 + 1 + 1 + 1)) a 8 (a + 1 + 1 + 1 + 1)) (a + 1 + 1 + 1 + 1 + 1)) a 9 (a + 1 + 1 + 1 + 1 + 1) := ⟨_, rfl⟩
  have si : SI a 0 ν := by
    rw [hν]
    refine ⟨⟨?_, ?_, ?_, ?_, ?_⟩, fun j hj => by omega, fun j hj => by omega, fun j hj => by omega, ?_⟩
    · rw [gR_k (by decide), gR_zo (by omega), gR_k (by decide), gR_zo (by omega), gR_k (by decide), gR_zo (by omega), gR_k (by decide), gR_zo (by omega), gR_w]
    · rw [gR_k (by decide), gR_zo (by omega), gR_k (by decide), gR_zo (by omega), gR_k (by decide), gR_zo (by omega), gR_w]
    · rw [gR_k (by decide), gR_zo (by omega), gR_k (by decide), gR_zo (by omega), gR_w]
    · rw [gR_k (by decide), gR_zo (by omega), gR_w]
    · rw [gR_w]
    · rw [gJ_sR, gJ_zr, if_neg (by omega), gJ_sR, gJ_zr, if_neg (by omega), gJ_sR, gJ_zr, if_neg (by omega), gJ_sR, gJ_zr, if_neg (by omega), gJ_sR, gJ_zr, if_neg (by omega), gJ_sI, gJ_sI, gJ_sI, gJ_sI, gJ_sJ, if_pos rfl, if_pos rfl]
  have fr : same (fun b => b < a ∨ a + 26 ≤ b) μ ν := by
    rw [hν]
    exact ((((((((((((((same.rf.wJ (by omega)).wI (by omega)).wI (by omega)).wI (by omega)).wI (by omega)).wz (by omega)).wR (by omega)).wz (by omega)).wR (by omega)).wz (by omega)).wR (by omega)).wz (by omega)).wR (by omega)).wz (by omega)).wR (by omega)
  obtain ⟨μ1, e1, e2, e3⟩ := x_i4a ha 8 0 FU ν (by omega) (by decide) si fr
  obtain ⟨μ2, e4, e5, e6⟩ := x_i4b ha 2 0 FU μ1 (by omega) (by decide) e2 e3
  have sp := e5.sp ha
  obtain ⟨μ3, e7, e8, e9, e10, e11⟩ := x_start sp
  rw [show nI 0 = (0 : Int32) from rfl] at e1 e4
  refine ⟨μ3, ?_, e8, by rw [e10]; exact e5.2.2.2.2, e6.trans (fun b hb => ⟨fun k => e11 b k hb, fun k => e10 b k, fun k => e9 b k⟩)⟩
  unfold m_X4_init
  rw [nn0_t (by omega), gd_n, z a (Nat.le_refl a), gd_n, bd_n, bd_n, bd_n, bd_n, bd_n, roomB_t (by omega) (by omega), gd_n, bd_n, bd_n, bd_n, bd_n, bd_n, shn_c h1, z _ (by omega), gd_n, bd_n, roomB_t (by omega) (by omega), gd_n, bd_n, bd_n, bd_n, bd_n, bd_n, shn_c h2, z _ (by omega), gd_n, bd_n, roomB_t (by omega) (by omega), gd_n, bd_n, bd_n, bd_n, bd_n, bd_n, shn_c h3, z _ (by omega), gd_n, bd_n, roomB_t (by omega) (by omega), gd_n, bd_n, bd_n, bd_n, bd_n, bd_n, shn_c h4, z _ (by omega), gd_n, bd_n, roomB_t (by omega) (by omega), gd_n, bd_n, bd_n, bd_n, bd_n, bd_n, shn_c h5, z _ (by omega), gd_n, bd_n, ← hν]
  have e1' : m_X4_init_h70 a FU 0 (a + 1 + 1 + 1 + 1 + 1) (0 + 1 + 1 + 1 + 1 + 1) (0 + 8 + 2 + 5 + 5 + 5) (SHc (a + 1 + 1 + 1 + 1 + 1)) ν = m_X4_init_b95 a (a + 21) 21 193 (SHc (a + 21)) μ1 := e1
  have e4' : m_X4_init_h97 a FU 0 (a + 21) 21 193 (SHc (a + 21)) μ1 = m_X4_init_b121 a (a + 25) 25 235 (SHc (a + 25)) μ2 := e4
  rw [e1']
  unfold m_X4_init_b95
  rw [e4']
  unfold m_X4_init_b121
  rw [z _ (by omega), gd_n, st_cg (Nat.le_refl _) sp, e7, ca_n, roomB_t (by omega) (by omega), gd_n, eqB_t rfl rfl, gd_n]
/-- twelve scenes behind -/
def PI (i : Nat) (μ : Mu) : Prop := gR μ 37 2 = 38 ∧ gI μ 37 0 = 0 ∧ gI μ 37 1 = 0 ∧ (∀ j, j < i → gR μ 38 j = 39 + 26 * j) ∧ ∀ j, j < i → Sp μ (39 + 26 * j)
theorem sc39 : ∀ i, i < 12 → scB (39 + 26 * i) = true := by decide
theorem x_i1a {μ0 : Mu} : ∀ (d i F : Nat) (μ : Mu), i + d = 12 → d < F → PI i μ → same (fun b => b < 37 ∨ 351 ≤ b) μ0 μ → ∃ μ', m_X1_init_h25 37 F (nI i) (38 + 26 * i) (1 + 26 * i) (12 + 245 * i) (SHc (38 + 26 * i)) μ = some (350, SHc 350, μ') ∧ PI 12 μ' ∧ same (fun b => b < 37 ∨ 351 ≤ b) μ0 μ' := by
  intro d
  induction d with
  | zero =>
    intro i F μ hi hF h hs
    obtain ⟨F, rfl⟩ : ∃ g, F = g + 1 := ⟨F - 1, by omega⟩
    have e : i = 12 := by omega
    subst e
    refine ⟨μ, ?_, h, hs⟩
    show m_X1_init_b25 (m_X1_init_h25 37 F) 37 (nI 12) (38 + 26 * 12) (1 + 26 * 12) (12 + 245 * 12) (SHc (38 + 26 * 12)) μ = _
    unfold m_X1_init_b25
    rw [if_pos (by decide), eqB_t rfl rfl, gd_n]
  | succ d ih =>
    intro i F μ hi hF h hs
    obtain ⟨F, rfl⟩ : ∃ g, F = g + 1 := ⟨F - 1, by omega⟩
    show ∃ μ', m_X1_init_b25 (m_X1_init_h25 37 F) 37 (nI i) (38 + 26 * i) (1 + 26 * i) (12 + 245 * i) (SHc (38 + 26 * i)) μ = _ ∧ _
    obtain ⟨p1, p2, p3, p4, p5⟩ := h
    have sc := sc39 i (by omega)
    have ea : 38 + 26 * i + 1 = 39 + 26 * i := by omega
    have t1 : SH (38 + 26 * i + 1) = (4, 10) := by rw [ea]; exact scB_sh (d := 0) sc (by decide)
    obtain ⟨μ1, e1, e2, e3, e4⟩ := x_i4 (μ := zr μ (38 + 26 * i + 1)) sc
    rw [← ea] at e1
    have z1 : iz (SHc (38 + 26 * i)) 1 37 = true := by rw [iz_c (by omega)]; rfl
    have z2 : ix (SHc (38 + 26 * i + 1 + 25)) 12 38 (nI i) = true := by rw [ix_c (by omega)]; exact ix_of (n := 12) rfl (by omega) (by decide)
    have z3 : iz (SHc (38 + 26 * i + 1 + 25)) 4 (38 + 26 * i + 1) = true := by rw [iz_c (by omega)]; exact iz_of t1
    have fr : same (fun b => b < 39 + 26 * i ∨ 39 + 26 * i + 26 ≤ b) μ μ1 := (same.rf.wz (a := 38 + 26 * i + 1) (by omega)).trans e4
    obtain ⟨μ', f1, f2⟩ := ih (i + 1) F (sR μ1 38 i (38 + 26 * i + 1)) (by omega) (by omega) ⟨by rw [gR_o (by decide), fr.R (by omega)]; exact p1, by rw [gI_sR, fr.I (by omega)]; exact p2, by rw [gI_sR, fr.I (by omega)]; exact p3, fun j hj => by
        by_cases e : j = i
        · rw [e, gR_w]; omega
        · rw [gR_k e, fr.R (by omega)]; exact p4 j (by omega), fun j hj => by
        have w : same (fun b => 39 ≤ b) μ1 (sR μ1 38 i (38 + 26 * i + 1)) := same_sR (by omega)
        by_cases e : j = i
        · rw [e]; exact e2.1.mono (w.mono (fun b hb => by omega))
        · exact (p5 j (by omega)).mono ((fr.mono (fun b hb => by omega)).trans (w.mono (fun b hb => by omega)))⟩ ((hs.trans (fr.mono (fun b hb => by omega))).wR (by omega))
    refine ⟨μ', ?_, f2⟩
    unfold m_X1_init_b25
    rw [if_neg (nleL 12 (by omega) (by decide)), z1, gd_n, bd_n, p1, roomB_t (by omega) (by omega), gd_n, bd_n, bd_n, bd_n, bd_n, bd_n, shn_c t1, nn0_t (by omega), gd_n, e1, ca3_n, roomB_t (by omega) (by omega), gd_n, eq1_t rfl, gd_n, bd_n, bd_n, z2, gd_n, z3, gd_n, bd_n, bd_n, nI_clamp (by omega), nI_1]
    rw [show 38 + 26 * (i + 1) = 38 + 26 * i + 1 + 25 by omega, show 1 + 26 * (i + 1) = 1 + 26 * i + 1 + 25 by omega, show 12 + 245 * (i + 1) = 12 + 245 * i + 10 + 235 by omega] at f1
    exact f1
theorem x_i1 {μ : Mu} : ∃ μ', m_X1_init 37 (SHc 37) 37 μ = some (350, SHc 350, μ') ∧ PI 12 μ' ∧ same (fun b => b < 37 ∨ 351 ≤ b) μ μ' := by
  have z1 : iz (SHc 37) 1 37 = true := by rw [iz_c (by omega)]; rfl
  have z2 : iz (SHc (37 + 1)) 1 37 = true := by rw [iz_c (by omega)]; rfl
  obtain ⟨μ', e1, e2, e3⟩ := x_i1a (μ0 := μ) 12 0 FU (sR (zr (sI (sI μ 37 0 0) 37 1 0) (37 + 1)) 37 2 (37 + 1)) (by omega) (by decide) ⟨gR_w, by rw [gI_sR, gI_zr, if_neg (by decide), gI_k (by decide), gI_w], by rw [gI_sR, gI_zr, if_neg (by decide), gI_w], fun j hj => by omega, fun j hj => by omega⟩ ((((same.rf.wI (by omega)).wI (by omega)).wz (by omega)).wR (by omega))
  rw [show nI 0 = (0 : Int32) from rfl] at e1
  refine ⟨μ', ?_, e2, e3⟩
  unfold m_X1_init
  rw [nn0_t (by omega), gd_n, z1, gd_n, bd_n, bd_n, roomB_t (by omega) (by omega), gd_n, bd_n, bd_n, bd_n, bd_n, bd_n, shn_c (show SH (37 + 1) = (12, 12) from rfl), z2, gd_n, bd_n]
  exact e1

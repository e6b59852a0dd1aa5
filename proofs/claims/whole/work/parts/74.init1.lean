/-! the beginning: what the constructors make -/
def SHc (N : Nat) : Sh := fun b => if b ≤ N then SH b else (99, 0)
theorem SHc_le {N b : Nat} (h : b ≤ N) : SHc N b = SH b := if_pos h
theorem shn_c {N kd len : Nat} (h : SH (N + 1) = (kd, len)) : shn (SHc N) (N + 1) kd len = SHc (N + 1) := by
  funext b
  show (if b = N + 1 then (kd, len) else if b ≤ N then SH b else (99, 0)) = if b ≤ N + 1 then SH b else (99, 0)
  by_cases e : b = N + 1
  · rw [if_pos e, if_pos (by omega), e, h]
  · rw [if_neg e]
    by_cases l : b ≤ N
    · rw [if_pos l, if_pos (by omega)]
    · rw [if_neg l, if_neg (by omega)]
theorem iz_c {N ci v : Nat} (h : v ≤ N) : iz (SHc N) ci v = iz SH ci v := by
  unfold iz
  rw [SHc_le h]
theorem ix_c {N kd v : Nat} {i : Int32} (h : v ≤ N) : ix (SHc N) kd v i = ix SH kd v i := by
  unfold ix
  rw [SHc_le h]
theorem ca3_n {β : Type} {n : Nat} {s : Sh} {m : Mu} {f : Nat → Sh → Mu → Option β} : ca3 (some (n, s, m)) f = f n s m := congrArg (fun x => x) (show ca3 (some (n, s, m)) f = f n s m from rfl)
theorem roomB_t {a b c d : Nat} (h1 : a ≤ b) (h2 : c ≤ d) : roomB a b c d = true := by
  unfold roomB
  rw [decide_eq_true h1, decide_eq_true h2]
  rfl
theorem eqB_t {a b c d : Nat} (h1 : a = b) (h2 : c = d) : eqB a b c d = true := by
  unfold eqB
  rw [decide_eq_true h1, decide_eq_true h2]
  rfl
theorem eq1_t {a b : Nat} (h : a = b) : eq1 a b = true := decide_eq_true h
theorem nn0_t {a : Nat} (h : a ≠ 0) : nn0 a = true := decide_eq_true h
theorem same.wI {P : Nat → Prop} {μ ν : Mu} {a k : Nat} {v : Int32} (h : same P μ ν) (ha : ¬ P a) : same P μ (sI ν a k v) := h.trans (same_sI ha)
theorem same.wJ {P : Nat → Prop} {μ ν : Mu} {a k : Nat} {v : Int64} (h : same P μ ν) (ha : ¬ P a) : same P μ (sJ ν a k v) := h.trans (same_sJ ha)
theorem same.wR {P : Nat → Prop} {μ ν : Mu} {a k : Nat} {v : Nat} (h : same P μ ν) (ha : ¬ P a) : same P μ (sR ν a k v) := h.trans (same_sR ha)
theorem same.wz {P : Nat → Prop} {μ ν : Mu} {a : Nat} (h : same P μ ν) (ha : ¬ P a) : same P μ (zr ν a) := h.trans (fun b hb => ⟨fun j => by rw [gI_zr, if_neg (fun e : b = a => ha (e ▸ hb))], fun j => by rw [gJ_zr, if_neg (fun e : b = a => ha (e ▸ hb))], fun j => by rw [gR_zr, if_neg (fun e : b = a => ha (e ▸ hb))]⟩)
theorem gR_w {μ : Mu} {a k v : Nat} : gR (sR μ a k v) a k = v := by rw [gR_sR, if_pos rfl, if_pos rfl]
theorem gR_k {μ : Mu} {a k j v : Nat} (h : j ≠ k) : gR (sR μ a k v) a j = gR μ a j := by rw [gR_sR, if_pos rfl, if_neg h]
theorem gR_o {μ : Mu} {a b k j v : Nat} (h : b ≠ a) : gR (sR μ a k v) b j = gR μ b j := by rw [gR_sR, if_neg h]
theorem gR_zo {μ : Mu} {a b j : Nat} (h : b ≠ a) : gR (zr μ a) b j = gR μ b j := by rw [gR_zr, if_neg h]
theorem gR_zz {μ : Mu} {a j : Nat} : gR (zr μ a) a j = 0 := by rw [gR_zr, if_pos rfl]
/-- a strip -/
theorem x_i5 {t : Nat} {μ : Mu} (h0 : t ≠ 0) (h1 : SH t = (5, 5)) (h2 : SH (t + 1) = (8, 16)) : ∃ μ', m_X5_init t (SHc t) t μ = some (t + 1, SHc (t + 1), μ') ∧ gR μ' t 4 = t + 1 ∧ same (fun b => b ≠ t ∧ b ≠ t + 1) μ μ' := by
  have z1 : iz (SHc t) 5 t = true := by rw [iz_c (Nat.le_refl t)]; exact iz_of h1
  have z2 : iz (SHc (t + 1)) 5 t = true := by rw [iz_c (by omega)]; exact iz_of h1
  refine ⟨sR (zr (sI (sI (sI (sI μ t 0 0) t 1 0) t 2 0) t 3 0) (t + 1)) t 4 (t + 1), ?_, gR_w, ((((((same.rf.wI (by omega)).wI (by omega)).wI (by omega)).wI (by omega)).wz (by omega)).wR (by omega))⟩
  unfold m_X5_init
  rw [nn0_t h0, gd_n, z1, gd_n, bd_n, bd_n, bd_n, bd_n, roomB_t (by omega) (by omega), gd_n, bd_n, bd_n, bd_n, bd_n, bd_n, shn_c h2, z2, gd_n, bd_n, eqB_t (by omega) (by omega), gd_n]
/-- a scene as far as it is made -/
def SI (a i : Nat) (μ : Mu) : Prop := (gR μ a 5 = a + 1 ∧ gR μ a 6 = a + 2 ∧ gR μ a 7 = a + 3 ∧ gR μ a 8 = a + 4 ∧ gR μ a 9 = a + 5) ∧ (∀ j, j < i → gR μ (a + 6 + 2 * j) 4 = a + 7 + 2 * j) ∧ (∀ j, j < i → j < 8 → gR μ (a + 1) j = a + 6 + 2 * j) ∧ (∀ j, j + 8 < i → gR μ (a + 2) j = a + 22 + 2 * j) ∧ gJ μ a 0 = 0
theorem SI.nx {a i : Nat} {μ μ' : Mu} (h : SI a i μ) (hs : same (fun b => b ≠ a + 6 + 2 * i ∧ b ≠ a + 6 + 2 * i + 1) μ μ') (h4 : gR μ' (a + 6 + 2 * i) 4 = a + 7 + 2 * i) : SI a (i + 1) (sR μ' (if i < 8 then a + 1 else a + 2) (if i < 8 then i else i - 8) (a + 6 + 2 * i)) := by
  obtain ⟨⟨k5, k6, k7, k8, k9⟩, s1, s2, s3, j0⟩ := h
  have T : ∀ k, gR μ' a k = gR μ a k := fun k => hs.R (by omega) k
  have T1 : ∀ k, gR μ' (a + 1) k = gR μ (a + 1) k := fun k => hs.R (by omega) k
  have T2 : ∀ k, gR μ' (a + 2) k = gR μ (a + 2) k := fun k => hs.R (by omega) k
  by_cases hi : i < 8
  · rw [if_pos hi, if_pos hi]
    refine ⟨⟨?_, ?_, ?_, ?_, ?_⟩, fun j hj => ?_, fun j hj h8 => ?_, fun j hj => by omega, ?_⟩
    · rw [gR_o (by omega), T]; exact k5
    · rw [gR_o (by omega), T]; exact k6
    · rw [gR_o (by omega), T]; exact k7
    · rw [gR_o (by omega), T]; exact k8
    · rw [gR_o (by omega), T]; exact k9
    · rw [gR_o (by omega)]
      by_cases e : j = i
      · rw [e]; exact h4
      · rw [hs.R (by omega)]; exact s1 j (by omega)
    · by_cases e : j = i
      · rw [e, gR_w]
      · rw [gR_k e, T1]; exact s2 j (by omega) h8
    · show gJ μ' a 0 = 0
      rw [hs.J (by omega)]; exact j0
  · rw [if_neg hi, if_neg hi]
    refine ⟨⟨?_, ?_, ?_, ?_, ?_⟩, fun j hj => ?_, fun j hj h8 => ?_, fun j hj => ?_, ?_⟩
    · rw [gR_o (by omega), T]; exact k5
    · rw [gR_o (by omega), T]; exact k6
    · rw [gR_o (by omega), T]; exact k7
    · rw [gR_o (by omega), T]; exact k8
    · rw [gR_o (by omega), T]; exact k9
    · rw [gR_o (by omega)]
      by_cases e : j = i
      · rw [e]; exact h4
      · rw [hs.R (by omega)]; exact s1 j (by omega)
    · rw [gR_o (by omega), T1]; exact s2 j (by omega) h8
    · by_cases e : j = i - 8
      · rw [e, gR_w]; omega
      · rw [gR_k e, T2]; exact s3 j (by omega)
    · show gJ μ' a 0 = 0
      rw [hs.J (by omega)]; exact j0
theorem SI.z {a i : Nat} {μ : Mu} {t : Nat} (h : SI a i μ) (ht : t = a + 6 + 2 * i) : SI a i (zr μ t) := by
  obtain ⟨⟨k5, k6, k7, k8, k9⟩, s1, s2, s3, j0⟩ := h
  refine ⟨⟨?_, ?_, ?_, ?_, ?_⟩, fun j hj => ?_, fun j hj h8 => ?_, fun j hj => ?_, ?_⟩
  · rw [gR_zo (by omega)]; exact k5
  · rw [gR_zo (by omega)]; exact k6
  · rw [gR_zo (by omega)]; exact k7
  · rw [gR_zo (by omega)]; exact k8
  · rw [gR_zo (by omega)]; exact k9
  · rw [gR_zo (by omega)]; exact s1 j hj
  · rw [gR_zo (by omega)]; exact s2 j hj h8
  · rw [gR_zo (by omega)]; exact s3 j hj
  · rw [gJ_zr, if_neg (by omega)]; exact j0
theorem SI.sp {a : Nat} {μ : Mu} (h : SI a 10 μ) (ha : scB a = true) : Sp μ a := by
  obtain ⟨⟨k5, k6, k7, k8, k9⟩, s1, s2, s3, _⟩ := h
  refine ⟨ha, k5, k6, k7, k8, k9, fun i hi => s3 i (by omega), fun i hi => ⟨i, hi, s2 i (by omega) hi⟩, fun i j hi hj e => ?_, fun j hj => s1 j hj⟩
  rw [s2 i (by omega) hi, s2 j (by omega) hj] at e
  omega
theorem x_i4a {a : Nat} {μ0 : Mu} (ha : scB a = true) : ∀ (d i F : Nat) (μ : Mu), i + d = 8 → d < F → SI a i μ → same (fun b => b < a ∨ a + 26 ≤ b) μ0 μ → ∃ μ', m_X4_init_h70 a F (nI i) (a + 5 + 2 * i) (5 + 2 * i) (25 + 21 * i) (SHc (a + 5 + 2 * i)) μ = m_X4_init_b95 a (a + 21) 21 193 (SHc (a + 21)) μ' ∧ SI a 8 μ' ∧ same (fun b => b < a ∨ a + 26 ≤ b) μ0 μ' := by
  intro d
  induction d with
  | zero =>
    intro i F μ hi hF h hs
    obtain ⟨F, rfl⟩ : ∃ g, F = g + 1 := ⟨F - 1, by omega⟩
    have e : i = 8 := by omega
    subst e
    refine ⟨μ, ?_, h, hs⟩
    show m_X4_init_b70 (m_X4_init_h70 a F) a (nI 8) (a + 5 + 2 * 8) (5 + 2 * 8) (25 + 21 * 8) (SHc (a + 5 + 2 * 8)) μ = _
    unfold m_X4_init_b70
    rw [if_pos (by decide)]
  | succ d ih =>
    intro i F μ hi hF h hs
    obtain ⟨F, rfl⟩ : ∃ g, F = g + 1 := ⟨F - 1, by omega⟩
    show ∃ μ', m_X4_init_b70 (m_X4_init_h70 a F) a (nI i) (a + 5 + 2 * i) (5 + 2 * i) (25 + 21 * i) (SHc (a + 5 + 2 * i)) μ = _ ∧ _
    have al := scB_le ha
    have t1 : SH (a + 5 + 2 * i + 1) = (5, 5) := by rw [show a + 5 + 2 * i + 1 = a + (6 + 2 * i) by omega, scB_sh ha (by omega)]; unfold SHs; rw [if_neg (by omega), if_neg (by omega), if_neg (by omega), if_neg (by omega), if_pos (by omega)]
    have t2 : SH (a + 5 + 2 * i + 1 + 1) = (8, 16) := by rw [show a + 5 + 2 * i + 1 + 1 = a + (7 + 2 * i) by omega, scB_sh ha (by omega)]; unfold SHs; rw [if_neg (by omega), if_neg (by omega), if_neg (by omega), if_neg (by omega), if_neg (by omega)]
    obtain ⟨μ1, e1, e2, e3⟩ := x_i5 (t := a + 5 + 2 * i + 1) (μ := zr μ (a + 5 + 2 * i + 1)) (by omega) t1 t2
    have h4 : SH a = (4, 10) := scB_sh (d := 0) ha (by decide)
    have h11 : SH (a + 1) = (11, 8) := by rw [scB_sh ha (by decide)]; rfl
    have z1 : iz (SHc (a + 5 + 2 * i)) 4 a = true := by rw [iz_c (by omega)]; exact iz_of h4
    have z2 : ix (SHc (a + 5 + 2 * i + 1 + 1)) 11 (a + 1) (nI i) = true := by rw [ix_c (by omega)]; exact ix_of h11 (by omega) (by decide)
    have z3 : iz (SHc (a + 5 + 2 * i + 1 + 1)) 5 (a + 5 + 2 * i + 1) = true := by rw [iz_c (by omega)]; exact iz_of t1
    have si : SI a i (zr μ (a + 5 + 2 * i + 1)) := h.z (by omega)
    rw [show a + 5 + 2 * i + 1 = a + 6 + 2 * i by omega] at e2 e3 si
    have nx := si.nx e3 (by rw [e2]; omega)
    rw [if_pos (show i < 8 by omega), if_pos (show i < 8 by omega)] at nx
    obtain ⟨μ', f1, f2⟩ := ih (i + 1) F (sR μ1 (a + 1) i (a + 6 + 2 * i)) (by omega) (by omega) nx (((hs.wz (a := a + 5 + 2 * i + 1) (by omega)).trans ((show same _ _ _ from by rw [show a + 5 + 2 * i + 1 = a + 6 + 2 * i by omega]; exact e3).mono (fun b hb => by omega))).wR (by omega))
    refine ⟨μ', ?_, f2⟩
    unfold m_X4_init_b70
    rw [if_neg (nleL 8 (by omega) (by decide)), z1, gd_n, bd_n, h.1.1, roomB_t (by omega) (by omega), gd_n, bd_n, bd_n, bd_n, bd_n, bd_n, shn_c t1, nn0_t (by omega), gd_n, e1, ca3_n, roomB_t (by omega) (by omega), gd_n, eq1_t rfl, gd_n, bd_n, bd_n, z2, gd_n, z3, gd_n, bd_n, bd_n, nI_clamp (by omega), nI_1]
    rw [show a + 5 + 2 * (i + 1) = a + 5 + 2 * i + 1 + 1 by omega, show 5 + 2 * (i + 1) = 5 + 2 * i + 1 + 1 by omega, show 25 + 21 * (i + 1) = 25 + 21 * i + 5 + 16 by omega, show a + 6 + 2 * i = a + 5 + 2 * i + 1 by omega] at f1
    exact f1
theorem x_i4b {a : Nat} {μ0 : Mu} (ha : scB a = true) : ∀ (d i F : Nat) (μ : Mu), i + d = 2 → d < F → SI a (8 + i) μ → same (fun b => b < a ∨ a + 26 ≤ b) μ0 μ → ∃ μ', m_X4_init_h97 a F (nI i) (a + 21 + 2 * i) (21 + 2 * i) (193 + 21 * i) (SHc (a + 21 + 2 * i)) μ = m_X4_init_b121 a (a + 25) 25 235 (SHc (a + 25)) μ' ∧ SI a 10 μ' ∧ same (fun b => b < a ∨ a + 26 ≤ b) μ0 μ' := by
  intro d
  induction d with
  | zero =>
    intro i F μ hi hF h hs
    obtain ⟨F, rfl⟩ : ∃ g, F = g + 1 := ⟨F - 1, by omega⟩
    have e : i = 2 := by omega
    subst e
    refine ⟨μ, ?_, h, hs⟩
    show m_X4_init_b97 (m_X4_init_h97 a F) a (nI 2) (a + 21 + 2 * 2) (21 + 2 * 2) (193 + 21 * 2) (SHc (a + 21 + 2 * 2)) μ = _
    unfold m_X4_init_b97
    rw [if_pos (by decide)]
  | succ d ih =>
    intro i F μ hi hF h hs
    obtain ⟨F, rfl⟩ : ∃ g, F = g + 1 := ⟨F - 1, by omega⟩
    show ∃ μ', m_X4_init_b97 (m_X4_init_h97 a F) a (nI i) (a + 21 + 2 * i) (21 + 2 * i) (193 + 21 * i) (SHc (a + 21 + 2 * i)) μ = _ ∧ _
    have al := scB_le ha
    have t1 : SH (a + 21 + 2 * i + 1) = (5, 5) := by rw [show a + 21 + 2 * i + 1 = a + (22 + 2 * i) by omega, scB_sh ha (by omega)]; unfold SHs; rw [if_neg (by omega), if_neg (by omega), if_neg (by omega), if_neg (by omega), if_pos (by omega)]
    have t2 : SH (a + 21 + 2 * i + 1 + 1) = (8, 16) := by rw [show a + 21 + 2 * i + 1 + 1 = a + (23 + 2 * i) by omega, scB_sh ha (by omega)]; unfold SHs; rw [if_neg (by omega), if_neg (by omega), if_neg (by omega), if_neg (by omega), if_neg (by omega)]
    obtain ⟨μ1, e1, e2, e3⟩ := x_i5 (t := a + 21 + 2 * i + 1) (μ := zr μ (a + 21 + 2 * i + 1)) (by omega) t1 t2
    have h4 : SH a = (4, 10) := scB_sh (d := 0) ha (by decide)
    have h11 : SH (a + 2) = (11, 2) := by rw [scB_sh ha (by decide)]; rfl
    have z1 : iz (SHc (a + 21 + 2 * i)) 4 a = true := by rw [iz_c (by omega)]; exact iz_of h4
    have z2 : ix (SHc (a + 21 + 2 * i + 1 + 1)) 11 (a + 2) (nI i) = true := by rw [ix_c (by omega)]; exact ix_of h11 (by omega) (by decide)
    have z3 : iz (SHc (a + 21 + 2 * i + 1 + 1)) 5 (a + 21 + 2 * i + 1) = true := by rw [iz_c (by omega)]; exact iz_of t1
    have si : SI a (8 + i) (zr μ (a + 21 + 2 * i + 1)) := h.z (by omega)
    have ea : a + 21 + 2 * i + 1 = a + 6 + 2 * (8 + i) := by omega
    rw [ea] at e2 e3 si
    have nx := si.nx e3 (by rw [e2]; omega)
    rw [if_neg (show ¬ 8 + i < 8 by omega), if_neg (show ¬ 8 + i < 8 by omega), show 8 + i - 8 = i by omega] at nx
    obtain ⟨μ', f1, f2⟩ := ih (i + 1) F (sR μ1 (a + 2) i (a + 6 + 2 * (8 + i))) (by omega) (by omega) nx (((hs.wz (a := a + 21 + 2 * i + 1) (by omega)).trans ((show same _ _ _ from by rw [ea]; exact e3).mono (fun b hb => by omega))).wR (by omega))
    refine ⟨μ', ?_, f2⟩
    unfold m_X4_init_b97
    rw [if_neg (nleL 2 (by omega) (by decide)), z1, gd_n, bd_n, h.1.2.1, roomB_t (by omega) (by omega), gd_n, bd_n, bd_n, bd_n, bd_n, bd_n, shn_c t1, nn0_t (by omega), gd_n, e1, ca3_n, roomB_t (by omega) (by omega), gd_n, eq1_t rfl, gd_n, bd_n, bd_n, z2, gd_n, z3, gd_n, bd_n, bd_n, nI_clamp (by omega), nI_1]
    rw [show a + 21 + 2 * (i + 1) = a + 21 + 2 * i + 1 + 1 by omega, show 21 + 2 * (i + 1) = 21 + 2 * i + 1 + 1 by omega, show 193 + 21 * (i + 1) = 193 + 21 * i + 5 + 16 by omega, ← ea] at f1
    exact f1

def sh0 : Sh := fun _ => (99, 0)
def μ0 : Mu := (fun _ _ => 0, fun _ _ => 0, fun _ _ => 0)
theorem sh0_c : sh0 = SHc 0 := by
  funext b
  show ((99, 0) : Nat × Nat) = if b ≤ 0 then SH b else (99, 0)
  by_cases h : b ≤ 0
  · rw [if_pos h, show b = 0 by omega]
    rfl
  · rw [if_neg h]
theorem law_ok (L : Nat) (xs : Nat → Int32) (hL : L ≤ 2560) : m_L_law L xs 0 sh0 μ0 = some 1 := by
  obtain ⟨m, e1, e2, e3⟩ := x_i6 (μ := zr μ0 1)
  obtain ⟨m', f1, f2, f3⟩ := x_i7 (μ := zr m 414) (by rw [gI_zr, if_pos rfl]) (by rw [gI_zr, if_pos rfl]) (by rw [gI_zr, if_pos rfl]) (by rw [gI_zr, if_pos rfl]) (by rw [gJ_zr, if_pos rfl])
  have iX : InvX m' σ0 := e2.mono good0 ((same.rf.wz (a := 414) (by omega)).trans f3)
  have fin := law_loop (xs := xs) hL (L / 5) 0 FU m' σ0 (by omega) (by rw [FU_eq]; omega) iX f2 good0
  rw [show nI (5 * 0) = (0 : Int32) from rfl] at fin
  unfold m_L_law
  rw [sh0_c, roomB_t (by omega) (by omega), gd_n, bd_n, bd_n, bd_n, bd_n, bd_n, shn_c (show SH (0 + 1) = (6, 10) from rfl), nn0_t (by omega), gd_n]
  rw [show m_X6_init (0 + 1) (SHc (0 + 1)) (0 + 1) (zr μ0 (0 + 1)) = some (413, SHc 413, m) from e1, ca3_n]
  rw [roomB_t (by omega) (by omega), gd_n, eq1_t rfl, gd_n, bd_n, bd_n, roomB_t (by omega) (by omega), gd_n, bd_n, bd_n, bd_n, bd_n, bd_n, shn_c (show SH (413 + 1) = (7, 29) from rfl), nn0_t (by omega), gd_n]
  rw [show m_X7_init (413 + 1) (SHc (413 + 1)) (413 + 1) (zr m (413 + 1)) = some (431, SH, m') from f1, ca3_n]
  rw [roomB_t (by omega) (by omega), gd_n, eq1_t rfl, gd_n, bd_n, bd_n]
  exact fin

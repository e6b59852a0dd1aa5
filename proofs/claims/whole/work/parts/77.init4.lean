/-! the reference, made -/
theorem SHc_431 : SHc 431 = SH := by
  funext b
  show (if b ≤ 431 then SH b else (99, 0)) = SH b
  by_cases h : b ≤ 431
  · rw [if_pos h]
  · rw [if_neg h]
    unfold SH
    rw [if_neg (by omega), if_neg (by omega), if_neg (by omega)]
    unfold SHx
    split <;> first | rfl | omega
theorem x_i7 {μ : Mu} (h2 : gI μ 414 2 = 0) (h4 : gI μ 414 4 = 0) (h5 : gI μ 414 5 = 0) (h6 : gI μ 414 6 = 0) (h17 : gJ μ 414 17 = 0) : ∃ μ', m_X7_init 414 (SHc 414) 414 μ = some (431, SH, μ') ∧ InvM μ' σ0 ∧ same (fun b => b < 414) μ μ' := by
  obtain ⟨ν, hν⟩ : ∃ ν, ν = sR (zr (sR (zr (sR (zr (sR (zr (sR (zr (sR (zr (sR (zr (sR (zr (sR (zr (sR (zr (sR (zr (sR (zr (sR (zr (sR (zr (sR (zr (sR (zr (sR (zr μ (414 + 1)) 414 1 (414 + 1)) (414 + 1 + 1)) 414 7 (414 + 1 + 1)) (414 + 1 + 1 + 1)) 414 8 (414 + 1 + 1 + 1)) (414 + 1 + 1 + 1 + 1)) 414 9 (414 + 1 + 1 + 1 + 1)) (414 + 1 + 1 + 1 + 1 + 1)) 414 13 (414 + 1 + 1 + 1 + 1 + 1)) (414 + 1 + 1 + 1 + 1 + 1 + 1)) 414 14 (414 + 1 + 1 + 1 + 1 + 1 + 1)) (414 + 1 + 1 + 1 + 1 + 1 + 1 + 1)) 414 15 (414 + 1 + 1 + 1 + 1 + 1 + 1 + 1)) (414 + 1 + 1 + 1 + 1 + 1 + 1 + 1 + 1)) 414 16 (414 + 1 + 1 + 1 + 1 + 1 + 1 + 1 + 1)) (414 + 1 + 1 + 1 + 1 + 1 + 1 + 1 + 1 + 1)) 414 18 (414 + 1 + 1 + 1 + 1 + 1 + 1 + 1 + 1 + 1)) (414 + 1 + 1 + 1 + 1 + 1 + 1 + 1 + 1 + 1 + 1)) 414 19 (414 + 1 + 1 + 1 + 1 + 1 + 1 + 1 + 1 + 1 + 1)) (414 + 1 + 1 + 1 + 1 + 1 + 1 + 1 + 1 + 1 + 1 + 1)) 414 21 (414 + 1 + 1 + 1 + 1 + 1 + 1 + 1 + 1 + 1 + 1 + 1)) (414 + 1 + 1 + 1 + 1 + 1 + 1 + 1 + 1 + 1 + 1 + 1 + 1)) 414 22 (414 + 1 + 1 + 1 + 1 + 1 + 1 + 1 + 1 + 1 + 1 + 1 + 1)) (414 + 1 + 1 + 1 + 1 + 1 + 1 + 1 + 1 + 1 + 1 + 1 + 1 + 1)) 414 23 (414 + 1 + 1 + 1 + 1 + 1 + 1 + 1 + 1 + 1 + 1 + 1 + 1 + 1)) (414 + 1 + 1 + 1 + 1 + 1 + 1 + 1 + 1 + 1 + 1 + 1 + 1 + 1 + 1)) 414 24 (414 + 1 + 1 + 1 + 1 + 1 + 1 + 1 + 1 + 1 + 1 + 1 + 1 + 1 + 1)) (414 + 1 + 1 + 1 + 1 + 1 + 1 + 1 + 1 + 1 + 1 + 1 + 1 + 1 + 1 + 1)) 414 25 (414 + 1 + 1 + 1 + 1 + 1 + 1 + 1 + 1 + 1 + 1 + 1 + 1 + 1 + 1 + 1)) (414 + 1 + 1 + 1 + 1 + 1 + 1 + 1 + 1 + 1 + 1 + 1 + 1 + 1 + 1 + 1 + 1)) 414 26 (414 + 1 + 1 + 1 + 1 + 1 + 1 + 1 + 1 + 1 + 1 + 1 + 1 + 1 + 1 + 1 + 1)) (414 + 1 + 1 + 1 + 1 + 1 + 1 + 1 + 1 + 1 + 1 + 1 + 1 + 1 + 1 + 1 + 1 + 1)) 414 28 (414 + 1 + 1 + 1 + 1 + 1 + 1 + 1 + 1 + 1 + 1 + 1 + 1 + 1 + 1 + 1 + 1 + 1) := ⟨_, rfl⟩
  have mp : Mp ν := by
    rw [hν]
    exact ⟨rfl, rfl, rfl, rfl, rfl, rfl, rfl, rfl, rfl, rfl, rfl, rfl, rfl, rfl, rfl, rfl, rfl⟩
  have I : ∀ k, gI ν 414 k = gI μ 414 k := fun k => by rw [hν]; rfl
  have J : ∀ k, gJ ν 414 k = gJ μ 414 k := fun k => by rw [hν]; rfl
  have fr : same (fun b => b < 414) μ ν := by
    rw [hν]
    exact (((((((((((((((((((((((((((((((((same.rf.wz (by omega)).wR (by omega)).wz (by omega)).wR (by omega)).wz (by omega)).wR (by omega)).wz (by omega)).wR (by omega)).wz (by omega)).wR (by omega)).wz (by omega)).wR (by omega)).wz (by omega)).wR (by omega)).wz (by omega)).wR (by omega)).wz (by omega)).wR (by omega)).wz (by omega)).wR (by omega)).wz (by omega)).wR (by omega)).wz (by omega)).wR (by omega)).wz (by omega)).wR (by omega)).wz (by omega)).wR (by omega)).wz (by omega)).wR (by omega)).wz (by omega)).wR (by omega)).wz (by omega)).wR (by omega)
  obtain ⟨μ', e1, e2, e3, e4, e5, e6, e7, e8, e9⟩ := y_begin mp
  have z : ∀ N, 414 ≤ N → iz (SHc N) 7 414 = true := fun N hN => by rw [iz_c hN]; rfl
  refine ⟨μ', ?_, ⟨⟨mp.mono (fun k => e6 414 k), fun k hk => e2 k hk⟩, by rw [e9 2 (by decide), I]; exact h2, fun i hi => absurd hi (by show ¬ i < 0; omega), ⟨by rw [e9 4 (by decide), I]; exact h4, by rw [e9 5 (by decide), I]; exact h5, by rw [e9 6 (by decide), I]; exact h6, fun b hb => absurd hb (by show ¬ b < 0; omega), fun p hp => absurd hp (by show ¬ p < 0; omega)⟩, by rw [e7, J]; exact h17, ⟨e3, (fun i g hi => by cases hi)⟩, fun s hs => ⟨fun _ => ?_, (fun g hg => by cases hg)⟩⟩, fr.trans (fun b hb => ⟨fun k => e8 b k (by omega) (by omega) (by omega), fun k => e7 b k, fun k => e6 b k⟩)⟩
  · unfold m_X7_init
    rw [nn0_t (by omega), gd_n]
    rw [roomB_t (by omega) (by omega), gd_n, bd_n, bd_n, bd_n, bd_n, bd_n, shn_c (show SH (414 + 1) = (8, 24) from rfl), z _ (by omega), gd_n, bd_n]
    rw [roomB_t (by omega) (by omega), gd_n, bd_n, bd_n, bd_n, bd_n, bd_n, shn_c (show SH (414 + 1 + 1) = (8, 2) from rfl), z _ (by omega), gd_n, bd_n]
    rw [roomB_t (by omega) (by omega), gd_n, bd_n, bd_n, bd_n, bd_n, bd_n, shn_c (show SH (414 + 1 + 1 + 1) = (8, 2) from rfl), z _ (by omega), gd_n, bd_n]
    rw [roomB_t (by omega) (by omega), gd_n, bd_n, bd_n, bd_n, bd_n, bd_n, shn_c (show SH (414 + 1 + 1 + 1 + 1) = (8, 5) from rfl), z _ (by omega), gd_n, bd_n]
    rw [roomB_t (by omega) (by omega), gd_n, bd_n, bd_n, bd_n, bd_n, bd_n, shn_c (show SH (414 + 1 + 1 + 1 + 1 + 1) = (8, 2) from rfl), z _ (by omega), gd_n, bd_n]
    rw [roomB_t (by omega) (by omega), gd_n, bd_n, bd_n, bd_n, bd_n, bd_n, shn_c (show SH (414 + 1 + 1 + 1 + 1 + 1 + 1) = (8, 2) from rfl), z _ (by omega), gd_n, bd_n]
    rw [roomB_t (by omega) (by omega), gd_n, bd_n, bd_n, bd_n, bd_n, bd_n, shn_c (show SH (414 + 1 + 1 + 1 + 1 + 1 + 1 + 1) = (8, 5) from rfl), z _ (by omega), gd_n, bd_n]
    rw [roomB_t (by omega) (by omega), gd_n, bd_n, bd_n, bd_n, bd_n, bd_n, shn_c (show SH (414 + 1 + 1 + 1 + 1 + 1 + 1 + 1 + 1) = (8, 205) from rfl), z _ (by omega), gd_n, bd_n]
    rw [roomB_t (by omega) (by omega), gd_n, bd_n, bd_n, bd_n, bd_n, bd_n, shn_c (show SH (414 + 1 + 1 + 1 + 1 + 1 + 1 + 1 + 1 + 1) = (8, 2460) from rfl), z _ (by omega), gd_n, bd_n]
    rw [roomB_t (by omega) (by omega), gd_n, bd_n, bd_n, bd_n, bd_n, bd_n, shn_c (show SH (414 + 1 + 1 + 1 + 1 + 1 + 1 + 1 + 1 + 1 + 1) = (9, 12) from rfl), z _ (by omega), gd_n, bd_n]
    rw [roomB_t (by omega) (by omega), gd_n, bd_n, bd_n, bd_n, bd_n, bd_n, shn_c (show SH (414 + 1 + 1 + 1 + 1 + 1 + 1 + 1 + 1 + 1 + 1 + 1) = (8, 410) from rfl), z _ (by omega), gd_n, bd_n]
    rw [roomB_t (by omega) (by omega), gd_n, bd_n, bd_n, bd_n, bd_n, bd_n, shn_c (show SH (414 + 1 + 1 + 1 + 1 + 1 + 1 + 1 + 1 + 1 + 1 + 1 + 1) = (9, 2) from rfl), z _ (by omega), gd_n, bd_n]
    rw [roomB_t (by omega) (by omega), gd_n, bd_n, bd_n, bd_n, bd_n, bd_n, shn_c (show SH (414 + 1 + 1 + 1 + 1 + 1 + 1 + 1 + 1 + 1 + 1 + 1 + 1 + 1) = (10, 2) from rfl), z _ (by omega), gd_n, bd_n]
    rw [roomB_t (by omega) (by omega), gd_n, bd_n, bd_n, bd_n, bd_n, bd_n, shn_c (show SH (414 + 1 + 1 + 1 + 1 + 1 + 1 + 1 + 1 + 1 + 1 + 1 + 1 + 1 + 1) = (8, 256) from rfl), z _ (by omega), gd_n, bd_n]
    rw [roomB_t (by omega) (by omega), gd_n, bd_n, bd_n, bd_n, bd_n, bd_n, shn_c (show SH (414 + 1 + 1 + 1 + 1 + 1 + 1 + 1 + 1 + 1 + 1 + 1 + 1 + 1 + 1 + 1) = (8, 256) from rfl), z _ (by omega), gd_n, bd_n]
    rw [roomB_t (by omega) (by omega), gd_n, bd_n, bd_n, bd_n, bd_n, bd_n, shn_c (show SH (414 + 1 + 1 + 1 + 1 + 1 + 1 + 1 + 1 + 1 + 1 + 1 + 1 + 1 + 1 + 1 + 1) = (8, 6) from rfl), z _ (by omega), gd_n, bd_n]
    rw [roomB_t (by omega) (by omega), gd_n, bd_n, bd_n, bd_n, bd_n, bd_n, shn_c (show SH (414 + 1 + 1 + 1 + 1 + 1 + 1 + 1 + 1 + 1 + 1 + 1 + 1 + 1 + 1 + 1 + 1 + 1) = (8, 6) from rfl), z _ (by omega), gd_n, bd_n]
    rw [← hν, show SHc (414 + 1 + 1 + 1 + 1 + 1 + 1 + 1 + 1 + 1 + 1 + 1 + 1 + 1 + 1 + 1 + 1 + 1) = SH from SHc_431, e1, ca_n, roomB_t (by omega) (by omega), gd_n, eqB_t rfl rfl, gd_n]
  · rcases (show s = 0 ∨ s = 1 by omega) with rfl | rfl
    · exact e4
    · exact e5

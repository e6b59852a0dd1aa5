/-! the reference's flash -/
theorem inS_cg {f f' : Nat → Int32} {b : Nat} (h : ∀ p, p < 5 → f' p = f p) : inS f' b = inS f b := by
  unfold inS s5
  simp only [h 0 (by decide), h 1 (by decide), h 2 (by decide), h 3 (by decide), h 4 (by decide)]
theorem ys_in2 {μ : Mu} {P : Pl} {b : Nat} {f : Nat → Int32} (h : MR μ f) (hP : MPl μ P) (hv : PV P) (hp : ∀ p, p < 5 → f p = -9 ∨ (p < pP P ∧ ∃ b, b < pB P ∧ f p = nI b)) (hb : b < 2) : m_X7_inOf SH 414 (nI b) μ = some (nI (inS f b), μ) := by
  rw [y_inOf h hP hv, ← inG_S, inG_more hv.2.2.1 (fun p h1 h2 e => ?_)]
  rcases hp p h2 with q | q
  · rw [q] at e; exact n9 (show b < 2 ^ 31 by omega) e.symm
  · omega
theorem upd_u {f : Nat → Int32} {a : Nat} {x y : Int32} : upd (upd f a x) a y = upd f a y := by
  funext j
  by_cases h : j = a
  · subst h; rw [upd_s, upd_s]
  · rw [upd_n h, upd_n h, upd_n h]
theorem Mp.bl {μ : Mu} (h : Mp μ) : gR μ 414 9 = 418 := h.2.2.2.1
theorem InvM.sd {μ : Mu} {σ : Sg} {f : Nat → Int32} {s s' : Int64} (h : InvM μ (wN σ (f, s))) : InvM (sJ μ 414 17 s') (wN σ (f, s')) := by
  refine h.toN (N := (f, s')) (fun _ _ _ _ => rfl) (fun _ _ => rfl) (fun b k hbk => ?_) h.1.2 (by rw [gJ_sJ, if_pos rfl, if_pos rfl])
  rw [gJ_sJ]
  by_cases hb : b = 414
  · rw [if_pos hb, if_neg (fun e => by rcases hbk with q | q; exact q hb; exact q e)]
  · rw [if_neg hb]
theorem y_draw {σ : Sg} {P : Pl} {b L : Nat} {f f3 : Nat → Int32} {s : Int64} (hσ : sP σ = P) (hv : PV P) (hf : ∀ p, p < 5 → f3 p = f p) (hL : 5 ≤ L) (hL2 : L + 3 < 205) : ∀ (d i F : Nat) (μ : Mu), i + d = pP P → d < F → InvM μ (wN σ (upd f3 (L + 3) (drw P f b s i).2, (drw P f b s i).1)) → ∃ μ', m_X7_flash_h140 SH 414 (nI b) (nI (16 + 17 * b)) (nI L) F (nI i) μ = m_X7_flash_b224 SH 414 (nI b) (nI (16 + 17 * b)) μ' ∧ InvM μ' (wN σ (upd f3 (L + 3) (drw P f b s (pP P)).2, (drw P f b s (pP P)).1)) ∧ same (fun x => x < 414) μ μ' := by
  have hP5 := hv.2.2.1
  intro d
  induction d with
  | zero =>
    intro i F μ hi hF h
    obtain ⟨F, rfl⟩ : ∃ g, F = g + 1 := ⟨F - 1, by omega⟩
    have e : i = pP P := by omega
    subst e
    refine ⟨μ, ?_, h, same.rf⟩
    show m_X7_flash_b140 SH (m_X7_flash_h140 SH 414 (nI b) (nI (16 + 17 * b)) (nI L) F) 414 (nI b) (nI (16 + 17 * b)) (nI L) (nI (pP P)) μ = _
    have pl : MPl μ P := hσ ▸ h.2.2.2.1
    unfold m_X7_flash_b140
    rw [gd_of iz7, pl.2.2.1, if_pos (Int32.le_refl _)]
  | succ d ih =>
    intro i F μ hi hF h
    obtain ⟨F, rfl⟩ : ∃ g, F = g + 1 := ⟨F - 1, by omega⟩
    have pl : MPl μ P := hσ ▸ h.2.2.2.1
    have m : ∀ q, q < 205 → gI μ 422 q = upd f3 (L + 3) (drw P f b s i).2 q := h.1.2
    have u1 : (nI (pP P) ≤ nI i) = False := eq_false (nle_nI (by omega) (by omega))
    have x1 : ix SH 8 422 (nI i) = true := ix422 (by omega)
    have p1 : (nI i).toNatClampNeg = i := nI_clamp (by omega)
    have mi : gI μ 422 i = f i := by rw [m _ (by omega), upd_n (by omega)]; exact hf i (by omega)
    show ∃ μ', m_X7_flash_b140 SH (m_X7_flash_h140 SH 414 (nI b) (nI (16 + 17 * b)) (nI L) F) 414 (nI b) (nI (16 + 17 * b)) (nI L) (nI i) μ = _ ∧ _
    by_cases hfi : f i = nI b
    · have dstep : drw P f b s (i + 1) = (nxS (drw P f b s i).1, if 0 ≤ drV (nxS (drw P f b s i).1) (nI (pT P i)) then (drw P f b s i).2 else (drw P f b s i).2 ||| (1 <<< (nI i &&& 31))) := by
        conv => lhs; unfold drw
        rw [if_pos hfi]
      have h2 := h.sd (s' := nxS (drw P f b s i).1)
      have esd : (gJ μ 414 17) * 6364136223846793005 + 1442695040888963407 = nxS (drw P f b s i).1 := by
        rw [show gJ μ 414 17 = (drw P f b s i).1 from h.2.2.2.2.1]; rfl
      have es : gJ (sJ μ 414 17 (nxS (drw P f b s i).1)) 414 17 = nxS (drw P f b s i).1 := by rw [gJ_sJ, if_pos rfl, if_pos rfl]
      have x2 : ix SH 8 422 (nI (L + 3)) = true := ix422 (by omega)
      have x3 : ix SH 8 418 (nI i) = true := ix_of (n := 5) rfl (by omega) (by decide)
      have p2 : (nI (L + 3)).toNatClampNeg = L + 3 := nI_clamp (by omega)
      have m2 : gI (sJ μ 414 17 (nxS (drw P f b s i).1)) 422 (L + 3) = (drw P f b s i).2 := by rw [gI_sJ, m _ (by omega), upd_s]
      have m3 : gI (sJ μ 414 17 (nxS (drw P f b s i).1)) 418 i = nI (pT P i) := by rw [gI_sJ]; exact pl.2.2.2.2 i (by omega)
      have h3 : InvM (sI (sJ μ 414 17 (nxS (drw P f b s i).1)) 422 (L + 3) (drw P f b s (i + 1)).2) (wN σ (upd f3 (L + 3) (drw P f b s (i + 1)).2, (drw P f b s (i + 1)).1)) := by
        have := h2.wr (k := L + 3) (v := (drw P f b s (i + 1)).2)
        rw [show (sN (wN σ (upd f3 (L + 3) (drw P f b s i).2, nxS (drw P f b s i).1))).1 = upd f3 (L + 3) (drw P f b s i).2 from rfl, upd_u, show (sN (wN σ (upd f3 (L + 3) (drw P f b s i).2, nxS (drw P f b s i).1))).2 = (drw P f b s (i + 1)).1 by rw [dstep]; rfl] at this
        exact this
      obtain ⟨μ', e', z1, z2⟩ := ih (i + 1) F _ (by omega) (by omega) h3
      refine ⟨μ', ?_, z1, ((same_sJ (by decide)).trans (same_sI (by decide))).trans z2⟩
      rw [← e']
      simp only [bd_n, gd_n, ca2_n, ca_n, nbtF, pbfT, Bool.not_true, Bool.not_false, if_true, if_false, m_X7_flash_b140, iz7, pl.2.2.1, u1, h.1.1.pg, x1, p1, mi, hfi, esd, gR_sJ, show nI L + 3 = nI (L + 3) from nI_add _ 3, x2, p2, m2, show nzJ 10 = true from rfl, h.1.1.bl, x3, m3, es, m_X7_flash_b216, m_X7_flash_b218, show nI i + 1 = nI (i + 1) from nI_add _ 1]
      by_cases hd : 0 ≤ drV (nxS (drw P f b s i).1) (nI (pT P i))
      · rw [if_pos hd, dstep, if_pos hd, Int32.or_zero]
      · rw [if_neg hd, dstep, if_neg hd]
    · have dstep : drw P f b s (i + 1) = drw P f b s i := by
        conv => lhs; unfold drw
        rw [if_neg hfi]
      obtain ⟨μ', e', z1, z2⟩ := ih (i + 1) F μ (by omega) (by omega) (by rw [dstep]; exact h)
      refine ⟨μ', ?_, z1, z2⟩
      rw [← e']
      simp only [bd_n, gd_n, ca2_n, ca_n, nbtF, pbfT, Bool.not_true, Bool.not_false, if_true, if_false, m_X7_flash_b140, iz7, pl.2.2.1, u1, h.1.1.pg, x1, p1, mi, hfi, m_X7_flash_b218, show nI i + 1 = nI (i + 1) from nI_add _ 1]
def cpF (g : Nat → Int32) (T A i : Nat) : Nat → Int32 := fun j => if T + 3 ≤ j ∧ j < T + 3 + i then g (A + (j - (T + 3))) else g j
theorem cpF_0 (g : Nat → Int32) (T A : Nat) : cpF g T A 0 = g := by
  funext j
  unfold cpF
  rw [if_neg (by omega)]
theorem cpF_s (g : Nat → Int32) (T A i : Nat) : upd (cpF g T A i) (T + 3 + i) (g (A + i)) = cpF g T A (i + 1) := by
  funext j
  by_cases e : j = T + 3 + i
  · subst e
    rw [upd_s]
    unfold cpF
    rw [if_pos (by omega), show T + 3 + i - (T + 3) = i by omega]
  · rw [upd_n e]
    unfold cpF
    by_cases e2 : T + 3 ≤ j ∧ j < T + 3 + i
    · rw [if_pos e2, if_pos (by omega)]
    · rw [if_neg e2, if_neg (by omega)]
theorem fall_eq {f : Nat → Int32} {b n : Nat} (hb : b < 2) (hn : n < 8) : upd (upd (cpF (upd (upd (upd f (50 + 19 * n) (nI b)) (50 + 19 * n + 1) 0) (50 + 19 * n + 2) 0) (50 + 19 * n) (16 + 17 * b + 1) 16) 202 (nI (n + 1))) (16 + 17 * b) 0 = flF f b n := by
  funext j
  unfold flF
  by_cases h1 : j = 202
  · subst h1; rw [if_pos rfl, upd_n (by omega), upd_s]
  rw [if_neg h1]
  by_cases h2 : j = 16 + 17 * b
  · subst h2; rw [if_pos rfl, upd_s]
  rw [if_neg h2, upd_n h2, upd_n h1]
  by_cases h3 : j = 50 + 19 * n
  · subst h3; rw [if_pos rfl]; unfold cpF; rw [if_neg (by omega), upd_n (by omega), upd_n (by omega), upd_s]
  rw [if_neg h3]
  by_cases h4 : j = 50 + 19 * n + 1 ∨ j = 50 + 19 * n + 2
  · rw [if_pos h4]
    unfold cpF
    rw [if_neg (by omega)]
    rcases h4 with rfl | rfl
    · rw [upd_n (by omega), upd_s]
    · rw [upd_s]
  rw [if_neg h4]
  unfold cpF
  by_cases h5 : 50 + 19 * n + 3 ≤ j ∧ j < 50 + 19 * n + 19
  · rw [if_pos h5, if_pos (by omega), upd_n (by omega), upd_n (by omega), upd_n (by omega)]
  · rw [if_neg h5, if_neg (by omega), upd_n (by omega), upd_n (by omega), upd_n (by omega)]
theorem y_cp {σ : Sg} {b n : Nat} {g : Nat → Int32} {s : Int64} (hb : b < 2) (hn : n < 8) : ∀ (d i F : Nat) (μ : Mu), i + d = 16 → d < F → InvM μ (wN σ (cpF g (50 + 19 * n) (16 + 17 * b + 1) i, s)) → ∃ μ', m_X7_flash_h293 SH 414 (nI (16 + 17 * b)) (nI (50 + 19 * n)) F (nI i) μ = m_X7_flash_b329 SH 414 (nI (16 + 17 * b)) μ' ∧ InvM μ' (wN σ (cpF g (50 + 19 * n) (16 + 17 * b + 1) 16, s)) ∧ same (fun x => x < 414) μ μ' := by
  intro d
  induction d with
  | zero =>
    intro i F μ hi hF h
    obtain ⟨F, rfl⟩ : ∃ g, F = g + 1 := ⟨F - 1, by omega⟩
    have e : i = 16 := by omega
    subst e
    refine ⟨μ, ?_, h, same.rf⟩
    show m_X7_flash_b293 SH (m_X7_flash_h293 SH 414 (nI (16 + 17 * b)) (nI (50 + 19 * n)) F) 414 (nI (16 + 17 * b)) (nI (50 + 19 * n)) (nI 16) μ = _
    unfold m_X7_flash_b293
    rw [if_pos (by decide)]
  | succ d ih =>
    intro i F μ hi hF h
    obtain ⟨F, rfl⟩ : ∃ g, F = g + 1 := ⟨F - 1, by omega⟩
    have m : ∀ q, q < 205 → gI μ 422 q = cpF g (50 + 19 * n) (16 + 17 * b + 1) i q := h.1.2
    have u1 : ((16 : Int32) ≤ nI i) = False := eq_false (nleL 16 (by omega) (by decide))
    have x1 : ix SH 8 422 (nI (16 + 17 * b + 1 + i)) = true := ix422 (by omega)
    have p1 : (nI (16 + 17 * b + 1 + i)).toNatClampNeg = 16 + 17 * b + 1 + i := nI_clamp (by omega)
    have x2 : ix SH 8 422 (nI (50 + 19 * n + 3 + i)) = true := ix422 (by omega)
    have p2 : (nI (50 + 19 * n + 3 + i)).toNatClampNeg = 50 + 19 * n + 3 + i := nI_clamp (by omega)
    have m1 : gI μ 422 (16 + 17 * b + 1 + i) = g (16 + 17 * b + 1 + i) := by
      rw [m _ (by omega)]; unfold cpF; rw [if_neg (by omega)]
    have h2 : InvM (sI μ 422 (50 + 19 * n + 3 + i) (g (16 + 17 * b + 1 + i))) (wN σ (cpF g (50 + 19 * n) (16 + 17 * b + 1) (i + 1), s)) := by
      rw [← cpF_s]
      exact h.wr
    obtain ⟨μ', e', z1, z2⟩ := ih (i + 1) F _ (by omega) (by omega) h2
    refine ⟨μ', ?_, z1, (same_sI (by decide)).trans z2⟩
    rw [← e']
    show m_X7_flash_b293 SH (m_X7_flash_h293 SH 414 (nI (16 + 17 * b)) (nI (50 + 19 * n)) F) 414 (nI (16 + 17 * b)) (nI (50 + 19 * n)) (nI i) μ = _
    simp only [bd_n, gd_n, ca2_n, ca_n, nbtF, pbfT, Bool.not_true, Bool.not_false, if_true, if_false, m_X7_flash_b293, u1, iz7, h.1.1.pg, show nI (16 + 17 * b) + 1 + nI i = nI (16 + 17 * b + 1 + i) by rw [show (1 : Int32) = nI 1 from rfl, nI_add, nI_add], show nI (50 + 19 * n) + 3 + nI i = nI (50 + 19 * n + 3 + i) by rw [show (3 : Int32) = nI 3 from rfl, nI_add, nI_add], x1, p1, x2, p2, m1, show nI i + 1 = nI (i + 1) from nI_add _ 1]
/-- behind the draws -/
theorem y_f224 {μ : Mu} {σ : Sg} {b k n : Nat} {f1 : Nat → Int32} {s : Int64} (h : InvM μ (wN σ (f1, s))) (hb : b < 2) (hk : f1 (16 + 17 * b) = nI k) (hk3 : k ≤ 3) (hn : f1 202 = nI n) (hn8 : n < 8) : ∃ μ', m_X7_flash_b224 SH 414 (nI b) (nI (16 + 17 * b)) μ = some (nI (if k = 3 then 1 else 0), μ') ∧ InvM μ' (wN σ (if k = 3 then flF (upd f1 (16 + 17 * b) (nI (k + 1))) b n else upd f1 (16 + 17 * b) (nI (k + 1)), s)) ∧ same (fun x => x < 414) μ μ' := by
  have m : ∀ q, q < 205 → gI μ 422 q = f1 q := h.1.2
  have x1 : ix SH 8 422 (nI (16 + 17 * b)) = true := ix422 (by omega)
  have p1 : (nI (16 + 17 * b)).toNatClampNeg = 16 + 17 * b := nI_clamp (by omega)
  have h2 : InvM (sI μ 422 (16 + 17 * b) (nI (k + 1))) (wN σ (upd f1 (16 + 17 * b) (nI (k + 1)), s)) := h.wr
  have m1 : gI (sI μ 422 (16 + 17 * b) (nI (k + 1))) 422 (16 + 17 * b) = nI (k + 1) := by rw [gI_sI, if_pos rfl, if_pos rfl]
  have m2 : gI (sI μ 422 (16 + 17 * b) (nI (k + 1))) 422 202 = nI n := by rw [gI_sI, if_pos rfl, if_neg (by omega), m _ (by omega)]; exact hn
  by_cases hk' : k = 3
  · rw [if_pos hk', if_pos hk']
    have u4 : ((4 : Int32) ≤ nI (k + 1)) = True := eq_true (leL 4 (by omega) (by omega))
    have h3 : InvM (sI (sI (sI (sI μ 422 (16 + 17 * b) (nI (k + 1))) 422 (50 + 19 * n) (nI b)) 422 (50 + 19 * n + 1) 0) 422 (50 + 19 * n + 2) 0) (wN σ (cpF (upd (upd (upd (upd f1 (16 + 17 * b) (nI (k + 1))) (50 + 19 * n) (nI b)) (50 + 19 * n + 1) 0) (50 + 19 * n + 2) 0) (50 + 19 * n) (16 + 17 * b + 1) 0, s)) := by
      rw [cpF_0]
      exact ((h2.wr (k := 50 + 19 * n) (v := nI b)).wr (k := 50 + 19 * n + 1) (v := 0)).wr (k := 50 + 19 * n + 2) (v := 0)
    obtain ⟨μ3, e3, i3, s3⟩ := y_cp hb hn8 16 0 FU _ (by omega) (by rw [FU_eq]; omega) h3
    rw [show nI 0 = (0 : Int32) from rfl] at e3
    have m3 : gI μ3 422 202 = nI n := by
      rw [i3.1.2 202 (by decide)]
      show cpF _ _ _ _ 202 = _
      unfold cpF
      rw [if_neg (by omega), upd_n (by omega), upd_n (by omega), upd_n (by omega), upd_n (by omega), hn]
    have i4 : InvM (sI (sI μ3 422 202 (nI (n + 1))) 422 (16 + 17 * b) 0) (wN σ (flF (upd f1 (16 + 17 * b) (nI (k + 1))) b n, s)) := by
      rw [← fall_eq hb hn8]
      exact (i3.wr (k := 202) (v := nI (n + 1))).wr (k := 16 + 17 * b) (v := 0)
    refine ⟨sI (sI μ3 422 202 (nI (n + 1))) 422 (16 + 17 * b) 0, ?_, i4, ((((((same_sI (by decide)).trans (same_sI (by decide))).trans (same_sI (by decide))).trans (same_sI (by decide))).trans s3).trans (same_sI (by decide))).trans (same_sI (by decide))⟩
    have xa : ix SH 8 422 (nI (50 + 19 * n)) = true := ix422 (by omega)
    have xb : ix SH 8 422 (nI (50 + 19 * n + 1)) = true := ix422 (by omega)
    have xc : ix SH 8 422 (nI (50 + 19 * n + 2)) = true := ix422 (by omega)
    have pa : (nI (50 + 19 * n)).toNatClampNeg = 50 + 19 * n := nI_clamp (by omega)
    have pb : (nI (50 + 19 * n + 1)).toNatClampNeg = 50 + 19 * n + 1 := nI_clamp (by omega)
    have pc : (nI (50 + 19 * n + 2)).toNatClampNeg = 50 + 19 * n + 2 := nI_clamp (by omega)
    have hT : (50 : Int32) + 19 * nI n = nI (50 + 19 * n) := by rw [show (19 : Int32) = nI 19 from rfl, pk_mul, show (50 : Int32) = nI 50 from rfl, nI_add]
    simp only [bd_n, gd_n, ca2_n, ca_n, nbtF, pbfT, Bool.not_true, Bool.not_false, if_true, if_false, m_X7_flash_b224, iz7, h.1.1.pg, x1, p1, m _ (show 16 + 17 * b < 205 by omega), hk, show nI k + 1 = nI (k + 1) from nI_add _ 1, gR_sI, m1, u4, ixL202, c202, m2, hT, xa, pa, show nI (50 + 19 * n) + 1 = nI (50 + 19 * n + 1) from nI_add _ 1, show nI (50 + 19 * n) + 2 = nI (50 + 19 * n + 2) from nI_add _ 2, xb, xc, pb, pc, e3, m_X7_flash_b329, i3.1.1.pg, m3, show nI n + 1 = nI (n + 1) from nI_add _ 1]
    rfl
  · rw [if_neg hk', if_neg hk']
    have u4 : ((4 : Int32) ≤ nI (k + 1)) = False := eq_false (nleL 4 (by omega) (by decide))
    refine ⟨sI μ 422 (16 + 17 * b) (nI (k + 1)), ?_, h2, same_sI (by decide)⟩
    simp only [bd_n, gd_n, ca2_n, ca_n, nbtF, pbfT, Bool.not_true, Bool.not_false, if_true, if_false, m_X7_flash_b224, iz7, h.1.1.pg, x1, p1, m _ (show 16 + 17 * b < 205 by omega), hk, show nI k + 1 = nI (k + 1) from nI_add _ 1, gR_sI, m1, u4]
    rfl

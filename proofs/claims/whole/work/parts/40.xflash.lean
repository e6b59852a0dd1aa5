/-! the class's flash -/
theorem xs_has {s p : Nat} {μ : Mu} (hs : s < 256) (hp : p < 5) : m_X6_has SH (nI s) (nI p) μ = some (bI (hasB s p), μ) := by
  rw [x_has (isIn_nI hp (by decide)), hasI s hs p (by omega)]
theorem x_draw {μ0 : Mu} {q a b : Nat} {P : Pl} {f : Nat → Int32} {s : Int64} (hP : PR μ0 q P) (hv : PV P) (ha : iz SH 4 a = true) (hf : ∀ p, p < 5 → f p = nI b → p < pP P) : ∀ (d i F : Nat) (μ : Mu), i + d = 5 → d < F → (∀ x k, gI μ x k = gI μ0 x k) → (∀ x k, gR μ x k = gR μ0 x k) → (∀ x k, x ≠ a → gJ μ x k = gJ μ0 x k) → gJ μ a 0 = (drw P f b s i).1 → ∃ μ', m_X4_drawBlinks_h5 SH a q (nI (inS f b)) F (drw P f b s i).2 (nI i) μ = some ((drw P f b s 5).2, μ') ∧ (∀ x k, gI μ' x k = gI μ0 x k) ∧ (∀ x k, gR μ' x k = gR μ0 x k) ∧ (∀ x k, x ≠ a → gJ μ' x k = gJ μ0 x k) ∧ gJ μ' a 0 = (drw P f b s 5).1 := by
  intro d
  induction d with
  | zero =>
    intro i F μ hi hF c1 c2 c3 c4
    obtain ⟨F, rfl⟩ : ∃ g, F = g + 1 := ⟨F - 1, by omega⟩
    have e : i = 5 := by omega
    subst e
    refine ⟨μ, ?_, c1, c2, c3, c4⟩
    show m_X4_drawBlinks_b5 SH (m_X4_drawBlinks_h5 SH a q (nI (inS f b)) F) a q (nI (inS f b)) (drw P f b s 5).2 (nI 5) μ = _
    unfold m_X4_drawBlinks_b5
    rw [if_pos (by decide)]
  | succ d ih =>
    intro i F μ hi hF c1 c2 c3 c4
    obtain ⟨F, rfl⟩ : ∃ g, F = g + 1 := ⟨F - 1, by omega⟩
    have u1 : ((5 : Int32) ≤ nI i) = False := eq_false (nleL 5 (by omega) (by decide))
    have hin := inS_lt f b
    have hh := xs_has (s := inS f b) (p := i) (μ := μ) (by omega) (by omega)
    rw [inS_bit (by omega)] at hh
    show ∃ μ', m_X4_drawBlinks_b5 SH (m_X4_drawBlinks_h5 SH a q (nI (inS f b)) F) a q (nI (inS f b)) (drw P f b s i).2 (nI i) μ = _ ∧ _
    by_cases hfi : f i = nI b
    · rw [decide_eq_true hfi] at hh
      have hip := hf i (by omega) hfi
      have hPm : PR (sJ μ a 0 (nxS (drw P f b s i).1)) q P := by
        refine PR.mono hP (fun x hx => ⟨fun k => by rw [gI_sJ]; exact c1 x k, fun k => ?_, fun k => by rw [gR_sJ]; exact c2 x k⟩)
        have hne : x ≠ a := by
          intro e
          rw [← e] at ha
          rcases hP.1.1 with h | h
          · rcases (show x = 3 ∨ x = 4 ∨ x = 5 ∨ x = 6 by omega) with rfl | rfl | rfl | rfl <;> cases ha
          · rcases (show x = 7 ∨ x = 8 ∨ x = 9 ∨ x = 10 by omega) with rfl | rfl | rfl | rfl <;> cases ha
        rw [gJ_sJ, if_neg hne]
        exact c3 x k hne
      have ht := x_tenthsOf hPm hv hip
      have es : gJ (sJ μ a 0 (nxS (drw P f b s i).1)) a 0 = nxS (drw P f b s i).1 := by rw [gJ_sJ, if_pos rfl, if_pos rfl]
      have dstep : drw P f b s (i + 1) = (nxS (drw P f b s i).1, if 0 ≤ drV (nxS (drw P f b s i).1) (nI (pT P i)) then (drw P f b s i).2 else (drw P f b s i).2 ||| (1 <<< (nI i &&& 31))) := by
        conv => lhs; unfold drw
        rw [if_pos hfi]
      obtain ⟨μ', e', z⟩ := ih (i + 1) F (sJ μ a 0 (nxS (drw P f b s i).1)) (by omega) (by omega) c1 c2 (fun x k hx => by rw [gJ_sJ, if_neg hx]; exact c3 x k hx) (by rw [es, dstep])
      refine ⟨μ', ?_, z⟩
      rw [← e']
      have esd : (gJ μ a 0) * 6364136223846793005 + 1442695040888963407 = nxS (drw P f b s i).1 := by rw [c4]; rfl
      simp only [bd_n, gd_n, ca2_n, ca_n, nbtF, pbfT, Bool.not_true, Bool.not_false, if_true, if_false, m_X4_drawBlinks_b5, u1, hh, ha, esd, show nzJ 10 = true from rfl, hP.1.iz, ht, es, m_X4_drawBlinks_b65, nI_1]
      by_cases hd : 0 ≤ drV (nxS (drw P f b s i).1) (nI (pT P i))
      · rw [if_pos hd, dstep, if_pos hd]
      · rw [if_neg hd, dstep, if_neg hd]
    · rw [decide_eq_false hfi] at hh
      have dstep : drw P f b s (i + 1) = drw P f b s i := by
        conv => lhs; unfold drw
        rw [if_neg hfi]
      obtain ⟨μ', e', z⟩ := ih (i + 1) F μ (by omega) (by omega) c1 c2 c3 (by rw [dstep]; exact c4)
      refine ⟨μ', ?_, z⟩
      rw [← e', dstep]
      simp only [bd_n, gd_n, ca2_n, ca_n, nbtF, pbfT, Bool.not_true, Bool.not_false, if_true, if_false, m_X4_drawBlinks_b5, u1, hh, m_X4_drawBlinks_b65, nI_1]
def tkM (μ : Mu) (t k : Nat) (v1 v2 v3 v4 : Int32) : Mu := sI (sI (sI (sI (sI μ (t + 1) (4 * k) v1) (t + 1) (4 * k + 1) v2) (t + 1) (4 * k + 2) v3) (t + 1) (4 * k + 3) v4) t 1 (nI (k + 1))
theorem x_take {μ : Mu} {t k : Nat} {v1 v2 v3 v4 : Int32} (ht : Tp μ t) (hk : gI μ t 1 = nI k) (hk3 : k ≤ 3) : m_X5_take SH t v1 v2 v3 v4 μ = some (tkM μ t k v1 v2 v3 v4) := by
  have e4 : nI k * 4 = nI (4 * k) := by rw [show (4 : Int32) = nI 4 from rfl, pk_mul, Nat.mul_comm]
  have u0 : (nI (4 * k) < 0) = False := eq_false (nlt0 (by omega))
  have u1 : (nI (4 * k) + 4 ≤ nI 16) = True := by
    rw [show nI (4 * k) + 4 = nI (4 * k + 4) from nI_add _ 4]
    exact eq_true (nI_le (by omega) (by decide))
  have x0 : ix SH 8 (t + 1) (nI (4 * k)) = true := ht.ix (by omega)
  have x1 : ix SH 8 (t + 1) (nI (4 * k + 1)) = true := ht.ix (by omega)
  have x2 : ix SH 8 (t + 1) (nI (4 * k + 2)) = true := ht.ix (by omega)
  have x3 : ix SH 8 (t + 1) (nI (4 * k + 3)) = true := ht.ix (by omega)
  have p0 : (nI (4 * k)).toNatClampNeg = 4 * k := nI_clamp (by omega)
  have p1 : (nI (4 * k + 1)).toNatClampNeg = 4 * k + 1 := nI_clamp (by omega)
  have p2 : (nI (4 * k + 2)).toNatClampNeg = 4 * k + 2 := nI_clamp (by omega)
  have p3 : (nI (4 * k + 3)).toNatClampNeg = 4 * k + 3 := nI_clamp (by omega)
  have g1 : gI (sI (sI (sI (sI μ (t + 1) (4 * k) v1) (t + 1) (4 * k + 1) v2) (t + 1) (4 * k + 2) v3) (t + 1) (4 * k + 3) v4) t 1 = nI k := by
    have : ¬ t = t + 1 := by omega
    rw [gI_sI, if_neg this, gI_sI, if_neg this, gI_sI, if_neg this, gI_sI, if_neg this]
    exact hk
  unfold tkM
  simp only [bd_n, gd_n, ca2_n, ca_n, nbtF, pbfT, Bool.not_true, Bool.not_false, if_true, if_false, m_X5_take, ht.iz, hk, e4, u0, ht.2.2, iz_of ht.2.1, ht.2.1, u1, show nI (4 * k) + 0 = nI (4 * k) from nI_add _ 0, show nI (4 * k) + 1 = nI (4 * k + 1) from nI_add _ 1, show nI (4 * k) + 2 = nI (4 * k + 2) from nI_add _ 2, show nI (4 * k) + 3 = nI (4 * k + 3) from nI_add _ 3, x0, x1, x2, x3, p0, p1, p2, p3, gR_sI, g1, show nI k + 1 = nI (k + 1) from nI_add _ 1]
theorem SR.tk {μ : Mu} {a b k : Nat} {v : Int32} {f : Nat → Int32} (h : SR μ a f) (hz : szF f ≤ 8) (hl : ∀ q, q < 2 → lkF f q ≤ 4) (hb : b < 2) (hk : lkF f b = k) (hk3 : k ≤ 3) : SR (tkM μ (a + 22 + 2 * b) k (f 203) (nI (inS f b)) (hv f b) v) a (tkF f b k v) := by
  obtain ⟨k0, k1, k2, k3, k4, k5, k6, k7⟩ := h
  have S : same (fun x => x ≠ a + 22 + 2 * b ∧ x ≠ a + 22 + 2 * b + 1) μ (tkM μ (a + 22 + 2 * b) k (f 203) (nI (inS f b)) (hv f b) v) := ((((same_sI (by simp)).trans (same_sI (by simp))).trans (same_sI (by simp))).trans (same_sI (by simp))).trans (same_sI (by simp))
  have u : ∀ j, (j < 16 ∨ 50 ≤ j) → tkF f b k v j = f j := fun j hj => tkF_n (by omega) (by omega)
  have ez : szF (tkF f b k v) = szF f := by unfold szF; rw [u _ (by omega)]
  refine ⟨k0.cps (fun _ _ => rfl), ?_, ?_, ?_, ?_, fun p hp => ?_, fun i hi => ?_, fun q hq => ?_⟩
  · rw [S.I (by omega), u _ (by omega)]; exact k1
  · rw [S.I (by omega), u _ (by omega)]; exact k2
  · rw [S.I (by omega), u _ (by omega)]; exact k3
  · rw [S.I (by omega), u _ (by omega)]; exact k4
  · rw [S.I (by omega), S.I (by omega), S.I (by omega), u _ (by omega), u _ (by omega), u _ (by omega)]; exact k5 p hp
  · rw [ez] at hi
    obtain ⟨j, hj, ej⟩ := k0.st (i := i) (by omega)
    obtain ⟨w1, w2, w3, w4⟩ := k6 i hi
    show stripR _ (gR μ (a + 1) i) _ i
    refine ⟨?_, ?_, ?_, fun z hz => ?_⟩
    · rw [S.I (by omega), u _ (by omega)]; exact w1
    · rw [S.I (by omega), u _ (by omega)]; exact w2
    · rw [S.I (by omega), u _ (by omega)]; exact w3
    · rw [S.I (by omega), u _ (by omega)]; exact w4 z hz
  · obtain ⟨w1, w2, w3, w4, w5⟩ := k7 q hq
    by_cases e : q = b
    · subst e
      have n1 : ¬ a + 22 + 2 * q = a + 22 + 2 * q + 1 := by omega
      have n2 : ¬ a + 22 + 2 * q + 1 = a + 22 + 2 * q := by omega
      have fT : ∀ j, j ≠ 1 → gI (tkM μ (a + 22 + 2 * q) k (f 203) (nI (inS f q)) (hv f q) v) (a + 22 + 2 * q) j = gI μ (a + 22 + 2 * q) j := fun j hj => by
        unfold tkM
        rw [gI_sI, if_pos rfl, if_neg hj, gI_sI, if_neg n1, gI_sI, if_neg n1, gI_sI, if_neg n1, gI_sI, if_neg n1]
      have el : lkF (tkF f q k v) q = k + 1 := by unfold lkF; rw [tkF_at, nI_clamp (by omega)]
      refine ⟨by rw [fT _ (by decide)]; exact w1, ?_, by rw [fT _ (by decide)]; exact w3, by rw [fT _ (by decide)]; exact w4, fun z hz => ?_⟩
      · unfold tkM
        rw [gI_sI, if_pos rfl, if_pos rfl, tkF_at]
      · rw [el] at hz
        unfold tkM
        rw [gI_sI, if_neg n2, gI_sI, if_pos rfl]
        by_cases z3 : z = 4 * k + 3
        · rw [if_pos z3, z3, show 16 + 17 * q + 1 + (4 * k + 3) = 16 + 17 * q + 1 + 4 * k + 3 by omega, tkF_3]
        rw [if_neg z3, gI_sI, if_pos rfl]
        by_cases z2 : z = 4 * k + 2
        · rw [if_pos z2, z2, show 16 + 17 * q + 1 + (4 * k + 2) = 16 + 17 * q + 1 + 4 * k + 2 by omega, tkF_2]
        rw [if_neg z2, gI_sI, if_pos rfl]
        by_cases z1 : z = 4 * k + 1
        · rw [if_pos z1, z1, show 16 + 17 * q + 1 + (4 * k + 1) = 16 + 17 * q + 1 + 4 * k + 1 by omega, tkF_1]
        rw [if_neg z1, gI_sI, if_pos rfl]
        by_cases z0 : z = 4 * k
        · rw [if_pos z0, z0, tkF_0]
        rw [if_neg z0, tkF_n (by omega) (by omega)]
        exact w5 z (by omega)
    · have := hl q hq
      have el : lkF (tkF f b k v) q = lkF f q := by unfold lkF; rw [tkF_n (by omega) (by omega)]
      refine ⟨by rw [S.I (by omega)]; exact w1, by rw [S.I (by omega), tkF_n (by omega) (by omega)]; exact w2, by rw [S.I (by omega)]; exact w3, by rw [S.I (by omega)]; exact w4, fun z hz => ?_⟩
      rw [el] at hz
      rw [S.I (by omega), tkF_n (by omega) (by omega)]
      exact w5 z hz
def flM (μ : Mu) (a t b n : Nat) : Mu := sI (sI (sI (sI (sI μ a 4 (nI (n + 1))) t 0 (nI b)) t 1 0) t 2 0) t 3 0
theorem SR.fl {μ μ1 : Mu} {a b n : Nat} {f : Nat → Int32} (h : SR μ a f) (hn : szF f = n) (hn8 : n < 8) (hl : ∀ q, q < 2 → lkF f q ≤ 4) (hb : b < 2) (hk4 : lkF f b = 4) (hR : ∀ x k, gR μ1 x k = gR μ x k) (hs : same (fun x => x ≠ gR μ (a + 1) n ∧ x ≠ gR μ (a + 1) n + 1) μ μ1) (c1 : ∀ k, k < 4 → gI μ1 (gR μ (a + 1) n) k = gI μ (a + 22 + 2 * b) k) (c2 : ∀ k, k < 16 → gI μ1 (gR μ (a + 1) n + 1) k = gI μ (a + 22 + 2 * b + 1) k) : SR (flM μ1 a (a + 22 + 2 * b) b n) a (flF f b n) := by
  obtain ⟨k0, k1, k2, k3, k4, k5, k6, k7⟩ := h
  obtain ⟨j0, hj0, ej0⟩ := k0.st (i := n) (by omega)
  obtain ⟨b1, b2, b3, b4, b5⟩ := flF_b (f := f) hb hn8
  have S1 : same (fun x => x ≠ a ∧ x ≠ a + 22 + 2 * b) μ1 (flM μ1 a (a + 22 + 2 * b) b n) := ((((same_sI (by simp)).trans (same_sI (by simp))).trans (same_sI (by simp))).trans (same_sI (by simp))).trans (same_sI (by simp))
  have S : same (fun x => x ≠ a ∧ x ≠ a + 22 + 2 * b ∧ x ≠ gR μ (a + 1) n ∧ x ≠ gR μ (a + 1) n + 1) μ (flM μ1 a (a + 22 + 2 * b) b n) := (hs.mono (fun x hx => hx.2.2)).trans (S1.mono (fun x hx => ⟨hx.1, hx.2.1⟩))
  have u : ∀ j, j ≠ 202 → j ≠ 16 + 17 * b → (j < 50 + 19 * n ∨ 50 + 19 * n + 19 ≤ j) → flF f b n j = f j := fun j h1 h2 h3 => flF_n h1 h2 h3
  have ez : szF (flF f b n) = n + 1 := by unfold szF; rw [b4, nI_clamp (by omega)]
  have na : ¬ a = a + 22 + 2 * b := by omega
  have A : ∀ j, j ≠ 4 → gI (flM μ1 a (a + 22 + 2 * b) b n) a j = gI μ a j := fun j hj => by
    unfold flM
    rw [gI_sI, if_neg na, gI_sI, if_neg na, gI_sI, if_neg na, gI_sI, if_neg na, gI_sI, if_pos rfl, if_neg hj, hs.I (by omega)]
  refine ⟨k0.cps (fun x k => (show gR (flM μ1 a (a + 22 + 2 * b) b n) x k = gR μ1 x k from rfl).trans (hR x k)), ?_, ?_, ?_, ?_, fun p hp => ?_, fun i hi => ?_, fun q hq => ?_⟩
  · rw [A _ (by decide), u _ (by omega) (by omega) (by omega)]; exact k1
  · rw [A _ (by decide), u _ (by omega) (by omega) (by omega)]; exact k2
  · rw [A _ (by decide), u _ (by omega) (by omega) (by omega)]; exact k3
  · unfold flM
    rw [gI_sI, if_neg na, gI_sI, if_neg na, gI_sI, if_neg na, gI_sI, if_neg na, gI_sI, if_pos rfl, if_pos rfl, b4]
  · rw [S.I (by omega), S.I (by omega), S.I (by omega), u _ (by omega) (by omega) (by omega), u _ (by omega) (by omega) (by omega), u _ (by omega) (by omega) (by omega)]; exact k5 p hp
  · rw [ez] at hi
    rw [show gR (flM μ1 a (a + 22 + 2 * b) b n) (a + 1) i = gR μ1 (a + 1) i from rfl, hR]
    obtain ⟨w1, w2, w3, w4, w5⟩ := k7 b hb
    by_cases e : i = n
    · subst e
      refine ⟨?_, ?_, ?_, fun z hz => ?_⟩
      · rw [S1.I (by omega), c1 _ (by decide), w1, b1]
      · rw [S1.I (by omega), c1 _ (by decide), w3, b2]
      · rw [S1.I (by omega), c1 _ (by decide), w4, b3]
      · rw [S1.I (by omega), c2 _ hz, flF_c hb hn8 hz]
        exact w5 z (by omega)
    · obtain ⟨j, hj, ej⟩ := k0.st (i := i) (by omega)
      have hne : gR μ (a + 1) i ≠ gR μ (a + 1) n := fun q => e (k0.2.2.2.2.2.2.2.2.1 i n (by omega) (by omega) q)
      obtain ⟨w1, w2, w3, w4⟩ := k6 i (by omega)
      refine ⟨?_, ?_, ?_, fun z hz => ?_⟩
      · rw [S.I (by omega), u _ (by omega) (by omega) (by omega)]; exact w1
      · rw [S.I (by omega), u _ (by omega) (by omega) (by omega)]; exact w2
      · rw [S.I (by omega), u _ (by omega) (by omega) (by omega)]; exact w3
      · rw [S.I (by omega), u _ (by omega) (by omega) (by omega)]; exact w4 z hz
  · obtain ⟨w1, w2, w3, w4, w5⟩ := k7 q hq
    by_cases e : q = b
    · subst e
      have el : lkF (flF f q n) q = 0 := by unfold lkF; rw [b5]; rfl
      refine ⟨?_, ?_, ?_, ?_, fun z hz => ?_⟩
      · unfold flM
        rw [gI_sI, if_pos rfl, if_neg (by decide), gI_sI, if_pos rfl, if_neg (by decide), gI_sI, if_pos rfl, if_neg (by decide), gI_sI, if_pos rfl, if_pos rfl]
      · unfold flM
        rw [gI_sI, if_pos rfl, if_neg (by decide), gI_sI, if_pos rfl, if_neg (by decide), gI_sI, if_pos rfl, if_pos rfl, b5]
      · unfold flM
        rw [gI_sI, if_pos rfl, if_neg (by decide), gI_sI, if_pos rfl, if_pos rfl]
      · unfold flM
        rw [gI_sI, if_pos rfl, if_pos rfl]
      · rw [el] at hz
        exact absurd hz (by omega)
    · have := hl q hq
      have el : lkF (flF f b n) q = lkF f q := by unfold lkF; rw [u _ (by omega) (by omega) (by omega)]
      refine ⟨by rw [S.I (by omega)]; exact w1, by rw [S.I (by omega), u _ (by omega) (by omega) (by omega)]; exact w2, by rw [S.I (by omega)]; exact w3, by rw [S.I (by omega)]; exact w4, fun z hz => ?_⟩
      rw [el] at hz
      rw [S.I (by omega), u _ (by omega) (by omega) (by omega)]
      exact w5 z hz

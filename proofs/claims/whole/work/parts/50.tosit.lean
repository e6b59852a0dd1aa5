/-! toSit -/
theorem shr0 : ∀ P, P < 6 → ∀ s, s < 100 → decide (nI s >>> (nI P &&& 31) = 0) = decide (s < 2 ^ P) := by decide +kernel
theorem xor32 : ∀ a, a < 32 → ∀ b, b < 32 → nI a ^^^ nI b = nI (a ^^^ b) := by decide +kernel
theorem xorlt {a b : Nat} (ha : a < 32) (hb : b < 32) : a ^^^ b < 256 := Nat.lt_trans (Nat.xor_lt_two_pow (n := 5) ha hb) (by decide)
theorem popc_le : ∀ s, s < 256 → popc s ≤ 8 := by decide +kernel
def sitB (P r k : Nat) : Bool := decide (st 4 r k < 2 ^ P) && decide (popc (st 4 r k) ≤ 4)
theorem x_canSit {μ : Mu} {q r P : Nat} (hq : gR μ 1 2 = q) (hz : iz SH 2 q = true) (h2 : gI μ q 2 = nI P) (hP : P < 6) (hr : r < 2 ^ 31) : ∀ (d i F : Nat), i + d = 4 → d < F → m_X6_canSit_h2 SH 1 (nI r) F (nI i) μ = some (bI (allF (sitB P r) d i), μ) := by
  intro d
  induction d with
  | zero =>
    intro i F hi hF
    obtain ⟨F, rfl⟩ : ∃ g, F = g + 1 := ⟨F - 1, by omega⟩
    have e : i = 4 := by omega
    subst e
    show m_X6_canSit_b2 SH (m_X6_canSit_h2 SH 1 (nI r) F) 1 (nI r) (nI 4) μ = _
    unfold m_X6_canSit_b2
    rw [if_pos (by decide)]
    rfl
  | succ d ih =>
    intro i F hi hF
    obtain ⟨F, rfl⟩ : ∃ g, F = g + 1 := ⟨F - 1, by omega⟩
    show m_X6_canSit_b2 SH (m_X6_canSit_h2 SH 1 (nI r) F) 1 (nI r) (nI i) μ = some (bI ((decide (st 4 r i < 2 ^ P) && decide (popc (st 4 r i) ≤ 4)) && allF (sitB P r) d (i + 1)), μ)
    have u1 : ((4 : Int32) ≤ nI i) = False := eq_false (nleL 4 (by omega) (by decide))
    have hs := st_lt 4 r i
    have hsh := shr0 P hP (st 4 r i) hs
    have hset : m_X6_setOf SH (nI r) 4 (nI i) μ = some (nI (st 4 r i), μ) := x_setOf (n := 4) (by omega) (by omega) hr
    have hpop := popc_le (st 4 r i) (by omega)
    by_cases c : st 4 r i < 2 ^ P
    · rw [decide_eq_true c] at hsh ⊢
      have u2 : (nI (st 4 r i) >>> (nI P &&& 31) = 0) = True := eq_true (of_decide_eq_true hsh)
      rw [Bool.true_and]
      by_cases c2 : popc (st 4 r i) ≤ 4
      · have u3 : (nI (popc (st 4 r i)) ≤ 4) = True := eq_true (nI_le (b := 4) c2 (by decide))
        rw [decide_eq_true c2, Bool.true_and, ← ih (i + 1) F (by omega) (by omega)]
        simp only [bd_n, gd_n, ca2_n, ca_n, nbtF, pbfT, Bool.not_true, Bool.not_false, if_true, if_false, m_X6_canSit_b2, u1, hset, iz6, hq, hz, h2, u2, x_bitCount (μ := μ) (show st 4 r i < 256 by omega), u3, show nI i + 1 = nI (i + 1) from nI_add _ 1]
      · have u3 : (nI (popc (st 4 r i)) ≤ 4) = False := eq_false (nle_nI (n := popc (st 4 r i)) (i := 4) (by omega) (by omega))
        rw [decide_eq_false c2, Bool.false_and]
        simp only [bd_n, gd_n, ca2_n, ca_n, nbtF, pbfT, Bool.not_true, Bool.not_false, if_true, if_false, m_X6_canSit_b2, u1, hset, iz6, hq, hz, h2, u2, x_bitCount (μ := μ) (show st 4 r i < 256 by omega), u3]
        rfl
    · rw [decide_eq_false c] at hsh ⊢
      have u2 : (nI (st 4 r i) >>> (nI P &&& 31) = 0) = False := eq_false (of_decide_eq_false hsh)
      rw [Bool.false_and, Bool.false_and]
      simp only [bd_n, gd_n, ca2_n, ca_n, nbtF, pbfT, Bool.not_true, Bool.not_false, if_true, if_false, m_X6_canSit_b2, u1, hset, iz6, hq, hz, h2, u2]
      rfl
def smS (r : Nat) : Nat → Nat → Nat → Nat → Nat
  | 0, _, _, t => t
  | d + 1, i, a, t => smS r d (i + 1) (st 4 r i) (t + popc (a ^^^ st 4 r i))
theorem x_sit {μ : Mu} {r : Nat} (hr : r < 2 ^ 31) (h32 : ∀ k, k < 4 → st 4 r k < 32) : ∀ (d i F a t : Nat), i + d = 4 → d < F → a < 32 → m_X6_toSit_h47 SH (nI r) F (nI a) (nI t) (nI i) μ = some (nI (smS r d i a t), μ) := by
  intro d
  induction d with
  | zero =>
    intro i F a t hi hF ha
    obtain ⟨F, rfl⟩ : ∃ g, F = g + 1 := ⟨F - 1, by omega⟩
    have e : i = 4 := by omega
    subst e
    show m_X6_toSit_b47 SH (m_X6_toSit_h47 SH (nI r) F) (nI r) (nI a) (nI t) (nI 4) μ = _
    unfold m_X6_toSit_b47
    rw [if_pos (by decide)]
    rfl
  | succ d ih =>
    intro i F a t hi hF ha
    obtain ⟨F, rfl⟩ : ∃ g, F = g + 1 := ⟨F - 1, by omega⟩
    have hs := h32 i (by omega)
    show m_X6_toSit_b47 SH (m_X6_toSit_h47 SH (nI r) F) (nI r) (nI a) (nI t) (nI i) μ = some (nI (smS r d (i + 1) (st 4 r i) (t + popc (a ^^^ st 4 r i))), μ)
    rw [← ih (i + 1) F (st 4 r i) (t + popc (a ^^^ st 4 r i)) (by omega) (by omega) hs]
    have u1 : ((4 : Int32) ≤ nI i) = False := eq_false (nleL 4 (by omega) (by decide))
    have hset : m_X6_setOf SH (nI r) 4 (nI i) μ = some (nI (st 4 r i), μ) := x_setOf (n := 4) (by omega) (by omega) hr
    simp only [bd_n, gd_n, ca2_n, ca_n, nbtF, pbfT, Bool.not_true, Bool.not_false, if_true, if_false, m_X6_toSit_b47, u1, hset, xor32 a ha _ hs, x_bitCount (μ := μ) (xorlt ha hs), nI_add, show nI i + 1 = nI (i + 1) from nI_add _ 1]
theorem y_sit {μ : Mu} {r : Nat} (hr : r < 2 ^ 31) (h32 : ∀ k, k < 4 → st 4 r k < 32) : ∀ (d i F a t : Nat), i + d = 4 → d < F → a < 32 → m_X7_toSit_h46 SH (nI r) F (nI a) (nI t) (nI i) μ = some (if allF (fun k => decide (popc (st 4 r k) ≤ 4)) d i = true then nI (smS r d i a t) else -2, μ) := by
  intro d
  induction d with
  | zero =>
    intro i F a t hi hF ha
    obtain ⟨F, rfl⟩ : ∃ g, F = g + 1 := ⟨F - 1, by omega⟩
    have e : i = 4 := by omega
    subst e
    show m_X7_toSit_b46 SH (m_X7_toSit_h46 SH (nI r) F) (nI r) (nI a) (nI t) (nI 4) μ = _
    unfold m_X7_toSit_b46
    rw [if_pos (by decide)]
    rfl
  | succ d ih =>
    intro i F a t hi hF ha
    obtain ⟨F, rfl⟩ : ∃ g, F = g + 1 := ⟨F - 1, by omega⟩
    have hs := h32 i (by omega)
    show m_X7_toSit_b46 SH (m_X7_toSit_h46 SH (nI r) F) (nI r) (nI a) (nI t) (nI i) μ = some (if (decide (popc (st 4 r i) ≤ 4) && allF (fun k => decide (popc (st 4 r k) ≤ 4)) d (i + 1)) = true then nI (smS r d (i + 1) (st 4 r i) (t + popc (a ^^^ st 4 r i))) else -2, μ)
    have u1 : ((4 : Int32) ≤ nI i) = False := eq_false (nleL 4 (by omega) (by decide))
    have hset : m_X7_setOf SH 4 (nI r) (nI i) μ = some (nI (st 4 r i), μ) := y_setOf (n := 4) (by omega) (by omega) hr
    have hpop := popc_le (st 4 r i) (by omega)
    have hmany : m_X7_many SH (nI (st 4 r i)) μ = some (nI (popc (st 4 r i)), μ) := y_many (by omega)
    by_cases c2 : popc (st 4 r i) ≤ 4
    · have u3 : (nI (popc (st 4 r i)) ≤ 4) = True := eq_true (nI_le (b := 4) c2 (by decide))
      rw [decide_eq_true c2, Bool.true_and, ← ih (i + 1) F (st 4 r i) (t + popc (a ^^^ st 4 r i)) (by omega) (by omega) hs]
      have hm2 : m_X7_many SH (nI (st 4 r i) ^^^ nI a) μ = some (nI (popc (a ^^^ st 4 r i)), μ) := by
        rw [xor32 _ hs a ha, Nat.xor_comm]
        exact y_many (xorlt ha hs)
      simp only [bd_n, gd_n, ca2_n, ca_n, nbtF, pbfT, Bool.not_true, Bool.not_false, if_true, if_false, m_X7_toSit_b46, u1, hset, hmany, u3, hm2, nI_add, show nI i + 1 = nI (i + 1) from nI_add _ 1]
    · have u3 : (nI (popc (st 4 r i)) ≤ 4) = False := eq_false (nle_nI (n := popc (st 4 r i)) (i := 4) (by omega) (by omega))
      rw [decide_eq_false c2, Bool.false_and, if_neg (by decide)]
      simp only [bd_n, gd_n, ca2_n, ca_n, nbtF, pbfT, Bool.not_true, Bool.not_false, if_true, if_false, m_X7_toSit_b46, u1, hset, hmany, u3]
theorem allF_of {p : Nat → Bool} : ∀ {d i : Nat}, (∀ k, i ≤ k → k < i + d → p k = true) → allF p d i = true
  | 0, i, _ => rfl
  | d + 1, i, h => by
    show (p i && allF p d (i + 1)) = true
    rw [h i (by omega) (by omega), allF_of (fun k h1 h2 => h k (by omega) (by omega))]
    rfl
theorem allF_no {p : Nat → Bool} {d i k : Nat} (h1 : i ≤ k) (h2 : k < i + d) (h : p k = false) : allF p d i = false := by
  cases ha : allF p d i with
  | false => rfl
  | true => rw [allF_t ha k h1 h2] at h; cases h
theorem op_toSit (v z : Int32) : OpI (m_X6_toSit SH 1 v z) (m_X7_toSit SH 414 v z) := by
  intro μ σ c iX iM g hc
  have iM' := iM.thr 0
  have hv := g.pv
  have hP5 := hv.2.2.1
  have hB2 := hv.2.1
  cases hp : isIn v (pB (sP σ)) with
  | false =>
    refine fin_ro (r := -1) iX iM g ?_ ?_
    · simp only [bd_n, gd_n, ca2_n, ca_n, nbtF, pbfT, Bool.not_true, Bool.not_false, if_true, if_false, m_X6_toSit, iz6, iX.pr.1.iz, x_hasBooth iX.pr hv, hp]
    · simp only [bd_n, gd_n, ca2_n, ca_n, nbtF, pbfT, Bool.not_true, Bool.not_false, if_true, if_false, m_X7_toSit, iz7, y_noBooth iM'.2.2.2.1 hv, hp]
  | true =>
  obtain ⟨b, hb, eb⟩ := isIn_t hp (by omega)
  subst eb
  have hx0 := x_isRow (n := 4) (v := z) (μ := μ) (by omega) (by omega)
  have hy0 := y_isRow (n := 4) (v := z) (w := (1 : Int32) <<< (nI (pP (sP σ)) &&& 31) - 1) (μ := sI μ 414 0 0) (p := fun r k => decide (st 4 r k < 2 ^ pP (sP σ))) (by omega) (by omega) (fun r k _ => maskP_iff _ (by omega) _ (st_lt 4 r k))
  have h6 : gI (sI μ 414 0 0) 414 6 = nI (pP (sP σ)) := iM'.2.2.2.1.2.2.1
  rcases hx0 with ⟨r, hr, ez, hx⟩ | ⟨hz, hx⟩
  · subst ez
    rcases hy0 with ⟨r2, hr2, ez2, hy⟩ | ⟨hz2, hy⟩
    · have e2 : r = r2 := (nI_eq (by omega) (by omega)).mp ez2
      subst e2
      have hx : m_X6_isRow SH (nI r) 4 μ = _ := hx
      have hy : m_X7_isRow SH 4 (nI r) ((1 : Int32) <<< (nI (pP (sP σ)) &&& 31) - 1) (sI μ 414 0 0) = _ := hy
      have hcs : m_X6_canSit SH 1 (nI r) μ = _ := x_canSit (P := pP (sP σ)) (μ := μ) rfl iX.pr.1.iz iX.pr.2.2.2.1 (by omega) (by omega) 4 0 FU (by omega) (by rw [FU_eq]; omega)
      have pw : 2 ^ pP (sP σ) ≤ 32 := Nat.pow_le_pow_right (n := 2) (by decide) hP5
      cases hC : allF (fun k => decide (st 4 r k < 2 ^ pP (sP σ))) 4 0 with
      | false =>
        obtain ⟨k, k1, k2, k3⟩ := allF_f hC
        have hB : allF (sitB (pP (sP σ)) r) 4 0 = false := allF_no k1 k2 (by unfold sitB; rw [k3, Bool.false_and])
        rw [hC] at hy
        rw [hB] at hcs
        refine fin_ro (r := -2) iX iM g ?_ ?_
        · cases hA : allF (fun k => decide (st 4 r k ≤ 31)) 4 0 with
          | false =>
            rw [hA] at hx
            simp only [bd_n, gd_n, ca2_n, ca_n, nbtF, pbfT, Bool.not_true, Bool.not_false, if_true, if_false, m_X6_toSit, iz6, iX.pr.1.iz, x_hasBooth iX.pr hv, hp, hx]
          | true =>
            rw [hA] at hx
            simp only [bd_n, gd_n, ca2_n, ca_n, nbtF, pbfT, Bool.not_true, Bool.not_false, if_true, if_false, m_X6_toSit, iz6, iX.pr.1.iz, x_hasBooth iX.pr hv, hp, hx, hcs]
        · simp only [bd_n, gd_n, ca2_n, ca_n, nbtF, pbfT, Bool.not_true, Bool.not_false, if_true, if_false, m_X7_toSit, iz7, y_noBooth iM'.2.2.2.1 hv, hp, h6, hy]
      | true =>
        rw [hC] at hy
        have h32 : ∀ k, k < 4 → st 4 r k < 32 := fun k hk => by
          have := of_decide_eq_true (allF_t hC k (by omega) (by omega))
          omega
        have hA : allF (fun k => decide (st 4 r k ≤ 31)) 4 0 = true := allF_of (fun k h1 h2 => decide_eq_true (by have := h32 k (by omega); omega))
        rw [hA] at hx
        have hin := inS_lt (sN σ).1 b
        have e1 := x_sit (μ := μ) (show r < 2 ^ 31 by omega) h32 4 0 FU (inS (sN σ).1 b) 0 (by omega) (by rw [FU_eq]; omega) hin
        have e2 := y_sit (μ := sI μ 414 0 0) (show r < 2 ^ 31 by omega) h32 4 0 FU (inS (sN σ).1 b) 0 (by omega) (by rw [FU_eq]; omega) hin
        rw [show nI 0 = (0 : Int32) from rfl] at e1 e2
        have yin := ys_in (b := b) iM'.1 iM'.2.2.2.1 hv g.gp (by omega)
        cases hE : allF (fun k => decide (popc (st 4 r k) ≤ 4)) 4 0 with
        | false =>
          obtain ⟨k, k1, k2, k3⟩ := allF_f hE
          have hB : allF (sitB (pP (sP σ)) r) 4 0 = false := allF_no k1 k2 (by unfold sitB; rw [k3, Bool.and_false])
          rw [hB] at hcs
          rw [hE, if_neg (by decide)] at e2
          refine fin_ro (r := -2) iX iM g ?_ ?_
          · simp only [bd_n, gd_n, ca2_n, ca_n, nbtF, pbfT, Bool.not_true, Bool.not_false, if_true, if_false, m_X6_toSit, iz6, iX.pr.1.iz, x_hasBooth iX.pr hv, hp, hx, hcs]
          · simp only [bd_n, gd_n, ca2_n, ca_n, nbtF, pbfT, Bool.not_true, Bool.not_false, if_true, if_false, m_X7_toSit, iz7, y_noBooth iM'.2.2.2.1 hv, hp, h6, hy, yin, e2]
        | true =>
          have hB : allF (sitB (pP (sP σ)) r) 4 0 = true := allF_of (fun k h1 h2 => by unfold sitB; rw [allF_t hC k h1 h2, allF_t hE k h1 h2]; rfl)
          rw [hB] at hcs
          rw [hE, if_pos rfl] at e2
          refine fin_ro (r := nI (smS r 4 0 (inS (sN σ).1 b) 0)) iX iM g ?_ ?_
          · simp only [bd_n, gd_n, ca2_n, ca_n, nbtF, pbfT, Bool.not_true, Bool.not_false, if_true, if_false, m_X6_toSit, iz6, iz411, iX.pr.1.iz, x_hasBooth iX.pr hv, hp, hx, hcs, iX.1.now, xs_in iX.sr, e1]
          · simp only [bd_n, gd_n, ca2_n, ca_n, nbtF, pbfT, Bool.not_true, Bool.not_false, if_true, if_false, m_X7_toSit, iz7, y_noBooth iM'.2.2.2.1 hv, hp, h6, hy, yin, e2]
    · rw [isIn_nI hr (by decide)] at hz2
      cases hz2
  · rcases hy0 with ⟨r2, hr2, ez2, hy⟩ | ⟨hz2, hy⟩
    · rw [ez2, isIn_nI hr2 (by decide)] at hz
      cases hz
    · have hx : m_X6_isRow SH z 4 μ = _ := hx
      have hy : m_X7_isRow SH 4 z ((1 : Int32) <<< (nI (pP (sP σ)) &&& 31) - 1) (sI μ 414 0 0) = _ := hy
      refine fin_ro (r := -2) iX iM g ?_ ?_
      · simp only [bd_n, gd_n, ca2_n, ca_n, nbtF, pbfT, Bool.not_true, Bool.not_false, if_true, if_false, m_X6_toSit, iz6, iX.pr.1.iz, x_hasBooth iX.pr hv, hp, hx]
      · simp only [bd_n, gd_n, ca2_n, ca_n, nbtF, pbfT, Bool.not_true, Bool.not_false, if_true, if_false, m_X7_toSit, iz7, y_noBooth iM'.2.2.2.1 hv, hp, h6, hy]

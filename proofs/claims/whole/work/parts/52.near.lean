/-! who was seen near -/
def dist (t a : Nat) : Nat := if t < a then a - t else t - a
theorem neg_no : ∀ k, k < 1100 → ¬ k = 0 → ¬ (0 : Int32) ≤ -nI k := by decide +kernel
theorem j_absd {t a : Nat} {μ : Mu} (ht : t < 1100) (ha : a < 1100) : m_J9_abs_0f7a4 SH (nI t - nI a) μ = some (nI (dist t a), μ) := by
  unfold m_J9_abs_0f7a4 dist
  by_cases c : t < a
  · have e : nI t - nI a = -nI (a - t) := neg_sub' (by omega)
    rw [e, if_neg (neg_no _ (by omega) (by omega)), if_pos c, Int32.neg_neg]
  · have e : nI t - nI a = nI (t - a) := pk_sub (by omega)
    rw [e, if_pos (nI_pos' (by omega)), if_neg c]
theorem j_max1 {W : Nat} {μ : Mu} (hW : W < 2 ^ 31) : m_J9_max_7cf53 SH 1 (nI W) μ = some (nI (max 1 W), μ) := by
  unfold m_J9_max_7cf53
  by_cases c : 1 < W
  · have u : (1 : Int32) < nI W := nI_lt (a := 1) c hW
    rw [if_pos u, show max 1 W = W by omega]
  · have u : ¬ (1 : Int32) < nI W := Int32.not_lt.mpr (nI_le (b := 1) (by omega) (by decide))
    rw [if_neg u, show max 1 W = 1 by omega]
    rfl
def nearB (f : Nat → Int32) (b a W j : Nat) : Bool := decide (bo f j = nI b) && decide (dist (mN f j) a < max 1 W)
def snN (f : Nat → Int32) (b a W : Nat) : Nat → Nat
  | 0 => 0
  | j + 1 => if nearB f b a W j = true then snN f b a W j ||| sQ f j else snN f b a W j
def elB (f : Nat → Int32) (b a W p : Nat) : Nat → Bool
  | 0 => false
  | j + 1 => elB f b a W p j || (nearB f b a W j && hasB (sQ f j) p)
theorem snN_lt {f : Nat → Int32} {b a W : Nat} : ∀ {N : Nat}, LkOK f N → snN f b a W N < 32
  | 0, _ => by show 0 < 32; decide
  | N + 1, h => by
    have ih := snN_lt (b := b) (a := a) (W := W) (fun j hj => h j (by omega) : LkOK f N)
    show (if nearB f b a W N = true then snN f b a W N ||| sQ f N else snN f b a W N) < 32
    split
    · exact Nat.or_lt_two_pow (n := 5) ih (h N (by omega)).2.2.2
    · exact ih
theorem hasB_or : ∀ a, a < 32 → ∀ b, b < 32 → ∀ p, p < 5 → hasB (a ||| b) p = (hasB a p || hasB b p) := by decide +kernel
theorem sn_el {f : Nat → Int32} {b a W p : Nat} (hp : p < 5) : ∀ {N : Nat}, LkOK f N → hasB (snN f b a W N) p = elB f b a W p N
  | 0, _ => by
    show hasB 0 p = false
    rcases (show p = 0 ∨ p = 1 ∨ p = 2 ∨ p = 3 ∨ p = 4 by omega) with rfl | rfl | rfl | rfl | rfl <;> rfl
  | N + 1, h => by
    have ih := sn_el (b := b) (a := a) (W := W) hp (fun j hj => h j (by omega) : LkOK f N)
    have hl := snN_lt (b := b) (a := a) (W := W) (fun j hj => h j (by omega) : LkOK f N)
    show hasB (if nearB f b a W N = true then snN f b a W N ||| sQ f N else snN f b a W N) p = (elB f b a W p N || (nearB f b a W N && hasB (sQ f N) p))
    cases hn : nearB f b a W N with
    | true => rw [if_pos rfl, hasB_or _ hl _ (h N (by omega)).2.2.2 p hp, ih, Bool.true_and]
    | false => rw [if_neg (by decide), ih, Bool.false_and, Bool.or_false]
theorem x_sn_in {μ : Mu} {i b a W : Nat} {f : Nat → Int32} {k6 : Int32 → Int32 → Mu → Option (Int32 × Mu)} (h : SR μ 11 f) (hi : i < szF f) (hz : szF f ≤ 8) (hL : LkOK f (4 * szF f)) (ha : a < 1100) (hW : W ≤ 9) : ∀ (d l F : Nat), l + d = 4 → d < F → m_X4_seenNear_h25 SH k6 11 (nI b) (nI a) (nI W) (nI i) F (nI (snN f b a W (4 * i + l))) (nI l) μ = k6 (nI (snN f b a W (4 * (i + 1)))) (nI (i + 1)) μ := by
  have hst := h.2.2.2.2.2.2.1 i hi
  have htp := h.1.tpi (i := i) (by omega)
  have x1 : ix SH 11 12 (nI i) = true := h.1.ix1 (by omega)
  have p1 : (nI i).toNatClampNeg = i := nI_clamp (by omega)
  intro d
  induction d with
  | zero =>
    intro l F hl hF
    obtain ⟨F, rfl⟩ : ∃ g, F = g + 1 := ⟨F - 1, by omega⟩
    have e : l = 4 := by omega
    subst e
    show m_X4_seenNear_b25 SH k6 (m_X4_seenNear_h25 SH k6 11 (nI b) (nI a) (nI W) (nI i) F) 11 (nI b) (nI a) (nI W) (nI (snN f b a W (4 * i + 4))) (nI i) (nI 4) μ = _
    simp only [bd_n, gd_n, ca2_n, ca_n, nbtF, pbfT, Bool.not_true, Bool.not_false, if_true, if_false, m_X4_seenNear_b25, show ((4 : Int32) ≤ nI 4) = True from eq_true (by decide), m_X4_seenNear_b95, show nI i + 1 = nI (i + 1) from nI_add _ 1]
    rfl
  | succ d ih =>
    intro l F hl hF
    obtain ⟨F, rfl⟩ : ∃ g, F = g + 1 := ⟨F - 1, by omega⟩
    show m_X4_seenNear_b25 SH k6 (m_X4_seenNear_h25 SH k6 11 (nI b) (nI a) (nI W) (nI i) F) 11 (nI b) (nI a) (nI W) (nI (snN f b a W (4 * i + l))) (nI i) (nI l) μ = _
    obtain ⟨l1, l2, l3⟩ := lin_b (f := f) (i := i) (l := l) (by omega)
    obtain ⟨v1, v2, v3, v4⟩ := hL (4 * i + l) (by omega)
    have u1 : ((4 : Int32) ≤ nI l) = False := eq_false (nleL 4 (by omega) (by decide))
    have c0 : m_X5_cell SH (gR μ 12 i) (nI l) 0 μ = some (nI (mN f (4 * i + l)), μ) := by
      rw [← v1, l2]
      exact (x_cell (w := 0) htp (show l < 4 by omega) (by decide)).trans (by rw [hst.2.2.2 _ (by omega)]; rfl)
    have c1 : m_X5_cell SH (gR μ 12 i) (nI l) 1 μ = some (nI (sQ f (4 * i + l)), μ) := by
      rw [← v3, l3]
      exact (x_cell (w := 1) htp (show l < 4 by omega) (by decide)).trans (by rw [hst.2.2.2 _ (by omega)])
    have hb : gI μ (gR μ 12 i) 0 = bo f (4 * i + l) := by rw [l1]; exact hst.1
    rw [← ih (l + 1) F (by omega) (by omega), show 4 * i + (l + 1) = 4 * i + l + 1 by omega]
    have st : snN f b a W (4 * i + l + 1) = if nearB f b a W (4 * i + l) = true then snN f b a W (4 * i + l) ||| sQ f (4 * i + l) else snN f b a W (4 * i + l) := rfl
    rw [st]
    unfold nearB
    by_cases c : bo f (4 * i + l) = nI b
    · rw [decide_eq_true c, Bool.true_and]
      have hab := j_absd (μ := μ) (show mN f (4 * i + l) < 1100 by omega) ha
      have hmx := j_max1 (μ := μ) (show W < 2 ^ 31 by omega)
      have hd : dist (mN f (4 * i + l)) a < 1100 := by unfold dist; split <;> omega
      by_cases c2 : dist (mN f (4 * i + l)) a < max 1 W
      · have u2 : (nI (max 1 W) ≤ nI (dist (mN f (4 * i + l)) a)) = False := eq_false (nle_nI c2 (by omega))
        rw [decide_eq_true c2, if_pos rfl]
        simp only [bd_n, gd_n, ca2_n, ca_n, nbtF, pbfT, Bool.not_true, Bool.not_false, if_true, if_false, m_X4_seenNear_b25, u1, iz411, show gR μ 11 5 = 12 from h.1.2.1, x1, p1, show iz SH 5 (gR μ 12 i) = true from htp.iz, hb, c, c0, hab, hmx, u2, c1, fa_or, m_X4_seenNear_b89, show nI l + 1 = nI (l + 1) from nI_add _ 1]
      · have u2 : (nI (max 1 W) ≤ nI (dist (mN f (4 * i + l)) a)) = True := eq_true (nI_le (by omega) (by omega))
        rw [decide_eq_false c2, if_neg (by decide)]
        simp only [bd_n, gd_n, ca2_n, ca_n, nbtF, pbfT, Bool.not_true, Bool.not_false, if_true, if_false, m_X4_seenNear_b25, u1, iz411, show gR μ 11 5 = 12 from h.1.2.1, x1, p1, show iz SH 5 (gR μ 12 i) = true from htp.iz, hb, c, c0, hab, hmx, u2, m_X4_seenNear_b89, show nI l + 1 = nI (l + 1) from nI_add _ 1]
    · rw [decide_eq_false c, Bool.false_and, if_neg (by decide)]
      simp only [bd_n, gd_n, ca2_n, ca_n, nbtF, pbfT, Bool.not_true, Bool.not_false, if_true, if_false, m_X4_seenNear_b25, u1, iz411, show gR μ 11 5 = 12 from h.1.2.1, x1, p1, show iz SH 5 (gR μ 12 i) = true from htp.iz, hb, c, m_X4_seenNear_b89, show nI l + 1 = nI (l + 1) from nI_add _ 1]
theorem x_sn_out {μ : Mu} {k b a W : Nat} {f : Nat → Int32} (h : SR μ 11 f) (hk : f 202 = nI k) (hk8 : k ≤ 8) (hL : LkOK f (4 * k)) (ha : a < 1100) (hW : W ≤ 9) : ∀ (d i F : Nat), i + d = k → d < F → m_X4_seenNear_h6 SH 11 (nI b) (nI a) (nI W) F (nI (snN f b a W (4 * i))) (nI i) μ = some (nI (snN f b a W (4 * k)), μ) := by
  have hzk : szF f = k := by unfold szF; rw [hk, nI_clamp (by omega)]
  have h4 : gI μ 11 4 = nI k := h.2.2.2.2.1.trans hk
  intro d
  induction d with
  | zero =>
    intro i F hi hF
    obtain ⟨F, rfl⟩ : ∃ g, F = g + 1 := ⟨F - 1, by omega⟩
    have e : i = k := by omega
    subst e
    show m_X4_seenNear_b6 SH (m_X4_seenNear_h6 SH 11 (nI b) (nI a) (nI W) F) 11 (nI b) (nI a) (nI W) (nI (snN f b a W (4 * i))) (nI i) μ = _
    simp only [bd_n, gd_n, ca2_n, ca_n, nbtF, pbfT, Bool.not_true, Bool.not_false, if_true, if_false, m_X4_seenNear_b6, iz411, h4, show (nI i ≤ nI i) = True from eq_true (Int32.le_refl _)]
  | succ d ih =>
    intro i F hi hF
    obtain ⟨F, rfl⟩ : ∃ g, F = g + 1 := ⟨F - 1, by omega⟩
    show m_X4_seenNear_b6 SH (m_X4_seenNear_h6 SH 11 (nI b) (nI a) (nI W) F) 11 (nI b) (nI a) (nI W) (nI (snN f b a W (4 * i))) (nI i) μ = _
    have u1 : (nI k ≤ nI i) = False := eq_false (nle_nI (by omega) (by omega))
    have u2 : ((8 : Int32) ≤ nI i) = False := eq_false (nleL 8 (by omega) (by decide))
    have e := x_sn_in (k6 := m_X4_seenNear_h6 SH 11 (nI b) (nI a) (nI W) F) (b := b) h (show i < szF f by omega) (by omega) (by rw [hzk]; exact hL) ha hW 4 0 FU (by omega) (by rw [FU_eq]; omega)
    rw [show nI 0 = (0 : Int32) from rfl, Nat.add_zero, ih (i + 1) F (by omega) (by omega)] at e
    simp only [bd_n, gd_n, ca2_n, ca_n, nbtF, pbfT, Bool.not_true, Bool.not_false, if_true, if_false, m_X4_seenNear_b6, iz411, h4, u1, u2, e]
theorem x_sn {μ : Mu} {b a W : Nat} {f : Nat → Int32} (h : SR μ 11 f) (hk : f 202 = nI (szF f)) (hk8 : szF f ≤ 8) (hL : LkOK f (4 * szF f)) (ha : a < 1100) (hW : W ≤ 9) : m_X4_seenNear SH 11 (nI b) (nI a) (nI W) μ = some (nI (snN f b a W (4 * szF f)), μ) := x_sn_out h hk hk8 hL ha hW (szF f) 0 FU (by omega) (by rw [FU_eq]; omega)
theorem elB_skip {f : Nat → Int32} {b a W p i : Nat} (hb : ¬ f (50 + 19 * i) = nI b) : ∀ {d l : Nat}, l + d ≤ 4 → elB f b a W p (4 * i + (l + d)) = elB f b a W p (4 * i + l)
  | 0, l, _ => rfl
  | d + 1, l, h => by
    have e := elB_skip (a := a) (W := W) (p := p) hb (d := d) (l := l) (by omega)
    show (elB f b a W p (4 * i + (l + d)) || (nearB f b a W (4 * i + (l + d)) && hasB (sQ f (4 * i + (l + d))) p)) = _
    rw [e]
    have : nearB f b a W (4 * i + (l + d)) = false := by
      unfold nearB
      rw [(lin_b (by omega)).1, decide_eq_false hb, Bool.false_and]
    rw [this, Bool.false_and, Bool.or_false]
theorem y_el_in {μ : Mu} {i b a W p N : Nat} {f : Nat → Int32} {k6 : Int32 → Int32 → Mu → Option (Int32 × Mu)} (h : MR μ f) (hi : i < 8) (hN : 4 * (i + 1) ≤ N) (hL : LkOK f N) (ha : a < 1100) (hW : W ≤ 9) (hw : gI μ 414 4 = nI W) (hp : p < 5) : ∀ (d l F : Nat), l + d = 4 → d < F → m_X7_isElsewhere_h22 SH k6 414 (nI p) (nI b) (nI a) (nI i) F (bI (elB f b a W p (4 * i + l))) (nI l) μ = k6 (bI (elB f b a W p (4 * (i + 1)))) (nI (i + 1)) μ := by
  intro d
  induction d with
  | zero =>
    intro l F hl hF
    obtain ⟨F, rfl⟩ : ∃ g, F = g + 1 := ⟨F - 1, by omega⟩
    have e : l = 4 := by omega
    subst e
    show m_X7_isElsewhere_b22 SH k6 (m_X7_isElsewhere_h22 SH k6 414 (nI p) (nI b) (nI a) (nI i) F) 414 (nI p) (nI b) (nI a) (bI (elB f b a W p (4 * i + 4))) (nI i) (nI 4) μ = _
    simp only [bd_n, gd_n, ca2_n, ca_n, nbtF, pbfT, Bool.not_true, Bool.not_false, if_true, if_false, m_X7_isElsewhere_b22, show ((4 : Int32) ≤ nI 4) = True from eq_true (by decide), m_X7_isElsewhere_b117, show nI i + 1 = nI (i + 1) from nI_add _ 1]
    rfl
  | succ d ih =>
    intro l F hl hF
    obtain ⟨F, rfl⟩ : ∃ g, F = g + 1 := ⟨F - 1, by omega⟩
    show m_X7_isElsewhere_b22 SH k6 (m_X7_isElsewhere_h22 SH k6 414 (nI p) (nI b) (nI a) (nI i) F) 414 (nI p) (nI b) (nI a) (bI (elB f b a W p (4 * i + l))) (nI i) (nI l) μ = _
    obtain ⟨l1, l2, l3⟩ := lin_b (f := f) (i := i) (l := l) (by omega)
    obtain ⟨v1, v2, v3, v4⟩ := hL (4 * i + l) (by omega)
    have u1 : ((4 : Int32) ≤ nI l) = False := eq_false (nleL 4 (by omega) (by decide))
    have c0 : m_X7_lookOf SH 414 (nI i) (nI l) 0 μ = some (nI (mN f (4 * i + l)), μ) := by
      rw [← v1, l2]
      exact (y_lookOf (w := 0) h (show 50 + 19 * i + (3 + 4 * l + 0) < 205 by omega)).trans (by rw [show 50 + 19 * i + (3 + 4 * l + 0) = 50 + 19 * i + 3 + 4 * l by omega])
    have c1 : m_X7_lookOf SH 414 (nI i) (nI l) 1 μ = some (nI (sQ f (4 * i + l)), μ) := by
      rw [← v3, l3]
      exact (y_lookOf (w := 1) h (show 50 + 19 * i + (3 + 4 * l + 1) < 205 by omega)).trans (by rw [show 50 + 19 * i + (3 + 4 * l + 1) = 50 + 19 * i + 3 + (4 * l + 1) by omega])
    have hb : m_X7_of SH 414 (nI i) 0 μ = some (bo f (4 * i + l), μ) := by rw [l1]; exact y_of (w := 0) h (by omega)
    by_cases c : bo f (4 * i + l) = nI b
    · rw [← ih (l + 1) F (by omega) (by omega), show 4 * i + (l + 1) = 4 * i + l + 1 by omega]
      have st : elB f b a W p (4 * i + l + 1) = (elB f b a W p (4 * i + l) || (nearB f b a W (4 * i + l) && hasB (sQ f (4 * i + l)) p)) := rfl
      have hd : dist (mN f (4 * i + l)) a < 1100 := by unfold dist; split <;> omega
      have E : m_X7_isElsewhere_b22 SH k6 (m_X7_isElsewhere_h22 SH k6 414 (nI p) (nI b) (nI a) (nI i) F) 414 (nI p) (nI b) (nI a) (bI (elB f b a W p (4 * i + l))) (nI i) (nI l) μ = m_X7_isElsewhere_b67 SH k6 (m_X7_isElsewhere_h22 SH k6 414 (nI p) (nI b) (nI a) (nI i) F) 414 (nI p) (nI b) (nI a) (bI (elB f b a W p (4 * i + l))) (nI i) (nI l) (nI (dist (mN f (4 * i + l)) a)) μ := by
        unfold dist
        by_cases cc : mN f (4 * i + l) < a
        · have u3 : (nI a ≤ nI (mN f (4 * i + l))) = False := eq_false (nle_nI cc (by omega))
          rw [if_pos cc]
          simp only [bd_n, gd_n, ca2_n, ca_n, nbtF, pbfT, Bool.not_true, Bool.not_false, if_true, if_false, m_X7_isElsewhere_b22, u1, iz7, hb, c, c0, u3, show nI a - nI (mN f (4 * i + l)) = nI (a - mN f (4 * i + l)) from pk_sub (by omega)]
        · have u3 : (nI a ≤ nI (mN f (4 * i + l))) = True := eq_true (nI_le (by omega) (by omega))
          rw [if_neg cc]
          simp only [bd_n, gd_n, ca2_n, ca_n, nbtF, pbfT, Bool.not_true, Bool.not_false, if_true, if_false, m_X7_isElsewhere_b22, u1, iz7, hb, c, c0, u3, show nI (mN f (4 * i + l)) - nI a = nI (mN f (4 * i + l) - a) from pk_sub (by omega)]
      rw [E, st]
      have hh := ys_has (s := sQ f (4 * i + l)) (p := p) (μ := μ) (by omega) (by omega)
      cases he : elB f b a W p (4 * i + l) with
      | true =>
        rw [Bool.true_or]
        simp only [bd_n, gd_n, ca2_n, ca_n, nbtF, pbfT, Bool.not_true, Bool.not_false, if_true, if_false, m_X7_isElsewhere_b67, m_X7_isElsewhere_b104, m_X7_isElsewhere_b109, show nI l + 1 = nI (l + 1) from nI_add _ 1]
        rfl
      | false =>
        rw [Bool.false_or]
        cases hs : hasB (sQ f (4 * i + l)) p with
        | false =>
          rw [hs] at hh
          rw [Bool.and_false]
          simp only [bd_n, gd_n, ca2_n, ca_n, nbtF, pbfT, Bool.not_true, Bool.not_false, if_true, if_false, m_X7_isElsewhere_b67, iz7, c1, hh, m_X7_isElsewhere_b108, m_X7_isElsewhere_b109, show nI l + 1 = nI (l + 1) from nI_add _ 1]
          rfl
        | true =>
          rw [hs] at hh
          rw [Bool.and_true]
          unfold nearB
          rw [decide_eq_true c, Bool.true_and]
          by_cases z0 : dist (mN f (4 * i + l)) a = 0
          · have u4 : (nI (dist (mN f (4 * i + l)) a) = 0) = True := eq_true (by rw [z0]; rfl)
            rw [decide_eq_true (show dist (mN f (4 * i + l)) a < max 1 W by omega)]
            simp only [bd_n, gd_n, ca2_n, ca_n, nbtF, pbfT, Bool.not_true, Bool.not_false, if_true, if_false, m_X7_isElsewhere_b67, iz7, c1, hh, u4, m_X7_isElsewhere_b104, m_X7_isElsewhere_b109, show nI l + 1 = nI (l + 1) from nI_add _ 1]
            rfl
          · have u4 : (nI (dist (mN f (4 * i + l)) a) = 0) = False := eq_false (fun e => z0 ((nI_eq (b := 0) (by omega) (by decide)).mp e))
            by_cases z1 : dist (mN f (4 * i + l)) a < W
            · have u5 : (nI W ≤ nI (dist (mN f (4 * i + l)) a)) = False := eq_false (nle_nI z1 (by omega))
              rw [decide_eq_true (show dist (mN f (4 * i + l)) a < max 1 W by omega)]
              simp only [bd_n, gd_n, ca2_n, ca_n, nbtF, pbfT, Bool.not_true, Bool.not_false, if_true, if_false, m_X7_isElsewhere_b67, iz7, c1, hh, u4, hw, u5, m_X7_isElsewhere_b104, m_X7_isElsewhere_b109, show nI l + 1 = nI (l + 1) from nI_add _ 1]
              rfl
            · have u5 : (nI W ≤ nI (dist (mN f (4 * i + l)) a)) = True := eq_true (nI_le (by omega) (by omega))
              rw [decide_eq_false (show ¬ dist (mN f (4 * i + l)) a < max 1 W by omega)]
              simp only [bd_n, gd_n, ca2_n, ca_n, nbtF, pbfT, Bool.not_true, Bool.not_false, if_true, if_false, m_X7_isElsewhere_b67, iz7, c1, hh, u4, hw, u5, m_X7_isElsewhere_b108, m_X7_isElsewhere_b109, show nI l + 1 = nI (l + 1) from nI_add _ 1]
              rfl
    · have sk : elB f b a W p (4 * (i + 1)) = elB f b a W p (4 * i + l) := by
        rw [l1] at c
        have := elB_skip (a := a) (W := W) (p := p) c (d := d + 1) (l := l) (by omega)
        rw [hl] at this
        exact this
      rw [sk]
      simp only [bd_n, gd_n, ca2_n, ca_n, nbtF, pbfT, Bool.not_true, Bool.not_false, if_true, if_false, m_X7_isElsewhere_b22, u1, iz7, hb, c, m_X7_isElsewhere_b117, show nI i + 1 = nI (i + 1) from nI_add _ 1]
theorem y_el_out {μ : Mu} {k b a W p : Nat} {f : Nat → Int32} (h : MR μ f) (hk : f 202 = nI k) (hk8 : k ≤ 8) (hL : LkOK f (4 * k)) (ha : a < 1100) (hW : W ≤ 9) (hw : gI μ 414 4 = nI W) (hp : p < 5) : ∀ (d i F : Nat), i + d = k → d < F → m_X7_isElsewhere_h6 SH 414 (nI p) (nI b) (nI a) F (bI (elB f b a W p (4 * i))) (nI i) μ = some (bI (elB f b a W p (4 * k)), μ) := by
  have m202 : gI μ 422 202 = nI k := (h.2 202 (by decide)).trans hk
  intro d
  induction d with
  | zero =>
    intro i F hi hF
    obtain ⟨F, rfl⟩ : ∃ g, F = g + 1 := ⟨F - 1, by omega⟩
    have e : i = k := by omega
    subst e
    show m_X7_isElsewhere_b6 SH (m_X7_isElsewhere_h6 SH 414 (nI p) (nI b) (nI a) F) 414 (nI p) (nI b) (nI a) (bI (elB f b a W p (4 * i))) (nI i) μ = _
    simp only [bd_n, gd_n, ca2_n, ca_n, nbtF, pbfT, Bool.not_true, Bool.not_false, if_true, if_false, m_X7_isElsewhere_b6, iz7, h.1.pg, ixL202, c202, m202, show (nI i ≤ nI i) = True from eq_true (Int32.le_refl _), bI_and]
  | succ d ih =>
    intro i F hi hF
    obtain ⟨F, rfl⟩ : ∃ g, F = g + 1 := ⟨F - 1, by omega⟩
    show m_X7_isElsewhere_b6 SH (m_X7_isElsewhere_h6 SH 414 (nI p) (nI b) (nI a) F) 414 (nI p) (nI b) (nI a) (bI (elB f b a W p (4 * i))) (nI i) μ = _
    have u1 : (nI k ≤ nI i) = False := eq_false (nle_nI (by omega) (by omega))
    have e := y_el_in (k6 := m_X7_isElsewhere_h6 SH 414 (nI p) (nI b) (nI a) F) (b := b) h (show i < 8 by omega) (show 4 * (i + 1) ≤ 4 * k by omega) hL ha hW hw hp 4 0 FU (by omega) (by rw [FU_eq]; omega)
    rw [show nI 0 = (0 : Int32) from rfl, Nat.add_zero, ih (i + 1) F (by omega) (by omega)] at e
    simp only [bd_n, gd_n, ca2_n, ca_n, nbtF, pbfT, Bool.not_true, Bool.not_false, if_true, if_false, m_X7_isElsewhere_b6, iz7, h.1.pg, ixL202, c202, m202, u1, e]
theorem y_el {μ : Mu} {b a W p : Nat} {f : Nat → Int32} (h : MR μ f) (hk : f 202 = nI (szF f)) (hk8 : szF f ≤ 8) (hL : LkOK f (4 * szF f)) (ha : a < 1100) (hW : W ≤ 9) (hw : gI μ 414 4 = nI W) (hp : p < 5) : m_X7_isElsewhere SH 414 (nI p) (nI b) (nI a) μ = some (bI (elB f b a W p (4 * szF f)), μ) := y_el_out h hk hk8 hL ha hW hw hp (szF f) 0 FU (by omega) (by rw [FU_eq]; omega)

/-! forgery -/
def anyF (p : Nat → Bool) : Nat → Nat → Bool
  | 0, _ => false
  | d + 1, i => p i || anyF p d (i + 1)
theorem anyF_cg {p q : Nat → Bool} : ∀ {d i : Nat}, (∀ k, i ≤ k → k < i + d → p k = q k) → anyF p d i = anyF q d i
  | 0, _, _ => rfl
  | d + 1, i, h => by
    show (p i || anyF p d (i + 1)) = (q i || anyF q d (i + 1))
    rw [h i (by omega) (by omega), anyF_cg (fun k h1 h2 => h k (by omega) (by omega))]
theorem and0 : ∀ a, a < 32 → ∀ b, b < 32 → decide (nI a &&& nI b = 0) = !anyF (fun p => hasB b p && hasB a p) 5 0 := by decide +kernel
def shOK (r : Int32) (s : Nat) : Bool := decide (r = -9) || decide (r = nI s)
def badB (P : Pl) (f : Nat → Int32) (b m r i : Nat) : Bool := !(isFl P b (m + i * pE P b) && shOK (shL f b (m + i * pE P b) (4 * szF f)) (st 4 r i)) || anyF (fun p => hasB (st 4 r i) p && hasB (snN f (1 - b) (m + i * pE P b) (pW P) (4 * szF f)) p) 5 0
theorem x_canBe {μ : Mu} {σ : Sg} {c b a s : Nat} (iX : InvX μ σ) (g : Good σ c) (hc : c < 512) (hb : b < pB (sP σ)) (ha : a < 1100) (hs : s < 32) : m_X6_canBe SH 1 (nI b) (nI a) (nI s) μ = some (bI (isFl (sP σ) b a && shOK (shL (sN σ).1 b a (4 * szF (sN σ).1)) s && !anyF (fun p => hasB s p && hasB (snN (sN σ).1 (1 - b) a (pW (sP σ)) (4 * szF (sN σ).1)) p) 5 0), μ) := by
  have hv := g.pv
  have hB2 := hv.2.1
  have hsz := g.gp.sz
  have hL := g.gp.lks hc
  have hsh := x_shown (b := b) (a := a) iX.sr hsz.1 hsz.2
  rw [g.gp.sh] at hsh
  have hfl := x_flashesAt iX.pr hv hb ha
  have hsn := x_sn (b := 1 - b) (a := a) (W := pW (sP σ)) iX.sr hsz.1 hsz.2 hL ha hv.1
  have hlt := snN_lt (b := 1 - b) (a := a) (W := pW (sP σ)) hL
  have h36 : m_X6_canBe_b36 SH 1 (nI b) (nI a) (nI s) μ = some (bI (!anyF (fun p => hasB s p && hasB (snN (sN σ).1 (1 - b) a (pW (sP σ)) (4 * szF (sN σ).1)) p) 5 0), μ) := by
    rw [← and0 _ hlt s hs]
    by_cases c0 : nI (snN (sN σ).1 (1 - b) a (pW (sP σ)) (4 * szF (sN σ).1)) &&& nI s = 0
    · rw [decide_eq_true c0]
      simp only [bd_n, gd_n, ca2_n, ca_n, nbtF, pbfT, Bool.not_true, Bool.not_false, if_true, if_false, m_X6_canBe_b36, iz6, iz411, iX.1.now, iX.pr.1.iz, iX.pr.2.1, one_sub (show b < 2 by omega), hsn, c0]
      rfl
    · rw [decide_eq_false c0]
      simp only [bd_n, gd_n, ca2_n, ca_n, nbtF, pbfT, Bool.not_true, Bool.not_false, if_true, if_false, m_X6_canBe_b36, iz6, iz411, iX.1.now, iX.pr.1.iz, iX.pr.2.1, one_sub (show b < 2 by omega), hsn, c0]
      rfl
  cases hF : isFl (sP σ) b a with
  | false =>
    rw [hF] at hfl
    rw [Bool.false_and, Bool.false_and]
    simp only [bd_n, gd_n, ca2_n, ca_n, nbtF, pbfT, Bool.not_true, Bool.not_false, if_true, if_false, m_X6_canBe, iz6, iz411, iX.1.now, hsh, iX.pr.1.iz, hfl]
    rfl
  | true =>
    rw [hF] at hfl
    rw [Bool.true_and]
    unfold shOK
    by_cases c1 : shL (sN σ).1 b a (4 * szF (sN σ).1) = -9
    · rw [decide_eq_true c1, Bool.true_or, Bool.true_and, ← h36]
      simp only [bd_n, gd_n, ca2_n, ca_n, nbtF, pbfT, Bool.not_true, Bool.not_false, if_true, if_false, m_X6_canBe, iz6, iz411, iX.1.now, hsh, iX.pr.1.iz, hfl, c1]
    · rw [decide_eq_false c1, Bool.false_or]
      by_cases c2 : shL (sN σ).1 b a (4 * szF (sN σ).1) = nI s
      · rw [decide_eq_true c2, Bool.true_and, ← h36]
        rw [c2] at hsh c1
        simp only [bd_n, gd_n, ca2_n, ca_n, nbtF, pbfT, Bool.not_true, Bool.not_false, if_true, if_false, m_X6_canBe, iz6, iz411, iX.1.now, hsh, iX.pr.1.iz, hfl, c1]
      · rw [decide_eq_false c2, Bool.false_and]
        simp only [bd_n, gd_n, ca2_n, ca_n, nbtF, pbfT, Bool.not_true, Bool.not_false, if_true, if_false, m_X6_canBe, iz6, iz411, iX.1.now, hsh, iX.pr.1.iz, hfl, c1, c2]
        rfl
theorem x_forge {μ : Mu} {σ : Sg} {c b m r : Nat} (iX : InvX μ σ) (g : Good σ c) (hc : c < 512) (hb : b < pB (sP σ)) (hm : m < 1000) (hr : r < 2 ^ 31) (h32 : ∀ k, k < 4 → st 4 r k < 32) : ∀ (d i F : Nat), i + d = 4 → d < F → m_X6_forgery_h34 SH 1 (nI b) (nI m) (nI r) F (nI i) μ = some (srch (badB (sP σ) (sN σ).1 b m r) d i, μ) := by
  have hv := g.pv
  have hE := hv.2.2.2.1 b hb
  intro d
  induction d with
  | zero =>
    intro i F hi hF
    obtain ⟨F, rfl⟩ : ∃ g, F = g + 1 := ⟨F - 1, by omega⟩
    have e : i = 4 := by omega
    subst e
    show m_X6_forgery_b34 SH (m_X6_forgery_h34 SH 1 (nI b) (nI m) (nI r) F) 1 (nI b) (nI m) (nI r) (nI 4) μ = _
    unfold m_X6_forgery_b34
    rw [if_pos (by decide)]
    rfl
  | succ d ih =>
    intro i F hi hF
    obtain ⟨F, rfl⟩ : ∃ g, F = g + 1 := ⟨F - 1, by omega⟩
    show m_X6_forgery_b34 SH (m_X6_forgery_h34 SH 1 (nI b) (nI m) (nI r) F) 1 (nI b) (nI m) (nI r) (nI i) μ = some (if badB (sP σ) (sN σ).1 b m r i = true then nI i else srch (badB (sP σ) (sN σ).1 b m r) d (i + 1), μ)
    have u1 : ((4 : Int32) ≤ nI i) = False := eq_false (nleL 4 (by omega) (by decide))
    have hev := x_everyOf iX.pr hv hb
    have hset : m_X6_setOf SH (nI r) 4 (nI i) μ = some (nI (st 4 r i), μ) := x_setOf (n := 4) (by omega) (by omega) hr
    have ei : i * pE (sP σ) b ≤ 27 := Nat.mul_le_mul (show i ≤ 3 by omega) hE.2.2
    have hat : nI m + nI i * nI (pE (sP σ) b) = nI (m + i * pE (sP σ) b) := by rw [pk_mul, nI_add]
    have hcb := x_canBe (a := m + i * pE (sP σ) b) (s := st 4 r i) iX g hc hb (by omega) (h32 i (by omega))
    have eb : badB (sP σ) (sN σ).1 b m r i = !(isFl (sP σ) b (m + i * pE (sP σ) b) && shOK (shL (sN σ).1 b (m + i * pE (sP σ) b) (4 * szF (sN σ).1)) (st 4 r i) && !anyF (fun p => hasB (st 4 r i) p && hasB (snN (sN σ).1 (1 - b) (m + i * pE (sP σ) b) (pW (sP σ)) (4 * szF (sN σ).1)) p) 5 0) := by
      unfold badB
      cases isFl (sP σ) b (m + i * pE (sP σ) b) && shOK (shL (sN σ).1 b (m + i * pE (sP σ) b) (4 * szF (sN σ).1)) (st 4 r i) <;> cases anyF (fun p => hasB (st 4 r i) p && hasB (snN (sN σ).1 (1 - b) (m + i * pE (sP σ) b) (pW (sP σ)) (4 * szF (sN σ).1)) p) 5 0 <;> rfl
    rw [eb]
    cases hh : (isFl (sP σ) b (m + i * pE (sP σ) b) && shOK (shL (sN σ).1 b (m + i * pE (sP σ) b) (4 * szF (sN σ).1)) (st 4 r i) && !anyF (fun p => hasB (st 4 r i) p && hasB (snN (sN σ).1 (1 - b) (m + i * pE (sP σ) b) (pW (sP σ)) (4 * szF (sN σ).1)) p) 5 0) with
    | true =>
      rw [hh] at hcb
      rw [Bool.not_true, if_neg (by decide), ← ih (i + 1) F (by omega) (by omega)]
      simp only [bd_n, gd_n, ca2_n, ca_n, nbtF, pbfT, Bool.not_true, Bool.not_false, if_true, if_false, m_X6_forgery_b34, u1, iz6, iX.pr.1.iz, hev, hset, hat, hcb, show nI i + 1 = nI (i + 1) from nI_add _ 1]
    | false =>
      rw [hh] at hcb
      rw [Bool.not_false, if_pos rfl]
      simp only [bd_n, gd_n, ca2_n, ca_n, nbtF, pbfT, Bool.not_true, Bool.not_false, if_true, if_false, m_X6_forgery_b34, u1, iz6, iX.pr.1.iz, hev, hset, hat, hcb]
theorem y_forge_in {μ : Mu} {b a s i W : Nat} {m r : Int32} {f : Nat → Int32} {k43 : Int32 → Mu → Option (Int32 × Mu)} (h : MR μ f) (hk : f 202 = nI (szF f)) (hk8 : szF f ≤ 8) (hL : LkOK f (4 * szF f)) (ha : a < 1100) (hW : W ≤ 9) (hw : gI μ 414 4 = nI W) (hb : b < 2) (hs : s < 32) : ∀ (d p F : Nat) (v : Bool), p + d = 5 → d < F → m_X7_forgery_h114 SH k43 414 (nI b) m r (nI i) (nI a) (nI s) F (bI v) (nI p) μ = m_X7_forgery_b162 SH k43 414 (nI b) m r (nI i) (bI (v || anyF (fun p => hasB s p && hasB (snN f (1 - b) a W (4 * szF f)) p) d p)) μ := by
  intro d
  induction d with
  | zero =>
    intro p F v hp hF
    obtain ⟨F, rfl⟩ : ∃ g, F = g + 1 := ⟨F - 1, by omega⟩
    have e : p = 5 := by omega
    subst e
    show m_X7_forgery_b114 SH k43 (m_X7_forgery_h114 SH k43 414 (nI b) m r (nI i) (nI a) (nI s) F) 414 (nI b) m r (nI i) (nI a) (nI s) (bI v) (nI 5) μ = m_X7_forgery_b162 SH k43 414 (nI b) m r (nI i) (bI (v || false)) μ
    simp only [bd_n, gd_n, ca2_n, ca_n, nbtF, pbfT, Bool.not_true, Bool.not_false, if_true, if_false, m_X7_forgery_b114, show ((5 : Int32) ≤ nI 5) = True from eq_true (by decide), Bool.or_false]
  | succ d ih =>
    intro p F v hp hF
    obtain ⟨F, rfl⟩ : ∃ g, F = g + 1 := ⟨F - 1, by omega⟩
    show m_X7_forgery_b114 SH k43 (m_X7_forgery_h114 SH k43 414 (nI b) m r (nI i) (nI a) (nI s) F) 414 (nI b) m r (nI i) (nI a) (nI s) (bI v) (nI p) μ = m_X7_forgery_b162 SH k43 414 (nI b) m r (nI i) (bI (v || ((hasB s p && hasB (snN f (1 - b) a W (4 * szF f)) p) || anyF (fun p => hasB s p && hasB (snN f (1 - b) a W (4 * szF f)) p) d (p + 1)))) μ
    have u1 : ((5 : Int32) ≤ nI p) = False := eq_false (nleL 5 (by omega) (by decide))
    have ihv := fun v => ih (p + 1) F v (by omega) (by omega)
    rw [← Bool.or_assoc, ← ihv]
    cases v with
    | true =>
      rw [Bool.true_or]
      simp only [bd_n, gd_n, ca2_n, ca_n, nbtF, pbfT, Bool.not_true, Bool.not_false, if_true, if_false, m_X7_forgery_b114, u1, m_X7_forgery_b149, m_X7_forgery_b154, show nI p + 1 = nI (p + 1) from nI_add _ 1]
      rfl
    | false =>
      rw [Bool.false_or]
      have hh := ys_has (s := s) (p := p) (μ := μ) (by omega) (by omega)
      have hel := y_el (b := 1 - b) (p := p) h hk hk8 hL ha hW hw (by omega)
      rw [← sn_el (by omega) hL] at hel
      cases h1 : hasB s p with
      | false =>
        rw [h1] at hh
        rw [Bool.false_and]
        simp only [bd_n, gd_n, ca2_n, ca_n, nbtF, pbfT, Bool.not_true, Bool.not_false, if_true, if_false, m_X7_forgery_b114, u1, hh, m_X7_forgery_b153, m_X7_forgery_b154, show nI p + 1 = nI (p + 1) from nI_add _ 1]
        rfl
      | true =>
        rw [h1] at hh
        rw [Bool.true_and]
        cases h2 : hasB (snN f (1 - b) a W (4 * szF f)) p with
        | false =>
          rw [h2] at hel
          simp only [bd_n, gd_n, ca2_n, ca_n, nbtF, pbfT, Bool.not_true, Bool.not_false, if_true, if_false, m_X7_forgery_b114, u1, hh, iz7, one_sub hb, hel, m_X7_forgery_b153, m_X7_forgery_b154, show nI p + 1 = nI (p + 1) from nI_add _ 1]
          rfl
        | true =>
          rw [h2] at hel
          simp only [bd_n, gd_n, ca2_n, ca_n, nbtF, pbfT, Bool.not_true, Bool.not_false, if_true, if_false, m_X7_forgery_b114, u1, hh, iz7, one_sub hb, hel, m_X7_forgery_b149, m_X7_forgery_b154, show nI p + 1 = nI (p + 1) from nI_add _ 1]
          rfl
theorem y_forge {μ : Mu} {σ : Sg} {c b m r : Nat} (iM : InvM μ σ) (g : Good σ c) (hc : c < 512) (hb : b < pB (sP σ)) (hm : m < 1000) (hr : r < 2 ^ 31) (h32 : ∀ k, k < 4 → st 4 r k < 32) : ∀ (d i F : Nat), i + d = 4 → d < F → m_X7_forgery_h43 SH 414 (nI b) (nI m) (nI r) F (nI i) μ = some (srch (badB (sP σ) (sN σ).1 b m r) d i, μ) := by
  have hv := g.pv
  have hB2 := hv.2.1
  have hE := hv.2.2.2.1 b hb
  have hsz := g.gp.sz
  have hL := g.gp.lks hc
  intro d
  induction d with
  | zero =>
    intro i F hi hF
    obtain ⟨F, rfl⟩ : ∃ g, F = g + 1 := ⟨F - 1, by omega⟩
    have e : i = 4 := by omega
    subst e
    show m_X7_forgery_b43 SH (m_X7_forgery_h43 SH 414 (nI b) (nI m) (nI r) F) 414 (nI b) (nI m) (nI r) (nI 4) μ = _
    unfold m_X7_forgery_b43
    rw [if_pos (by decide)]
    rfl
  | succ d ih =>
    intro i F hi hF
    obtain ⟨F, rfl⟩ : ∃ g, F = g + 1 := ⟨F - 1, by omega⟩
    show m_X7_forgery_b43 SH (m_X7_forgery_h43 SH 414 (nI b) (nI m) (nI r) F) 414 (nI b) (nI m) (nI r) (nI i) μ = some (if badB (sP σ) (sN σ).1 b m r i = true then nI i else srch (badB (sP σ) (sN σ).1 b m r) d (i + 1), μ)
    have u1 : ((4 : Int32) ≤ nI i) = False := eq_false (nleL 4 (by omega) (by decide))
    have hset : m_X7_setOf SH 4 (nI r) (nI i) μ = some (nI (st 4 r i), μ) := y_setOf (n := 4) (by omega) (by omega) hr
    have ei : i * pE (sP σ) b ≤ 27 := Nat.mul_le_mul (show i ≤ 3 by omega) hE.2.2
    have hat : nI m + nI i * nI (pE (sP σ) b) = nI (m + i * pE (sP σ) b) := by rw [pk_mul, nI_add]
    have hs := h32 i (by omega)
    have hsh := y_shown (b := b) (a := m + i * pE (sP σ) b) iM.1 hsz.1 hsz.2
    have hfl := y_isFlash (b := b) (m := m + i * pE (sP σ) b) iM.1.1 iM.2.2.2.1 hv hb (by omega)
    have hin := fun v => y_forge_in (i := i) (m := nI m) (r := nI r) (k43 := m_X7_forgery_h43 SH 414 (nI b) (nI m) (nI r) F) (b := b) (a := m + i * pE (sP σ) b) (s := st 4 r i) iM.1 hsz.1 hsz.2 hL (by omega) hv.1 iM.2.2.2.1.1 (by omega) hs 5 0 FU v (by omega) (by rw [FU_eq]; omega)
    rw [show nI 0 = (0 : Int32) from rfl] at hin
    have x1 : ix SH 8 417 (nI b) = true := ix_of (n := 2) rfl (by omega) (by decide)
    have p1 : (nI b).toNatClampNeg = b := nI_clamp (by omega)
    have hev : gI μ 417 b = nI (pE (sP σ) b) := (iM.2.2.2.1.2.2.2.1 b hb).2
    have E : m_X7_forgery_b43 SH (m_X7_forgery_h43 SH 414 (nI b) (nI m) (nI r) F) 414 (nI b) (nI m) (nI r) (nI i) μ = m_X7_forgery_b162 SH (m_X7_forgery_h43 SH 414 (nI b) (nI m) (nI r) F) 414 (nI b) (nI m) (nI r) (nI i) (bI (badB (sP σ) (sN σ).1 b m r i)) μ := by
      have hq := hin (!(isFl (sP σ) b (m + i * pE (sP σ) b) && shOK (shL (sN σ).1 b (m + i * pE (sP σ) b) (4 * szF (sN σ).1)) (st 4 r i)))
      refine Eq.trans ?_ hq
      cases hF : isFl (sP σ) b (m + i * pE (sP σ) b) with
      | false =>
        rw [hF] at hfl
        rw [Bool.false_and, Bool.not_false]
        simp only [bd_n, gd_n, ca2_n, ca_n, nbtF, pbfT, Bool.not_true, Bool.not_false, if_true, if_false, m_X7_forgery_b43, u1, iz7, show gR μ 414 8 = 417 from iM.1.1.2.2.1, x1, p1, hev, hat, hset, hsh, hfl, m_X7_forgery_b104, m_X7_forgery_b109]
        rfl
      | true =>
        rw [hF] at hfl
        rw [Bool.true_and]
        unfold shOK
        by_cases c1 : shL (sN σ).1 b (m + i * pE (sP σ) b) (4 * szF (sN σ).1) = -9
        · rw [decide_eq_true c1, Bool.true_or, Bool.not_true]
          simp only [bd_n, gd_n, ca2_n, ca_n, nbtF, pbfT, Bool.not_true, Bool.not_false, if_true, if_false, m_X7_forgery_b43, u1, iz7, show gR μ 414 8 = 417 from iM.1.1.2.2.1, x1, p1, hev, hat, hset, hsh, hfl, c1, m_X7_forgery_b108, m_X7_forgery_b109]
          rfl
        · rw [decide_eq_false c1, Bool.false_or]
          by_cases c2 : shL (sN σ).1 b (m + i * pE (sP σ) b) (4 * szF (sN σ).1) = nI (st 4 r i)
          · rw [decide_eq_true c2, Bool.not_true]
            rw [c2] at hsh c1
            simp only [bd_n, gd_n, ca2_n, ca_n, nbtF, pbfT, Bool.not_true, Bool.not_false, if_true, if_false, m_X7_forgery_b43, u1, iz7, show gR μ 414 8 = 417 from iM.1.1.2.2.1, x1, p1, hev, hat, hset, hsh, hfl, c1, m_X7_forgery_b108, m_X7_forgery_b109]
            rfl
          · rw [decide_eq_false c2, Bool.not_false]
            simp only [bd_n, gd_n, ca2_n, ca_n, nbtF, pbfT, Bool.not_true, Bool.not_false, if_true, if_false, m_X7_forgery_b43, u1, iz7, show gR μ 414 8 = 417 from iM.1.1.2.2.1, x1, p1, hev, hat, hset, hsh, hfl, c1, c2, m_X7_forgery_b104, m_X7_forgery_b109]
            rfl
    rw [E]
    cases hb : badB (sP σ) (sN σ).1 b m r i with
    | true =>
      rw [if_pos rfl]
      simp only [bd_n, gd_n, ca2_n, ca_n, nbtF, pbfT, Bool.not_true, Bool.not_false, if_true, if_false, m_X7_forgery_b162]
    | false =>
      rw [if_neg (by decide), ← ih (i + 1) F (by omega) (by omega)]
      simp only [bd_n, gd_n, ca2_n, ca_n, nbtF, pbfT, Bool.not_true, Bool.not_false, if_true, if_false, m_X7_forgery_b162, show nI i + 1 = nI (i + 1) from nI_add _ 1]
theorem y_asked {v : Int32} {μ : Mu} : m_X7_in SH v.toInt64 0 999 μ = some (bI (isIn v 1000), μ) := by rw [y_in, inL_of (n := 1000) (by decide) rfl]
theorem op_forgery (v w z : Int32) : OpI (m_X6_forgery SH 1 v w z) (m_X7_forgery SH 414 v w z) := by
  intro μ σ c iX iM g hc
  have iM' := iM.thr 0
  have hv := g.pv
  have hB2 := hv.2.1
  cases hp : isIn v (pB (sP σ)) with
  | false =>
    refine fin_ro (r := -1) iX iM g ?_ ?_
    · simp only [bd_n, gd_n, ca2_n, ca_n, nbtF, pbfT, Bool.not_true, Bool.not_false, if_true, if_false, m_X6_forgery, iz6, iX.pr.1.iz, x_hasBooth iX.pr hv, hp]
    · simp only [bd_n, gd_n, ca2_n, ca_n, nbtF, pbfT, Bool.not_true, Bool.not_false, if_true, if_false, m_X7_forgery, iz7, y_noBooth iM'.2.2.2.1 hv, hp]
  | true =>
  obtain ⟨b, hb, eb⟩ := isIn_t hp (by omega)
  subst eb
  cases hm : isIn w 1000 with
  | false =>
    refine fin_ro (r := -2) iX iM g ?_ ?_
    · simp only [bd_n, gd_n, ca2_n, ca_n, nbtF, pbfT, Bool.not_true, Bool.not_false, if_true, if_false, m_X6_forgery, iz6, iX.pr.1.iz, x_hasBooth iX.pr hv, hp, x_isAsked, hm]
    · simp only [bd_n, gd_n, ca2_n, ca_n, nbtF, pbfT, Bool.not_true, Bool.not_false, if_true, if_false, m_X7_forgery, iz7, y_noBooth iM'.2.2.2.1 hv, hp, y_asked, hm]
  | true =>
  obtain ⟨m, hmm, em⟩ := isIn_t hm (by decide)
  subst em
  rcases x_isRow (n := 4) (v := z) (μ := μ) (by omega) (by omega) with ⟨r, hr, ez, hx⟩ | ⟨hz, hx⟩
  · subst ez
    rcases y_isRow31 (n := 4) (v := nI r) (μ := sI μ 414 0 0) (by omega) (by omega) with ⟨r2, hr2, ez2, hy⟩ | ⟨hz2, hy⟩
    · have e2 : r = r2 := (nI_eq (by omega) (by omega)).mp ez2
      subst e2
      have hx : m_X6_isRow SH (nI r) 4 μ = _ := hx
      have hy : m_X7_isRow SH 4 (nI r) 31 (sI μ 414 0 0) = _ := hy
      cases hA : allF (fun k => decide (st 4 r k ≤ 31)) 4 0 with
      | false =>
        rw [hA] at hx hy
        refine fin_ro (r := -2) iX iM g ?_ ?_
        · simp only [bd_n, gd_n, ca2_n, ca_n, nbtF, pbfT, Bool.not_true, Bool.not_false, if_true, if_false, m_X6_forgery, iz6, iX.pr.1.iz, x_hasBooth iX.pr hv, hp, x_isAsked, hm, hx]
        · simp only [bd_n, gd_n, ca2_n, ca_n, nbtF, pbfT, Bool.not_true, Bool.not_false, if_true, if_false, m_X7_forgery, iz7, y_noBooth iM'.2.2.2.1 hv, hp, y_asked, hm, hy]
      | true =>
        rw [hA] at hx hy
        have h32 : ∀ k, k < 4 → st 4 r k < 32 := fun k hk => by
          have := of_decide_eq_true (allF_t hA k (by omega) (by omega))
          omega
        have e1 := x_forge iX g hc hb hmm (show r < 2 ^ 31 by omega) h32 4 0 FU (by omega) (by rw [FU_eq]; omega)
        have e2 := y_forge iM' g hc hb hmm (show r < 2 ^ 31 by omega) h32 4 0 FU (by omega) (by rw [FU_eq]; omega)
        rw [show nI 0 = (0 : Int32) from rfl] at e1 e2
        refine fin_ro (r := srch (badB (sP σ) (sN σ).1 b m r) 4 0) iX iM g ?_ ?_
        · simp only [bd_n, gd_n, ca2_n, ca_n, nbtF, pbfT, Bool.not_true, Bool.not_false, if_true, if_false, m_X6_forgery, iz6, iX.pr.1.iz, x_hasBooth iX.pr hv, hp, x_isAsked, hm, hx, e1]
        · simp only [bd_n, gd_n, ca2_n, ca_n, nbtF, pbfT, Bool.not_true, Bool.not_false, if_true, if_false, m_X7_forgery, iz7, y_noBooth iM'.2.2.2.1 hv, hp, y_asked, hm, hy, e2]
    · rw [isIn_nI hr (by decide)] at hz2
      cases hz2
  · rcases y_isRow31 (n := 4) (v := z) (μ := sI μ 414 0 0) (by omega) (by omega) with ⟨r2, hr2, ez2, hy⟩ | ⟨hz2, hy⟩
    · rw [ez2, isIn_nI hr2 (by decide)] at hz
      cases hz
    · have hx : m_X6_isRow SH z 4 μ = _ := hx
      have hy : m_X7_isRow SH 4 z 31 (sI μ 414 0 0) = _ := hy
      refine fin_ro (r := -2) iX iM g ?_ ?_
      · simp only [bd_n, gd_n, ca2_n, ca_n, nbtF, pbfT, Bool.not_true, Bool.not_false, if_true, if_false, m_X6_forgery, iz6, iX.pr.1.iz, x_hasBooth iX.pr hv, hp, x_isAsked, hm, hx]
      · simp only [bd_n, gd_n, ca2_n, ca_n, nbtF, pbfT, Bool.not_true, Bool.not_false, if_true, if_false, m_X7_forgery, iz7, y_noBooth iM'.2.2.2.1 hv, hp, y_asked, hm, hy]

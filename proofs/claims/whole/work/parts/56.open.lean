/-! open eyes -/
def subN (t s : Nat) : Nat → Bool
  | 0 => true
  | N + 1 => subN t s N && (!hasB t N || hasB s N)
theorem sub_5 : ∀ t, t < 32 → ∀ s, s < 32 → decide (nI t &&& (nI s ^^^ (-1)) = 0) = subN t s 5 := by decide +kernel
def fc (P : Pl) (s t i : Nat) : Nat := if hasB s i = true then (if hasB t i = true then 10 - pT P i else pT P i) else 1
def ow (P : Pl) (s t : Nat) : Nat → Nat
  | 0 => 1
  | i + 1 => ow P s t i * fc P s t i
def hF (P : Pl) (s i : Nat) (b : Bool) : Nat := if hasB s i = true then (if b = true then 10 - pT P i else pT P i) else (if b = true then 0 else 1)
def pr (h : Nat → Bool → Nat) (t : Nat) : Nat → Nat
  | 0 => 1
  | i + 1 => pr h t i * h i (hasB t i)
def prs (h : Nat → Bool → Nat) : Nat → Nat
  | 0 => 1
  | i + 1 => prs h i * (h i false + h i true)
theorem sm_mul (c : Nat) (f : Nat → Nat) : ∀ n, fb_sm (fun k => f k * c) n = fb_sm f n * c
  | 0 => (Nat.zero_mul c).symm
  | n + 1 => by rw [fb_sm_succ, fb_sm_succ, sm_mul c f n, Nat.add_mul]
theorem hb_lo : ∀ N, N < 5 → ∀ t, t < 2 ^ N → hasB t N = false ∧ hasB (2 ^ N + t) N = true ∧ ∀ i, i < N → hasB (2 ^ N + t) i = hasB t i := by decide +kernel
theorem pr_cg {h : Nat → Bool → Nat} {t t' : Nat} : ∀ {N : Nat}, (∀ i, i < N → hasB t' i = hasB t i) → pr h t' N = pr h t N
  | 0, _ => rfl
  | N + 1, q => by
    show pr h t' N * h N (hasB t' N) = pr h t N * h N (hasB t N)
    rw [pr_cg (fun i hi => q i (by omega)), q N (by omega)]
theorem pr_sum (h : Nat → Bool → Nat) : ∀ N, N ≤ 5 → fb_sm (fun t => pr h t N) (2 ^ N) = prs h N
  | 0, _ => rfl
  | N + 1, hN => by
    have ih := pr_sum h N (by omega)
    rw [show 2 ^ (N + 1) = 2 ^ N + 2 ^ N by rw [Nat.pow_succ]; omega, fb_sm_split]
    have a : fb_sm (fun t => pr h t (N + 1)) (2 ^ N) = prs h N * h N false := by
      rw [← ih, ← sm_mul]
      refine fb_sm_cong (fun t ht => ?_)
      show pr h t N * h N (hasB t N) = _
      rw [(hb_lo N (by omega) t ht).1]
    have b : fb_sm (fun k => (fun t => pr h t (N + 1)) (2 ^ N + k)) (2 ^ N) = prs h N * h N true := by
      rw [← ih, ← sm_mul]
      refine fb_sm_cong (fun t ht => ?_)
      show pr h (2 ^ N + t) N * h N (hasB (2 ^ N + t) N) = _
      rw [(hb_lo N (by omega) t ht).2.1, pr_cg (hb_lo N (by omega) t ht).2.2]
    rw [a, b]
    exact (Nat.mul_add _ _ _).symm
theorem pr_ow {P : Pl} {s t : Nat} : ∀ N, pr (hF P s) t N = if subN t s N = true then ow P s t N else 0
  | 0 => rfl
  | N + 1 => by
    show pr (hF P s) t N * hF P s N (hasB t N) = if (subN t s N && (!hasB t N || hasB s N)) = true then ow P s t N * fc P s t N else 0
    rw [pr_ow N]
    unfold hF fc
    cases subN t s N <;> cases hasB t N <;> cases hasB s N <;> simp
theorem prs_10 : ∀ s, s < 32 → prs (fun i b => if hasB s i = true then (if b = true then 10 else 0) else (if b = true then 0 else 1)) 5 = 10 ^ popc s := by decide +kernel
theorem prs_cg {h h' : Nat → Bool → Nat} : ∀ {N : Nat}, (∀ i, i < N → h i false + h i true = h' i false + h' i true) → prs h N = prs h' N
  | 0, _ => rfl
  | N + 1, q => by
    show prs h N * (h N false + h N true) = prs h' N * (h' N false + h' N true)
    rw [prs_cg (fun i hi => q i (by omega)), q N (by omega)]
def oW (P : Pl) (s t : Nat) : Nat := if subN t s 5 = true then ow P s t 5 else 0
def oH (P : Pl) (s k t : Nat) : Nat := if subN t s 5 = true ∧ k ≤ popc t then ow P s t 5 else 0
theorem oW_all {P : Pl} {s : Nat} (hs : s < 32) (ht : ∀ i, i < 5 → hasB s i = true → pT P i ≤ 10) : fb_sm (oW P s) 32 = 10 ^ popc s := by
  rw [← prs_10 s hs]
  have e : fb_sm (oW P s) 32 = fb_sm (fun t => pr (hF P s) t 5) (2 ^ 5) := fb_sm_cong (fun t _ => (pr_ow 5).symm)
  rw [e, pr_sum _ 5 (by decide)]
  refine prs_cg (fun i hi => ?_)
  have := ht i hi
  unfold hF
  cases hb : hasB s i with
  | false => rfl
  | true =>
    have := this hb
    simp only [if_true, if_false, Bool.false_eq_true]
    omega
theorem pop5 : ∀ s, s < 32 → popc s ≤ 5 := by decide +kernel
theorem oH_le {P : Pl} {s k : Nat} (n : Nat) : fb_sm (oH P s k) n ≤ fb_sm (oW P s) n := fb_sm_le (fun t _ => by
  unfold oH oW
  split
  · rename_i h; rw [if_pos h.1]; exact Nat.le_refl _
  · exact Nat.zero_le _)
theorem fc_out {P : Pl} {s t i : Nat} (h : hasB s i = false) : fc P s t i = 1 := by
  unfold fc
  rw [h]
  rfl
theorem ow_more {P : Pl} {s t a : Nat} (h : ∀ i, i < 5 → a ≤ i → hasB s i = false) : ∀ d, a + d ≤ 5 → ow P s t (a + d) = ow P s t a
  | 0, _ => rfl
  | d + 1, hd => by
    show ow P s t (a + d) * fc P s t (a + d) = _
    rw [ow_more h d (by omega), fc_out (h _ (by omega) (by omega)), Nat.mul_one]
theorem x_ow_loop {μ : Mu} {q s t : Nat} {P : Pl} (h : PR μ q P) (hv : PV P) (hs : s < 32) (ht : t < 32) (hin : ∀ i, i < 5 → hasB s i = true → i < pP P) : ∀ (d i F : Nat), i + d = 5 → d < F → m_X2_openWeight_h5 SH q (nI s) (nI t) F (lN (ow P s t i)) (nI i) μ = some (lN (ow P s t 5), μ) := by
  intro d
  induction d with
  | zero =>
    intro i F hi hF
    obtain ⟨F, rfl⟩ : ∃ g, F = g + 1 := ⟨F - 1, by omega⟩
    have e : i = 5 := by omega
    subst e
    show m_X2_openWeight_b5 SH (m_X2_openWeight_h5 SH q (nI s) (nI t) F) q (nI s) (nI t) _ (nI 5) μ = _
    have h : ((5 : Int32) ≤ nI 5) = True := eq_true (by decide)
    simp only [bd_n, gd_n, ca2_n, ca_n, nbtF, pbfT, Bool.not_true, Bool.not_false, if_true, if_false, m_X2_openWeight_b5, h]
  | succ d ih =>
    intro i F hi hF
    obtain ⟨F, rfl⟩ : ∃ g, F = g + 1 := ⟨F - 1, by omega⟩
    show m_X2_openWeight_b5 SH (m_X2_openWeight_h5 SH q (nI s) (nI t) F) q (nI s) (nI t) _ (nI i) μ = _
    have h1 : ((5 : Int32) ≤ nI i) = False := eq_false (nleL 5 (by omega) (by decide))
    have u := ih (i + 1) F (by omega) (by omega)
    have z1 := xs_has (s := s) (p := i) (μ := μ) (by omega) (by omega)
    have z2 := xs_has (s := t) (p := i) (μ := μ) (by omega) (by omega)
    have hin' := hin i (by omega)
    rw [show ow P s t (i + 1) = ow P s t i * (if hasB s i = true then (if hasB t i = true then 10 - pT P i else pT P i) else 1) from rfl] at u
    cases hs' : hasB s i with
    | false =>
      rw [hs'] at z1 u
      rw [if_neg (by decide), Nat.mul_one] at u
      simp only [bd_n, gd_n, ca2_n, ca_n, nbtF, pbfT, Bool.not_true, Bool.not_false, if_true, if_false, m_X2_openWeight_b5, m_X2_openWeight_b52, h1, z1, show nI i + 1 = nI (i + 1) from nI_add _ 1]
      exact u
    | true =>
      rw [hs'] at z1 u
      have hp := hin' hs'
      have htt := hv.2.2.2.2 i hp
      rw [if_pos rfl] at u
      cases ht' : hasB t i with
      | false =>
        rw [ht'] at z2 u
        rw [if_neg (by decide)] at u
        simp only [bd_n, gd_n, ca2_n, ca_n, nbtF, pbfT, Bool.not_true, Bool.not_false, if_true, if_false, m_X2_openWeight_b5, m_X2_openWeight_b50, m_X2_openWeight_b52, h1, z1, z2, h.1.iz, x_tenthsOf h hv hp, nI_l (show pT P i < 2 ^ 31 by omega), lN_mul, show nI i + 1 = nI (i + 1) from nI_add _ 1]
        exact u
      | true =>
        rw [ht'] at z2 u
        rw [if_pos rfl] at u
        simp only [bd_n, gd_n, ca2_n, ca_n, nbtF, pbfT, Bool.not_true, Bool.not_false, if_true, if_false, m_X2_openWeight_b5, m_X2_openWeight_b50, m_X2_openWeight_b52, h1, z1, z2, h.1.iz, x_tenthsOf h hv hp, ten_sub (show pT P i ≤ 10 by omega), lN_mul, show nI i + 1 = nI (i + 1) from nI_add _ 1]
        exact u
theorem x_ow {μ : Mu} {q s t : Nat} {P : Pl} (h : PR μ q P) (hv : PV P) (hs : s < 32) (ht : t < 32) (hin : ∀ i, i < 5 → hasB s i = true → i < pP P) : m_X2_openWeight SH q (nI s) (nI t) μ = some (lN (ow P s t 5), μ) := by
  have e := x_ow_loop h hv hs ht hin 5 0 FU (by omega) (by decide)
  rw [show nI 0 = (0 : Int32) from rfl, show lN (ow P s t 0) = 1 from rfl] at e
  exact e
theorem lN0 : (0 : Int64) = lN 0 := rfl
theorem x_open_loop {μ : Mu} {σ : Sg} {c s k : Nat} {u : Int32} (iX : InvX μ σ) (g : Good σ c) (hs : s < 32) (hk : k ≤ 5) (hin : ∀ i, i < 5 → hasB s i = true → i < pP (sP σ)) : ∀ (d i F : Nat), i + d = 32 → d < F → m_X6_open_h44 SH 1 (nI k) u (nI s) F (lN (fb_sm (oH (sP σ) s k) i)) (lN (fb_sm (oW (sP σ) s) i)) (nI i) μ = m_X6_open_b107 SH u (lN (fb_sm (oH (sP σ) s k) 32)) (lN (fb_sm (oW (sP σ) s) 32)) μ := by
  have hv := g.pv
  intro d
  induction d with
  | zero =>
    intro i F hi hF
    obtain ⟨F, rfl⟩ : ∃ g, F = g + 1 := ⟨F - 1, by omega⟩
    have e : i = 32 := by omega
    subst e
    show m_X6_open_b44 SH (m_X6_open_h44 SH 1 (nI k) u (nI s) F) 1 (nI k) u (nI s) _ _ (nI 32) μ = _
    have h : ((31 : Int32) < nI 32) = True := eq_true (by decide)
    simp only [bd_n, gd_n, ca2_n, ca_n, nbtF, pbfT, Bool.not_true, Bool.not_false, if_true, if_false, m_X6_open_b44, h]
  | succ d ih =>
    intro i F hi hF
    obtain ⟨F, rfl⟩ : ∃ g, F = g + 1 := ⟨F - 1, by omega⟩
    show m_X6_open_b44 SH (m_X6_open_h44 SH 1 (nI k) u (nI s) F) 1 (nI k) u (nI s) _ _ (nI i) μ = _
    have h : ((31 : Int32) < nI i) = False := eq_false (by rw [show (31 : Int32) = nI 31 from rfl]; exact nI_nlt (by omega) (by decide))
    have v := ih (i + 1) F (by omega) (by omega)
    rw [fb_sm_succ, fb_sm_succ] at v
    have sb := sub_5 i (by omega) s hs
    have pl := pop5 i (by omega)
    have bc : m_J6_bitCount_0f7a4 SH (nI i) μ = some (nI (popc i), μ) := x_bitCount (by omega)
    cases h5 : subN i s 5 with
    | false =>
      have e1 : oH (sP σ) s k i = 0 := by unfold oH; rw [h5, if_neg (by rintro ⟨a, _⟩; cases a)]
      have e2 : oW (sP σ) s i = 0 := by unfold oW; rw [h5]; rfl
      rw [e1, e2] at v
      rw [h5] at sb
      have sb' : (nI i &&& (nI s ^^^ (-1)) = 0) = False := eq_false (of_decide_eq_false sb)
      simp only [bd_n, gd_n, ca2_n, ca_n, nbtF, pbfT, Bool.not_true, Bool.not_false, if_true, if_false, m_X6_open_b44, m_X6_open_b101, h, sb', show nI i + 1 = nI (i + 1) from nI_add _ 1]
      exact v
    | true =>
      have e2 : oW (sP σ) s i = ow (sP σ) s i 5 := by unfold oW; rw [h5]; rfl
      rw [e2] at v
      rw [h5] at sb
      have sb' : (nI i &&& (nI s ^^^ (-1)) = 0) = True := eq_true (of_decide_eq_true sb)
      by_cases hki : k ≤ popc i
      · have e1 : oH (sP σ) s k i = ow (sP σ) s i 5 := by unfold oH; rw [if_pos ⟨h5, hki⟩]
        rw [e1] at v
        have q : (nI (popc i) < nI k) = False := eq_false (nI_nlt hki (by omega))
        simp only [bd_n, gd_n, ca2_n, ca_n, nbtF, pbfT, Bool.not_true, Bool.not_false, if_true, if_false, m_X6_open_b44, m_X6_open_b98, m_X6_open_b101, h, sb', iz6, iX.pr.1.iz, x_ow iX.pr hv hs (show i < 32 by omega) hin, bc, q, lN_add, show nI i + 1 = nI (i + 1) from nI_add _ 1]
        exact v
      · have e1 : oH (sP σ) s k i = 0 := by unfold oH; rw [if_neg (fun a => hki a.2)]
        rw [e1] at v
        have q : (nI (popc i) < nI k) = True := eq_true (nI_lt (by omega) (by omega))
        simp only [bd_n, gd_n, ca2_n, ca_n, nbtF, pbfT, Bool.not_true, Bool.not_false, if_true, if_false, m_X6_open_b44, m_X6_open_b98, m_X6_open_b101, h, sb', iz6, iX.pr.1.iz, x_ow iX.pr hv hs (show i < 32 by omega) hin, bc, q, lN_add, lN0, show nI i + 1 = nI (i + 1) from nI_add _ 1]
        exact v
theorem y_ow_loop {μ : Mu} {σ : Sg} {c s t k : Nat} {u : Int32} {V : Int64} {k43 : Int64 → Int32 → Mu → Option (Int32 × Mu)} (iM : InvM μ σ) (g : Good σ c) (hs : s < 32) (ht : t < 32) (hin : ∀ i, i < 5 → hasB s i = true → i < pP (sP σ)) : ∀ (d i F : Nat), i + d = pP (sP σ) → d < F → m_X7_open_h75 SH k43 414 (nI k) u (nI s) V (nI t) F (lN (ow (sP σ) s t i)) (nI i) μ = m_X7_open_b141 SH k43 414 (nI k) u (nI s) V (nI t) (lN (ow (sP σ) s t 5)) μ := by
  have hv := g.pv
  have hP5 := hv.2.2.1
  intro d
  induction d with
  | zero =>
    intro i F hi hF
    obtain ⟨F, rfl⟩ : ∃ g, F = g + 1 := ⟨F - 1, by omega⟩
    have e : i = pP (sP σ) := by omega
    subst e
    show m_X7_open_b75 SH k43 (m_X7_open_h75 SH k43 414 (nI k) u (nI s) V (nI t) F) 414 (nI k) u (nI s) V (nI t) _ _ μ = _
    have h : (nI (pP (sP σ)) ≤ nI (pP (sP σ))) = True := eq_true (nI_le (by omega) (by omega))
    have e5 : ow (sP σ) s t 5 = ow (sP σ) s t (pP (sP σ)) := by
      have q := ow_more (P := sP σ) (s := s) (t := t) (a := pP (sP σ)) (fun i h1 h2 => by
        cases hb : hasB s i with
        | false => rfl
        | true => have := hin i h1 hb; omega) (5 - pP (sP σ)) (by omega)
      rw [show pP (sP σ) + (5 - pP (sP σ)) = 5 by omega] at q
      exact q
    rw [e5]
    simp only [bd_n, gd_n, ca2_n, ca_n, nbtF, pbfT, Bool.not_true, Bool.not_false, if_true, if_false, m_X7_open_b75, iz7, iM.2.2.2.1.2.2.1, h]
  | succ d ih =>
    intro i F hi hF
    obtain ⟨F, rfl⟩ : ∃ g, F = g + 1 := ⟨F - 1, by omega⟩
    show m_X7_open_b75 SH k43 (m_X7_open_h75 SH k43 414 (nI k) u (nI s) V (nI t) F) 414 (nI k) u (nI s) V (nI t) _ _ μ = _
    have h : (nI (pP (sP σ)) ≤ nI i) = False := eq_false (nle_nI (by omega) (by omega))
    have hx : ix SH 8 418 (nI i) = true := ix_of (n := 5) rfl (by omega) (by decide)
    have z1 := ys_has (s := s) (p := i) (μ := μ) (by omega) (by omega)
    have z2 := ys_has (s := t) (p := i) (μ := μ) (by omega) (by omega)
    have htt := hv.2.2.2.2 i (by omega)
    have v := ih (i + 1) F (by omega) (by omega)
    rw [show ow (sP σ) s t (i + 1) = ow (sP σ) s t i * (if hasB s i = true then (if hasB t i = true then 10 - pT (sP σ) i else pT (sP σ) i) else 1) from rfl] at v
    cases hs' : hasB s i with
    | false =>
      rw [hs'] at z1
      simp only [hs', if_false, Bool.false_eq_true] at v
      simp only [bd_n, gd_n, ca2_n, ca_n, nbtF, pbfT, Bool.not_true, Bool.not_false, if_true, if_false, m_X7_open_b75, m_X7_open_b132, iz7, iM.2.2.2.1.2.2.1, h, z1, show (1 : Int64) = lN 1 from rfl, lN_mul, show nI i + 1 = nI (i + 1) from nI_add _ 1]
      exact v
    | true =>
      rw [hs'] at z1
      simp only [hs', if_true] at v
      cases ht' : hasB t i with
      | false =>
        rw [ht'] at z2
        simp only [ht', if_false, Bool.false_eq_true] at v
        simp only [bd_n, gd_n, ca2_n, ca_n, nbtF, pbfT, Bool.not_true, Bool.not_false, if_true, if_false, m_X7_open_b75, m_X7_open_b132, iz7, iM.2.2.2.1.2.2.1, h, z1, z2, iM.1.1.2.2.2.1, hx, nI_clamp (show i < 2 ^ 31 by omega), iM.2.2.2.1.2.2.2.2 i (by omega), nI_l (show pT (sP σ) i < 2 ^ 31 by omega), lN_mul, show nI i + 1 = nI (i + 1) from nI_add _ 1]
        exact v
      | true =>
        rw [ht'] at z2
        simp only [ht', if_true] at v
        simp only [bd_n, gd_n, ca2_n, ca_n, nbtF, pbfT, Bool.not_true, Bool.not_false, if_true, if_false, m_X7_open_b75, m_X7_open_b132, iz7, iM.2.2.2.1.2.2.1, h, z1, z2, iM.1.1.2.2.2.1, hx, nI_clamp (show i < 2 ^ 31 by omega), iM.2.2.2.1.2.2.2.2 i (by omega), ten_sub (show pT (sP σ) i ≤ 10 by omega), lN_mul, show nI i + 1 = nI (i + 1) from nI_add _ 1]
        exact v
theorem y_open_loop {μ : Mu} {σ : Sg} {c s k : Nat} {u : Int32} (iM : InvM μ σ) (g : Good σ c) (hs : s < 32) (hk : k ≤ 5) (hin : ∀ i, i < 5 → hasB s i = true → i < pP (sP σ)) : ∀ (d i F : Nat), i + d = 32 → d < F → m_X7_open_h43 SH 414 (nI k) u (nI s) F (lN (fb_sm (oH (sP σ) s k) i)) (nI i) μ = m_X7_open_b154 SH u (nI s) (lN (fb_sm (oH (sP σ) s k) 32)) μ := by
  have hP5 := g.pv.2.2.1
  intro d
  induction d with
  | zero =>
    intro i F hi hF
    obtain ⟨F, rfl⟩ : ∃ g, F = g + 1 := ⟨F - 1, by omega⟩
    have e : i = 32 := by omega
    subst e
    show m_X7_open_b43 SH (m_X7_open_h43 SH 414 (nI k) u (nI s) F) 414 (nI k) u (nI s) _ (nI 32) μ = _
    have h : ((32 : Int32) ≤ nI 32) = True := eq_true (by decide)
    simp only [bd_n, gd_n, ca2_n, ca_n, nbtF, pbfT, Bool.not_true, Bool.not_false, if_true, if_false, m_X7_open_b43, h]
  | succ d ih =>
    intro i F hi hF
    obtain ⟨F, rfl⟩ : ∃ g, F = g + 1 := ⟨F - 1, by omega⟩
    show m_X7_open_b43 SH (m_X7_open_h43 SH 414 (nI k) u (nI s) F) 414 (nI k) u (nI s) _ (nI i) μ = _
    have h : ((32 : Int32) ≤ nI i) = False := eq_false (nleL 32 (by omega) (by decide))
    have v := ih (i + 1) F (by omega) (by omega)
    rw [fb_sm_succ] at v
    have sb := sub_5 i (by omega) s hs
    have pl := pop5 i (by omega)
    have bc : m_X7_many SH (nI i) μ = some (nI (popc i), μ) := y_many (by omega)
    cases h5 : subN i s 5 with
    | false =>
      have e1 : oH (sP σ) s k i = 0 := by unfold oH; rw [h5, if_neg (by rintro ⟨a, _⟩; cases a)]
      rw [e1] at v
      rw [h5] at sb
      have sb' : (nI i &&& (nI s ^^^ (-1)) = 0) = False := eq_false (of_decide_eq_false sb)
      simp only [bd_n, gd_n, ca2_n, ca_n, nbtF, pbfT, Bool.not_true, Bool.not_false, if_true, if_false, m_X7_open_b43, m_X7_open_b148, h, sb', show nI i + 1 = nI (i + 1) from nI_add _ 1]
      exact v
    | true =>
      rw [h5] at sb
      have sb' : (nI i &&& (nI s ^^^ (-1)) = 0) = True := eq_true (of_decide_eq_true sb)
      by_cases hki : k ≤ popc i
      · have e1 : oH (sP σ) s k i = ow (sP σ) s i 5 := by unfold oH; rw [if_pos ⟨h5, hki⟩]
        rw [e1] at v
        have q : (nI (popc i) < nI k) = False := eq_false (nI_nlt hki (by omega))
        have w := y_ow_loop (k := k) (u := u) (V := lN (fb_sm (oH (sP σ) s k) i)) (k43 := m_X7_open_h43 SH 414 (nI k) u (nI s) F) iM g hs (show i < 32 by omega) hin (pP (sP σ)) 0 FU (by omega) (by rw [FU_eq]; omega)
        rw [show nI 0 = (0 : Int32) from rfl, show lN (ow (sP σ) s i 0) = 1 from rfl] at w
        simp only [bd_n, gd_n, ca2_n, ca_n, nbtF, pbfT, Bool.not_true, Bool.not_false, if_true, if_false, m_X7_open_b43, h, sb', bc, q, w, m_X7_open_b141, m_X7_open_b148, lN_add, show nI i + 1 = nI (i + 1) from nI_add _ 1]
        exact v
      · have e1 : oH (sP σ) s k i = 0 := by unfold oH; rw [if_neg (fun a => hki a.2)]
        rw [e1] at v
        have q : (nI (popc i) < nI k) = True := eq_true (nI_lt (by omega) (by omega))
        simp only [bd_n, gd_n, ca2_n, ca_n, nbtF, pbfT, Bool.not_true, Bool.not_false, if_true, if_false, m_X7_open_b43, m_X7_open_b148, h, sb', bc, q, show nI i + 1 = nI (i + 1) from nI_add _ 1]
        exact v
theorem le5 {v : Int32} (h0 : ¬ v < 0) : v ≤ 5 ↔ isIn v 6 = true := by
  obtain ⟨i, hi, rfl⟩ := nI_of h0
  constructor
  · intro h
    refine isIn_nI ?_ (by decide)
    rcases Nat.lt_or_ge i 6 with q | q
    · exact q
    · exact absurd h (nI_ge (show 5 < i by omega) hi)
  · intro h
    obtain ⟨j, hj, e⟩ := isIn_t h (by decide)
    rw [e]
    exact nI_le (show j ≤ 5 by omega) (by decide)
theorem op_open (v k u : Int32) : OpI (m_X6_open SH 1 v k u) (m_X7_open SH 414 v k u) := by
  intro μ σ c iX iM g hc
  have iM' := iM.thr 0
  have hv := g.pv
  have hB2 := hv.2.1
  cases hp : isIn v (pB (sP σ)) with
  | false =>
    refine fin_ro (r := -1) iX iM g ?_ ?_
    · simp only [bd_n, gd_n, ca2_n, ca_n, nbtF, pbfT, Bool.not_true, Bool.not_false, if_true, if_false, m_X6_open, iz6, iX.pr.1.iz, x_hasBooth iX.pr hv, hp]
    · simp only [bd_n, gd_n, ca2_n, ca_n, nbtF, pbfT, Bool.not_true, Bool.not_false, if_true, if_false, m_X7_open, iz7, y_noBooth iM'.2.2.2.1 hv, hp]
  | true =>
  obtain ⟨b, hb, ep⟩ := isIn_t hp (by omega)
  subst ep
  have kin : inL k.toInt64 0 5 = isIn k 6 := inL_of (by decide) (by decide)
  cases hk : isIn k 6 with
  | false =>
    refine fin_ro (r := -2) iX iM g ?_ ?_
    · by_cases h0 : k < 0
      · simp only [bd_n, gd_n, ca2_n, ca_n, nbtF, pbfT, Bool.not_true, Bool.not_false, if_true, if_false, m_X6_open, iz6, iX.pr.1.iz, x_hasBooth iX.pr hv, hp, h0]
      · have h1 : (k ≤ 5) = False := eq_false (by rw [le5 h0, hk]; decide)
        simp only [bd_n, gd_n, ca2_n, ca_n, nbtF, pbfT, Bool.not_true, Bool.not_false, if_true, if_false, m_X6_open, iz6, iX.pr.1.iz, x_hasBooth iX.pr hv, hp, h0, h1]
    · simp only [bd_n, gd_n, ca2_n, ca_n, nbtF, pbfT, Bool.not_true, Bool.not_false, if_true, if_false, m_X7_open, iz7, y_noBooth iM'.2.2.2.1 hv, hp, y_in, kin, hk]
  | true =>
  obtain ⟨k', hk', ek⟩ := isIn_t hk (by decide)
  subst ek
  have h0 : (nI k' < 0) = False := eq_false (nlt0 (by omega))
  have h1 : (nI k' ≤ 5) = True := eq_true (nI_le (show k' ≤ 5 by omega) (by decide))
  have hs : inS (sN σ).1 b < 32 := inS_lt _ _
  have hin : ∀ i, i < 5 → hasB (inS (sN σ).1 b) i = true → i < pP (sP σ) := fun i hi h => by
    rw [inS_bit hi, decide_eq_true_eq] at h
    rcases g.gp.2.2.2.1 i hi with q | q
    · rw [q] at h
      exact absurd h.symm (n9 (by omega))
    · exact q.1
  have e1 := x_open_loop (u := u) iX g hs (show k' ≤ 5 by omega) hin 32 0 FU (by omega) (by decide)
  have e2 := y_open_loop (u := u) iM' g hs (show k' ≤ 5 by omega) hin 32 0 FU (by omega) (by decide)
  rw [show nI 0 = (0 : Int32) from rfl, show lN (fb_sm (oH (sP σ) (inS (sN σ).1 b) k') 0) = 0 from rfl] at e1 e2
  rw [show lN (fb_sm (oW (sP σ) (inS (sN σ).1 b)) 0) = 0 from rfl] at e1
  have hA := oW_all (P := sP σ) hs (fun i hi h => by have := hv.2.2.2.2 i (hin i hi h); omega)
  have hl := oH_le (P := sP σ) (s := inS (sN σ).1 b) (k := k') 32
  have p5 := pop5 _ hs
  have b5 : 10 ^ popc (inS (sN σ).1 b) ≤ 10 ^ 5 := Nat.pow_le_pow_right (by decide) p5
  have z5 : (10 ^ 5 : Nat) = 100000 := by decide
  have n0 : 0 < 10 ^ popc (inS (sN σ).1 b) := Nat.pow_pos (by decide)
  rw [hA] at e1 hl
  generalize fb_sm (oH (sP σ) (inS (sN σ).1 b) k') 32 = H at e1 e2 hl
  have pw := y_pow (v := 10) (μ := sI μ 414 0 0) (show popc (inS (sN σ).1 b) < 1000 by omega)
  rw [show lN 10 = (10 : Int64) from rfl] at pw
  generalize 10 ^ popc (inS (sN σ).1 b) = A at e1 pw b5 n0 hl
  have g0 : 0 < Nat.gcd H A := Nat.gcd_pos_of_pos_right _ n0
  have g1 : Nat.gcd H A ≤ A := Nat.gcd_le_right _ n0
  refine fin_ro (r := if u = 0 then nI (A / Nat.gcd H A) else nI (H / Nat.gcd H A)) iX iM g ?_ ?_
  · simp only [bd_n, gd_n, ca2_n, ca_n, nbtF, pbfT, Bool.not_true, Bool.not_false, if_true, if_false, m_X6_open, iz6, iz411, iX.1.now, iX.pr.1.iz, x_hasBooth iX.pr hv, hp, h0, h1, xs_in iX.sr, e1, m_X6_open_b107, x_ilt (u := u) (μ := μ) (show H < 2 ^ 31 by omega) (show A < 2 ^ 31 by omega) (by omega)]
    split <;> rw [lN_i]
  · simp only [bd_n, gd_n, ca2_n, ca_n, nbtF, pbfT, Bool.not_true, Bool.not_false, if_true, if_false, m_X7_open, iz7, y_noBooth iM'.2.2.2.1 hv, hp, y_in, kin, hk, ys_in iM'.1 iM'.2.2.2.1 hv g.gp (show b < 2 by omega), e2, m_X7_open_b154, ys_pop, pw, y_div (show H < 2 ^ 31 by omega) (show A < 2 ^ 31 by omega), nz_n (show Nat.gcd H A < 2 ^ 63 by omega) (by omega), pk_lDiv (show A < 2 ^ 63 by omega) g0 (show Nat.gcd H A < 2 ^ 63 by omega), pk_lDiv (show H < 2 ^ 63 by omega) g0 (show Nat.gcd H A < 2 ^ 63 by omega), lN_i]
    split <;> rfl

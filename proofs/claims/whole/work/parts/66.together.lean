theorem y_to2 {μ0 : Mu} {P : Pl} {c a : Nat} {f : Nat → Int32} {w : Int32} {k62 : Int32 → Mu → Option (Int32 × Mu)} (hM : MR μ0 f) (g : GP P c f) (ha : tT f a = true) : ∀ (d F : Nat) (μ : Mu), d ≤ 256 → d < F → SM μ0 μ → (∀ u, u < 256 → gI μ 428 u = nI (if d ≤ u then M2 f (a + 1) u else M2 f a u)) → (∀ u, u < 256 → gI μ 429 u = if d ≤ u then W2 f (a + 1) u else W2 f a u) → ∃ μ', m_X7_together_h79 SH k62 414 w (nI (tM f)) (nI a) F (nI d - 1) μ = m_X7_together_b222 SH k62 414 w (nI (tM f)) (nI a) μ' ∧ SM μ0 μ' ∧ (∀ u, u < 256 → gI μ' 428 u = nI (M2 f (a + 1) u)) ∧ ∀ u, u < 256 → gI μ' 429 u = W2 f (a + 1) u := by
  have hsz := g.sz
  have an := (tT_in ha).1
  have t8 : tM f < 256 := Nat.lt_of_lt_of_le (mk_lt _ _) (Nat.pow_le_pow_right (n := 2) (by decide) hsz.2)
  intro d
  induction d with
  | zero =>
    intro F μ h256 hF hS hA hB
    obtain ⟨F, rfl⟩ : ∃ g, F = g + 1 := ⟨F - 1, by omega⟩
    refine ⟨μ, ?_, hS, fun u hu => by rw [hA u hu, if_pos (by omega)], fun u hu => by rw [hB u hu, if_pos (by omega)]⟩
    show m_X7_together_b79 SH k62 (m_X7_together_h79 SH k62 414 w (nI (tM f)) (nI a) F) 414 w (nI (tM f)) (nI a) (nI 0 - 1) μ = _
    have h : (nI 0 - 1 < 0) = True := eq_true (by decide)
    simp only [bd_n, gd_n, ca2_n, ca_n, nbtF, pbfT, Bool.not_true, Bool.not_false, if_true, if_false, m_X7_together_b79, h]
  | succ s ih =>
    intro F μ h256 hF hS hA hB
    obtain ⟨F, rfl⟩ : ∃ g, F = g + 1 := ⟨F - 1, by omega⟩
    have h0 : (nI s < 0) = False := eq_false (nlt0 (by omega))
    have hh := ys_has (s := tM f) (p := a) (μ := μ) t8 (by omega)
    rw [mk_bit, decide_eq_true an, ha, Bool.true_and] at hh
    obtain ⟨μ1, e1, e2, e3, e4, e5⟩ := y_to3 (s := s) (w := w) (k62 := k62) (k79 := m_X7_together_h79 SH k62 414 w (nI (tM f)) (nI a) F) hM g ha (by omega) (szF f) 0 FU μ (by omega) (by rw [FU_eq]; omega) hS (fun u hu => by rw [hA u (by omega), if_neg (by omega)]) (fun u hu => by rw [hB u (by omega), if_neg (by omega)]) (by rw [hA s (by omega), if_neg (by omega)]; rfl)
    rw [show nI 0 = (0 : Int32) from rfl, show stW (Wt (tT f) (E2 f) (szF f) a) (E2 f a) (hasB s) 0 = 0 from rfl] at e1
    have p25 := M_25 (e2.mr hM).1
    have x1 : ix SH 8 429 (nI s) = true := ix_of (n := 256) rfl (by omega) (by decide)
    obtain ⟨μ', e6, e7⟩ := ih F (sI μ1 429 s (W2 f (a + 1) s)) (by omega) (by omega) (e2.w (by decide)) (fun u hu => by
      rw [gI_o (by decide)]
      by_cases q : u = s
      · rw [q, e3, if_pos (Nat.le_refl s)]
      · rw [e4 u q, hA u hu]
        by_cases le : s ≤ u
        · rw [if_pos le, if_pos (by omega)]
        · rw [if_neg le, if_neg (by omega)]) (fun u hu => by
      by_cases q : u = s
      · rw [q, gI_w, if_pos (Nat.le_refl s)]
      · rw [gI_k q, e5 u, hB u hu]
        by_cases le : s ≤ u
        · rw [if_pos le, if_pos (by omega)]
        · rw [if_neg le, if_neg (by omega)])
    refine ⟨μ', ?_, e7⟩
    show m_X7_together_b79 SH k62 (m_X7_together_h79 SH k62 414 w (nI (tM f)) (nI a) F) 414 w (nI (tM f)) (nI a) (nI (s + 1) - 1) μ = _
    rw [nI_pred]
    simp only [bd_n, gd_n, ca2_n, ca_n, nbtF, pbfT, Bool.not_true, Bool.not_false, if_true, if_false, m_X7_together_b79, h0, hh, e1, m_X7_together_b207, iz7, p25, x1, nI_clamp (show s < 2 ^ 31 by omega), show nI s + (-1) = nI s - 1 from (Int32.sub_eq_add_neg _ _).symm]
    exact e6
theorem y_to1 {μ0 : Mu} {P : Pl} {c : Nat} {f : Nat → Int32} {w : Int32} (hM : MR μ0 f) (g : GP P c f) : ∀ (d a F : Nat) (μ : Mu), a + d = szF f → d < F → SM μ0 μ → (∀ u, u < 256 → gI μ 428 u = nI (M2 f a u)) → (∀ u, u < 256 → gI μ 429 u = W2 f a u) → ∃ μ', m_X7_together_h62 SH 414 w (nI (tM f)) F (nI a) μ = some (if w = 0 then nI (Mt (E2 f) (szF f) (szF f) (tT f)) else Wt (tT f) (E2 f) (szF f) (szF f) (tT f), μ') ∧ SM μ0 μ' := by
  have hsz := g.sz
  have t8 : tM f < 256 := Nat.lt_of_lt_of_le (mk_lt _ _) (Nat.pow_le_pow_right (n := 2) (by decide) hsz.2)
  have hT : hasB (tM f) = tT f := by
    funext i
    rw [mk_bit]
    by_cases h : i < szF f
    · rw [decide_eq_true h, Bool.true_and]
    · rw [decide_eq_false h, tT_out (by omega)]; rfl
  intro d
  induction d with
  | zero =>
    intro a F μ ha hF hS hA hB
    obtain ⟨F, rfl⟩ : ∃ g, F = g + 1 := ⟨F - 1, by omega⟩
    have e : a = szF f := by omega
    subst e
    have mr := hS.mr hM
    have e2 : (gI μ 422 202) = nI (szF f) := by rw [mr.2 202 (by decide)]; exact hsz.1
    have h : (nI (szF f) ≤ nI (szF f)) = True := eq_true (nI_le (by omega) (by omega))
    have x1 : ix SH 8 428 (nI (tM f)) = true := ix_of (n := 256) rfl t8 (by decide)
    have x2 : ix SH 8 429 (nI (tM f)) = true := ix_of (n := 256) rfl t8 (by decide)
    have a1 := hA _ t8
    have a2 := hB _ t8
    rw [show M2 f (szF f) (tM f) = Mt (E2 f) (szF f) (szF f) (tT f) by unfold M2; rw [hT]] at a1
    rw [show W2 f (szF f) (tM f) = Wt (tT f) (E2 f) (szF f) (szF f) (tT f) by unfold W2; rw [hT]] at a2
    refine ⟨μ, ?_, hS⟩
    show m_X7_together_b62 SH (m_X7_together_h62 SH 414 w (nI (tM f)) F) 414 w (nI (tM f)) (nI (szF f)) μ = _
    by_cases w0 : w = 0
    · simp only [bd_n, gd_n, ca2_n, ca_n, nbtF, pbfT, Bool.not_true, Bool.not_false, if_true, if_false, m_X7_together_b62, iz7, mr.1.pg, ixL202, c202, e2, h, m_X7_together_b228, w0, M_24 mr.1, x1, nI_clamp (show tM f < 2 ^ 31 by omega), a1]
    · simp only [bd_n, gd_n, ca2_n, ca_n, nbtF, pbfT, Bool.not_true, Bool.not_false, if_true, if_false, m_X7_together_b62, iz7, mr.1.pg, ixL202, c202, e2, h, m_X7_together_b228, w0, M_25 mr.1, x2, nI_clamp (show tM f < 2 ^ 31 by omega), a2]
  | succ d ih =>
    intro a F μ ha hF hS hA hB
    obtain ⟨F, rfl⟩ : ∃ g, F = g + 1 := ⟨F - 1, by omega⟩
    have mr := hS.mr hM
    have e2 : (gI μ 422 202) = nI (szF f) := by rw [mr.2 202 (by decide)]; exact hsz.1
    have h : (nI (szF f) ≤ nI a) = False := eq_false (nle_nI (by omega) (by omega))
    show ∃ μ', m_X7_together_b62 SH (m_X7_together_h62 SH 414 w (nI (tM f)) F) 414 w (nI (tM f)) (nI a) μ = _ ∧ _
    cases hTa : tT f a with
    | false =>
      have hh := ys_has (s := tM f) (p := a) (μ := μ) t8 (by omega)
      rw [mk_bit, hTa, Bool.and_false] at hh
      have n0 : ((255 : Int32) < 0) = False := eq_false (by decide)
      obtain ⟨μ', e3, e4⟩ := ih (a + 1) F μ (by omega) (by omega) hS (fun u hu => by rw [hA u hu]; exact congrArg nI (Mt_f hTa).symm) (fun u hu => by rw [hB u hu]; exact (Wt_f hTa).symm)
      refine ⟨μ', ?_, e4⟩
      simp only [bd_n, gd_n, ca2_n, ca_n, nbtF, pbfT, Bool.not_true, Bool.not_false, if_true, if_false, m_X7_together_b62, iz7, mr.1.pg, ixL202, c202, e2, h]
      rw [show FU = 65535 + 1 from rfl]
      show m_X7_together_b79 SH (m_X7_together_h62 SH 414 w (nI (tM f)) F) (m_X7_together_h79 SH (m_X7_together_h62 SH 414 w (nI (tM f)) F) 414 w (nI (tM f)) (nI a) 65535) 414 w (nI (tM f)) (nI a) 255 μ = _
      simp only [bd_n, gd_n, ca2_n, ca_n, nbtF, pbfT, Bool.not_true, Bool.not_false, if_true, if_false, m_X7_together_b79, n0, hh, m_X7_together_b222, show nI a + 1 = nI (a + 1) from nI_add _ 1]
      exact e3
    | true =>
      obtain ⟨μ1, e3, e4, e5, e6⟩ := y_to2 (w := w) (k62 := m_X7_together_h62 SH 414 w (nI (tM f)) F) hM g hTa 256 FU μ (by omega) (by decide) hS (fun u hu => by rw [if_neg (by omega)]; exact hA u hu) (fun u hu => by rw [if_neg (by omega)]; exact hB u hu)
      rw [show nI 256 - 1 = (255 : Int32) from rfl] at e3
      obtain ⟨μ', e7, e8⟩ := ih (a + 1) F μ1 (by omega) (by omega) e4 e5 e6
      refine ⟨μ', ?_, e8⟩
      simp only [bd_n, gd_n, ca2_n, ca_n, nbtF, pbfT, Bool.not_true, Bool.not_false, if_true, if_false, m_X7_together_b62, iz7, mr.1.pg, ixL202, c202, e2, h, e3, m_X7_together_b222, show nI a + 1 = nI (a + 1) from nI_add _ 1]
      exact e7
theorem y_to0 {μ0 : Mu} {P : Pl} {c : Nat} {f : Nat → Int32} {w : Int32} (hM : MR μ0 f) (g : GP P c f) : ∀ (d s F : Nat) (μ : Mu), s + d = 256 → d < F → SM μ0 μ → (∀ u, u < s → gI μ 428 u = 0) → (∀ u, u < s → gI μ 429 u = if u = 0 then 1 else 0) → ∃ μ', m_X7_together_h25 SH 414 w (nI (tM f)) F (nI s) μ = some (if w = 0 then nI (Mt (E2 f) (szF f) (szF f) (tT f)) else Wt (tT f) (E2 f) (szF f) (szF f) (tT f), μ') ∧ SM μ0 μ' := by
  intro d
  induction d with
  | zero =>
    intro s F μ hs hF hS hA hB
    obtain ⟨F, rfl⟩ : ∃ g, F = g + 1 := ⟨F - 1, by omega⟩
    have e : s = 256 := by omega
    subst e
    have h : ((256 : Int32) ≤ nI 256) = True := eq_true (by decide)
    have c0 : ∀ u, u < 256 → (u = 0 ↔ cn (hasB u) 8 = 0) := by decide +kernel
    obtain ⟨μ', e1, e2⟩ := y_to1 (w := w) hM g (szF f) 0 FU μ (by omega) (by rw [FU_eq]; have := g.sz.2; omega) hS (fun u hu => by rw [hA u hu]; rfl) (fun u hu => by
      rw [hB u hu]
      show _ = if cn (hasB u) 8 = 0 then (1 : Int32) else 0
      by_cases q : u = 0
      · rw [if_pos q, if_pos ((c0 u hu).mp q)]
      · rw [if_neg q, if_neg (fun z => q ((c0 u hu).mpr z))])
    rw [show nI 0 = (0 : Int32) from rfl] at e1
    refine ⟨μ', ?_, e2⟩
    show m_X7_together_b25 SH (m_X7_together_h25 SH 414 w (nI (tM f)) F) 414 w (nI (tM f)) (nI 256) μ = _
    simp only [bd_n, gd_n, ca2_n, ca_n, nbtF, pbfT, Bool.not_true, Bool.not_false, if_true, if_false, m_X7_together_b25, h, m_X7_together_b60]
    exact e1
  | succ d ih =>
    intro s F μ hs hF hS hA hB
    obtain ⟨F, rfl⟩ : ∃ g, F = g + 1 := ⟨F - 1, by omega⟩
    have mr := hS.mr hM
    have h : ((256 : Int32) ≤ nI s) = False := eq_false (nleL 256 (by omega) (by decide))
    have x1 : ix SH 8 428 (nI s) = true := ix_of (n := 256) rfl (by omega) (by decide)
    have x2 : ix SH 8 429 (nI s) = true := ix_of (n := 256) rfl (by omega) (by decide)
    obtain ⟨μ', e1, e2⟩ := ih (s + 1) F (sI (sI μ 428 s 0) 429 s (if s = 0 then 1 else 0)) (by omega) (by omega) ((hS.w (by decide)).w (by decide)) (fun u hu => by
      rw [gI_o (by decide)]
      by_cases q : u = s
      · rw [q, gI_w]
      · rw [gI_k q]; exact hA u (by omega)) (fun u hu => by
      by_cases q : u = s
      · rw [q, gI_w]
      · rw [gI_k q, gI_o (by decide)]; exact hB u (by omega))
    refine ⟨μ', ?_, e2⟩
    show m_X7_together_b25 SH (m_X7_together_h25 SH 414 w (nI (tM f)) F) 414 w (nI (tM f)) (nI s) μ = _
    by_cases q : s = 0
    · have q' : (nI s = 0) = True := eq_true (by rw [q]; rfl)
      rw [if_pos q] at e1
      simp only [bd_n, gd_n, ca2_n, ca_n, nbtF, pbfT, Bool.not_true, Bool.not_false, if_true, if_false, m_X7_together_b25, m_X7_together_b53, h, iz7, M_24 mr.1, x1, nI_clamp (show s < 2 ^ 31 by omega), gR_sI, M_25 mr.1, q', x2, show nI s + 1 = nI (s + 1) from nI_add _ 1]
      exact e1
    · have q' : (nI s = 0) = False := eq_false (nI_ne0 (by omega) (by omega))
      rw [if_neg q] at e1
      simp only [bd_n, gd_n, ca2_n, ca_n, nbtF, pbfT, Bool.not_true, Bool.not_false, if_true, if_false, m_X7_together_b25, m_X7_together_b53, h, iz7, M_24 mr.1, x1, nI_clamp (show s < 2 ^ 31 by omega), gR_sI, M_25 mr.1, q', x2, show nI s + 1 = nI (s + 1) from nI_add _ 1]
      exact e1
theorem op_together (v : Int32) : OpI (m_X6_together SH 1 v) (m_X7_together SH 414 v) := by
  intro μ σ c iX iM g hc
  have iM' := iM.thr 0
  have hsz := g.gp.sz
  have kin : inL v.toInt64 0 1 = isIn v 2 := inL_of (by decide) (by decide)
  by_cases hv : v = 0 ∨ v = 1
  · have hin : isIn v 2 = true := by rcases hv with rfl | rfl <;> decide
    refine fin_rw (σ := σ) (σ' := σ) (r := if v = 0 then nI (Mt (E2 (sN σ).1) (szF (sN σ).1) (szF (sN σ).1) (tT (sN σ).1)) else Wt (tT (sN σ).1) (E2 (sN σ).1) (szF (sN σ).1) (szF (sN σ).1) (tT (sN σ).1)) iM (g.more (by omega)) ?_ ?_
    · have hp : P3 μ := iX.1.2.2.2.2.2.2.2.2.2.2.2.2.1
      have p8 : gR μ 1 8 = 353 := iX.1.2.2.2.2.2.2.1
      obtain ⟨μ1, e1, e2, e3⟩ := x_gather iX.sr g.gp hp
      have gf : GF μ μ1 (sN σ).1 := ⟨e2, e3⟩
      have p81 : gR μ1 1 8 = 353 := by rw [e2.1.2]; exact p8
      have fin : ∀ μ', SC μ μ' → InvX μ' σ ∧ same (fun b => 414 ≤ b) μ μ' := fun μ' h => ⟨iX.scr g (h.1.mono (fun b hb => by omega)) h.2, h.1.mono (fun b hb => by omega)⟩
      have run : m_X6_together SH 1 v μ = m_X6_together_b12 SH 1 v μ := by
        unfold m_X6_together
        rcases hv with rfl | rfl
        · rw [if_pos rfl]
        · rw [if_neg (by decide), if_pos rfl]
      by_cases v0 : v = 0
      · obtain ⟨μ2, e4, e5⟩ := x_put hp hsz.2 gf
        refine ⟨μ2, ?_, fin μ2 e5⟩
        rw [run]
        simp only [bd_n, gd_n, ca2_n, ca_n, nbtF, pbfT, Bool.not_true, Bool.not_false, if_true, if_false, m_X6_together_b12, iz6, iX.1.now, p8, iz0, e1, v0, p81, e4]
      · obtain ⟨μ2, e4, e5⟩ := x_ways hp hsz.2 gf
        refine ⟨μ2, ?_, fin μ2 e5⟩
        rw [run]
        simp only [bd_n, gd_n, ca2_n, ca_n, nbtF, pbfT, Bool.not_true, Bool.not_false, if_true, if_false, m_X6_together_b12, iz6, iX.1.now, p8, iz0, e1, v0, p81, e4]
    · intro μ iM
      have iM' := iM.thr 0
      obtain ⟨μ1, e1, e2⟩ := y_to0 (w := v) iM'.1 g.gp 256 0 FU (sI μ 414 0 0) (by omega) (by decide) SM.rf (fun u hu => absurd hu (by omega)) (fun u hu => absurd hu (by omega))
      rw [show nI 0 = (0 : Int32) from rfl] at e1
      refine ⟨μ1, ?_, iM'.scr (fun b k h1 h2 _ => e2.1.I h2 k) (fun b k h2 => e2.1.J h2 k) e2.2, thr_same.trans (e2.1.mono (fun b hb => by omega))⟩
      have tg := y_tornOnes iM'.1 hsz.1 hsz.2 g.gp.torn
      rw [torn_mk g.gp _ (Nat.le_refl _)] at tg
      simp only [bd_n, gd_n, ca2_n, ca_n, nbtF, pbfT, Bool.not_true, Bool.not_false, if_true, if_false, m_X7_together, iz7, y_in, kin, hin, tg]
      exact e1
  · have v0 : ¬ v = 0 := fun h => hv (Or.inl h)
    have v1 : ¬ v = 1 := fun h => hv (Or.inr h)
    have hin : isIn v 2 = false := by
      cases hb : isIn v 2 with
      | false => rfl
      | true =>
        obtain ⟨i, hi, e⟩ := isIn_t hb (by decide)
        rcases (show i = 0 ∨ i = 1 by omega) with rfl | rfl
        · exact absurd e v0
        · exact absurd e v1
    refine fin_ro (r := -2) iX iM g ?_ ?_
    · simp only [bd_n, gd_n, ca2_n, ca_n, nbtF, pbfT, Bool.not_true, Bool.not_false, if_true, if_false, m_X6_together, v0, v1]
    · simp only [bd_n, gd_n, ca2_n, ca_n, nbtF, pbfT, Bool.not_true, Bool.not_false, if_true, if_false, m_X7_together, iz7, y_in, kin, hin]

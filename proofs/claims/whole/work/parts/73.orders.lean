/-! orders, orderAt -/
theorem y_lz {μ0 : Mu} {f : Nat → Int32} {w : Int32} (hM : MR μ0 f) : ∀ (d s F : Nat) (μ : Mu), s + d = 6 → d < F → SO μ0 μ → gI μ 414 27 = 0 → (∀ t, t < s → gI μ 431 t = 0) → ∃ μ', m_X7_layOrders_h16 SH 414 w F (nI s) μ = m_X7_layOrders_b35 SH 414 w μ' ∧ SO μ0 μ' ∧ gI μ' 414 27 = 0 ∧ ∀ t, t < 6 → gI μ' 431 t = 0 := by
  intro d
  induction d with
  | zero =>
    intro s F μ hs hF hS hC h0
    obtain ⟨F, rfl⟩ : ∃ g, F = g + 1 := ⟨F - 1, by omega⟩
    have e : s = 6 := by omega
    subst e
    refine ⟨μ, ?_, hS, hC, h0⟩
    show m_X7_layOrders_b16 SH (m_X7_layOrders_h16 SH 414 w F) 414 w (nI 6) μ = _
    have h : ((6 : Int32) ≤ nI 6) = True := eq_true (by decide)
    simp only [bd_n, gd_n, ca2_n, ca_n, nbtF, pbfT, Bool.not_true, Bool.not_false, if_true, if_false, m_X7_layOrders_b16, h]
  | succ d ih =>
    intro s F μ hs hF hS hC h0
    obtain ⟨F, rfl⟩ : ∃ g, F = g + 1 := ⟨F - 1, by omega⟩
    have h : ((6 : Int32) ≤ nI s) = False := eq_false (nleL 6 (by omega) (by decide))
    have x1 : ix SH 8 431 (nI s) = true := ix_of (n := 6) rfl (by omega) (by decide)
    obtain ⟨μ', e1, e2⟩ := ih (s + 1) F (sI μ 431 s 0) (by omega) (by omega) (hS.w (by decide)) (by rw [gI_o (by decide)]; exact hC) (fun t ht => by
      by_cases q : t = s
      · rw [q, gI_w]
      · rw [gI_k q]; exact h0 t (by omega))
    refine ⟨μ', ?_, e2⟩
    show m_X7_layOrders_b16 SH (m_X7_layOrders_h16 SH 414 w F) 414 w (nI s) μ = _
    simp only [bd_n, gd_n, ca2_n, ca_n, nbtF, pbfT, Bool.not_true, Bool.not_false, if_true, if_false, m_X7_layOrders_b16, h, iz7, M_28 (hS.mr hM).1, x1, nI_clamp (show s < 2 ^ 31 by omega), show nI s + 1 = nI (s + 1) from nI_add _ 1]
    exact e1
theorem split_at {t : Nat} : ∀ {ys : List Nat} {j : Nat}, ys[j]? = some t → ∃ l m, ys = l ++ t :: m ∧ l.length = j
  | [], j, h => by rw [List.getElem?_nil] at h; cases h
  | y :: ys, 0, h => by
    rw [List.getElem?_cons_zero] at h
    injection h with h
    exact ⟨[], ys, by rw [h]; rfl, rfl⟩
  | y :: ys, j + 1, h => by
    rw [List.getElem?_cons_succ] at h
    obtain ⟨l, m, e1, e2⟩ := split_at h
    exact ⟨y :: l, m, by rw [e1]; rfl, by rw [List.length_cons, e2]⟩
theorem nQ_rw {E : Nat → Nat → Bool} {r t j : Nat} : nQ E (r + 1) r [] 0 t j ↔ RW E (r + 1) t j := by
  constructor
  · rintro ⟨c, xs, _, h2, h3, h4, h5⟩
    rw [List.nil_append] at h4 h5
    obtain ⟨l, m, e1, e2⟩ := split_at h5
    exact ⟨l, m, e2, by rw [← e1, List.length_cons, h3], by rw [← e1]; exact h4⟩
  · rintro ⟨l, m, h1, h2, h3⟩
    cases hx : l ++ t :: m with
    | nil => rw [hx] at h2; cases h2
    | cons c xs =>
      have q : (l ++ t :: m)[l.length]? = some t := at_l
      rw [hx] at h2 h3 q
      rw [List.length_cons] at h2
      exact ⟨c, xs, Nat.zero_le _, Fn_i.mp (Vr_mem h3 (by simp)), by omega, h3, by rw [← h1]; exact q⟩
theorem cQ_tot {E : Nat → Nat → Bool} {r : Nat} : cQ E (r + 1) r [] 0 = tot E (r + 1) := fb_sm_cong (fun x _ => if_pos (Nat.zero_le x))
theorem Lq_6 : ∀ n, n < 7 → Lq n ≤ 3193 := by decide
theorem y_layO {μ0 : Mu} {P : Pl} {c : Nat} {f : Nat → Int32} (hM : MR μ0 f) (g : GP P c f) (hz : szF f ≤ 6) : ∃ μ, m_X7_layOrders SH 414 μ0 = some μ ∧ SO μ0 μ ∧ gI μ 414 27 = nI (tot (fE f) (szF f)) ∧ PL μ (fun t j => RW (fE f) (szF f) t j) := by
  have e2 : (gI μ0 422 202) = nI (szF f) := by rw [hM.2 202 (by decide)]; exact g.sz.1
  obtain ⟨μ1, a1, a2, a3, a4⟩ := y_lz (w := nI (szF f)) hM 6 0 FU (sI μ0 414 27 0) (by omega) (by decide) SO.rf.c gI_w (fun t ht => absurd ht (by omega))
  rw [show nI 0 = (0 : Int32) from rfl] at a1
  have mr := a2.mr hM
  have run : m_X7_layOrders SH 414 μ0 = m_X7_layOrders_b35 SH 414 (nI (szF f)) μ1 := by
    simp only [bd_n, gd_n, ca2_n, ca_n, nbtF, pbfT, Bool.not_true, Bool.not_false, if_true, if_false, m_X7_layOrders, iz7, hM.1.pg, ixL202, c202, e2]
    exact a1
  rw [run]
  by_cases n0 : szF f = 0
  · have z : (nI (szF f) = 0) = True := eq_true (by rw [n0]; rfl)
    refine ⟨sI μ1 414 27 1, ?_, a2.c, ?_, fun t ht => ⟨0, by decide, by rw [gI_o (by decide)]; exact a4 t ht, fun j => ?_⟩⟩
    · simp only [bd_n, gd_n, ca2_n, ca_n, nbtF, pbfT, Bool.not_true, Bool.not_false, if_true, if_false, m_X7_layOrders_b35, z, iz7]
    · rw [gI_w, n0]; rfl
    · rw [hasB_lt (Nat.two_pow_pos j), n0]
      constructor
      · intro h; cases h
      · rintro ⟨l, m, _, h2, _⟩
        rw [List.length_append, List.length_cons] at h2
        omega
  · obtain ⟨r, er⟩ : ∃ r, szF f = r + 1 := ⟨szF f - 1, by omega⟩
    have z : (nI (szF f) = 0) = False := eq_false (nI_ne0 (by omega) (by omega))
    have x0 : ix SH 8 430 0 = true := by decide
    obtain ⟨T, μ', b1, b2, b3, b4, b5, b6⟩ := y_dfs hM hz r [] rfl (by rw [er]; exact Nat.zero_add _) (szF f) 0 (sI μ1 430 0 (-9)) 0 (fun _ _ => False) (by omega) (by omega) (a2.w (by decide)) (fun i x hx => by rw [List.getElem?_nil] at hx; cases hx) (by unfold oS; rw [if_pos rfl]; exact gI_w) (by rw [gI_o (by decide)]; exact a3) (fun t ht => ⟨0, by decide, by rw [gI_o (by decide)]; exact a4 t ht, fun j => by
      rw [hasB_lt (Nat.two_pow_pos j)]
      exact ⟨(fun h => by cases h), (fun h => h.elim)⟩⟩)
    have u0 := us_0 (E := fE f) (n := szF f) (p := []) rfl
    rw [show us (szF f) [] 0 = r + 1 by have : ([] : List Nat).length = 0 := rfl; omega] at b1
    have tl : T ≤ Lq (r + 1) := b1
    have l6 := Lq_6 (r + 1) (by omega)
    have f1 := b2 (65536 - T)
    rw [show 65536 - T + T = FU by rw [FU_eq]; omega, show nI ([] : List Nat).length = (0 : Int32) from rfl] at f1
    refine ⟨μ', ?_, b3, ?_, b6.cg (fun t j _ => ?_)⟩
    · simp only [bd_n, gd_n, ca2_n, ca_n, nbtF, pbfT, Bool.not_true, Bool.not_false, if_true, if_false, m_X7_layOrders_b35, z, iz7, M_26 mr.1, x0, show (0 : Int32).toNatClampNeg = 0 from rfl, f1]
      rw [show 65536 - T = (65535 - T) + 1 by omega]
      show m_X7_layOrders_b55 SH (m_X7_layOrders_h55 SH 414 (nI (szF f)) (65535 - T)) 414 (nI (szF f)) (0 + (-1)) μ' = _
      have n1 : ((0 : Int32) + (-1) < 0) = True := eq_true (by decide)
      simp only [bd_n, gd_n, ca2_n, ca_n, nbtF, pbfT, Bool.not_true, Bool.not_false, if_true, if_false, m_X7_layOrders_b55, n1]
    · rw [b5, Nat.zero_add, er, cQ_tot]
    · rw [er, nQ_rw]
      exact ⟨fun h => h.elim (fun q => q.elim) id, Or.inr⟩
theorem six {n : Nat} (h : n < 2 ^ 31) : (nI n ≤ 6) = (n ≤ 6) := propext (nI_leI (a := n) (b := 6) h (by decide))
theorem SO.fin {μ0 μ : Mu} {σ : Sg} (h : SO μ0 μ) (iM : InvM μ0 σ) : InvM μ σ ∧ same (fun b => b < 414) μ0 μ := ⟨iM.scr (fun b k _ h2 h3 => h.1 b k (by omega) h3) (fun b k _ => h.2.1 b k) h.2.2, fun b hb => ⟨fun k => h.1 b k (by omega) (Or.inl (by omega)), fun k => h.2.1 b k, fun k => h.2.2 b k⟩⟩
theorem op_orders : OpI (m_X6_orders SH 1) (m_X7_orders SH 414) := by
  intro μ σ c iX iM g hc
  have iM' := iM.thr 0
  have hsz := g.gp.sz
  have k4 : gI μ 11 4 = nI (szF (sN σ).1) := by rw [iX.sr.2.2.2.2.1]; exact hsz.1
  by_cases hz : szF (sN σ).1 ≤ 6
  · have q : (nI (szF (sN σ).1) ≤ 6) = True := eq_true (by rw [six (by omega)]; exact hz)
    refine fin_rw (σ := σ) (σ' := σ) (r := nI (tot (fE (sN σ).1) (szF (sN σ).1))) iM (g.more (by omega)) ?_ ?_
    · have hp : P4 μ := iX.1.2.2.2.2.2.2.2.2.2.2.2.2.2.1
      have p9 : gR μ 1 9 = 357 := iX.1.2.2.2.2.2.2.2.1
      obtain ⟨μ1, e1, e2⟩ := x_rgather iX.sr g.gp hz hp
      have p91 : gR μ1 1 9 = 357 := by rw [e2.1.1.2]; exact p9
      refine ⟨μ1, ?_, iX.scr g (e2.1.1.1.mono (fun b hb => by omega)) e2.1.1.2, e2.1.1.1.mono (fun b hb => by omega)⟩
      simp only [bd_n, gd_n, ca2_n, ca_n, nbtF, pbfT, Bool.not_true, Bool.not_false, if_true, if_false, m_X6_orders, iz6, iX.1.now, iz411, k4, q, p9, iz3, e1, p91, x_howM hz hp e2]
    · intro μ iM
      have iM' := iM.thr 0
      obtain ⟨μ1, e1, e2, e3, _⟩ := y_layO iM'.1 g.gp hz
      have f2 : gI (sI μ 414 0 0) 422 202 = nI (szF (sN σ).1) := by rw [iM'.1.2 202 (by decide)]; exact hsz.1
      have fin := e2.fin iM'
      refine ⟨μ1, ?_, fin.1, thr_same.trans fin.2⟩
      simp only [bd_n, gd_n, ca2_n, ca_n, nbtF, pbfT, Bool.not_true, Bool.not_false, if_true, if_false, m_X7_orders, iz7, iM'.1.1.pg, ixL202, c202, f2, q, e1, e3]
  · have q : (nI (szF (sN σ).1) ≤ 6) = False := eq_false (by rw [six (by omega)]; exact hz)
    have f2 : gI (sI μ 414 0 0) 422 202 = nI (szF (sN σ).1) := by rw [iM'.1.2 202 (by decide)]; exact hsz.1
    refine fin_ro (r := -3) iX iM g ?_ ?_
    · simp only [bd_n, gd_n, ca2_n, ca_n, nbtF, pbfT, Bool.not_true, Bool.not_false, if_true, if_false, m_X6_orders, iz6, iX.1.now, iz411, k4, q]
    · simp only [bd_n, gd_n, ca2_n, ca_n, nbtF, pbfT, Bool.not_true, Bool.not_false, if_true, if_false, m_X7_orders, iz7, iM'.1.1.pg, ixL202, c202, f2, q]
theorem op_orderAt (v : Int32) : OpI (m_X6_orderAt SH 1 v) (m_X7_orderAt SH 414 v) := by
  intro μ σ c iX iM g hc
  have iM' := iM.thr 0
  have hsz := g.gp.sz
  have k4 : gI μ 11 4 = nI (szF (sN σ).1) := by rw [iX.sr.2.2.2.2.1]; exact hsz.1
  have hX := x_hasStrip iX.sr.1 k4 hsz.2 v
  have hY := y_noStrip iM'.1 hsz.1 hsz.2 v
  have f2 : gI (sI μ 414 0 0) 422 202 = nI (szF (sN σ).1) := by rw [iM'.1.2 202 (by decide)]; exact hsz.1
  cases hp : isIn v (szF (sN σ).1) with
  | false =>
    rw [hp] at hX hY
    refine fin_ro (r := -1) iX iM g ?_ ?_
    · simp only [bd_n, gd_n, ca2_n, ca_n, nbtF, pbfT, Bool.not_true, Bool.not_false, if_true, if_false, m_X6_orderAt, iz6, iX.1.now, iz411, hX]
    · simp only [bd_n, gd_n, ca2_n, ca_n, nbtF, pbfT, Bool.not_true, Bool.not_false, if_true, if_false, m_X7_orderAt, iz7, hY]
  | true =>
  rw [hp] at hX hY
  obtain ⟨p, hpn, ep⟩ := isIn_t hp (by omega)
  subst ep
  by_cases hz : szF (sN σ).1 ≤ 6
  · have q : (nI (szF (sN σ).1) ≤ 6) = True := eq_true (by rw [six (by omega)]; exact hz)
    have hp4 : P4 μ := iX.1.2.2.2.2.2.2.2.2.2.2.2.2.2.1
    have p9 : gR μ 1 9 = 357 := iX.1.2.2.2.2.2.2.2.1
    obtain ⟨μ1, e1, e2⟩ := x_rgather iX.sr g.gp hz hp4
    have p91 : gR μ1 1 9 = 357 := by rw [e2.1.1.2]; exact p9
    obtain ⟨m, m1, m2, m3⟩ := x_places hz hp4 e2 hpn
    refine fin_rw (σ := σ) (σ' := σ) (r := nI m) iM (g.more (by omega)) ?_ ?_
    · refine ⟨μ1, ?_, iX.scr g (e2.1.1.1.mono (fun b hb => by omega)) e2.1.1.2, e2.1.1.1.mono (fun b hb => by omega)⟩
      simp only [bd_n, gd_n, ca2_n, ca_n, nbtF, pbfT, Bool.not_true, Bool.not_false, if_true, if_false, m_X6_orderAt, iz6, iX.1.now, iz411, hX, k4, q, p9, iz3, e1, p91, m1]
    · intro μ iM
      have iM' := iM.thr 0
      have hY := y_noStrip iM'.1 hsz.1 hsz.2 (nI p)
      rw [hp] at hY
      obtain ⟨μ1, e1, e2, _, e3⟩ := y_layO iM'.1 g.gp hz
      have f2 : gI (sI μ 414 0 0) 422 202 = nI (szF (sN σ).1) := by rw [iM'.1.2 202 (by decide)]; exact hsz.1
      have fin := e2.fin iM'
      obtain ⟨m', w1, w2, w3⟩ := e3 p (by omega)
      have em : m' = m := hasB_ext (fun i => by rw [Bool.eq_iff_iff, w3 i, m3 i])
      rw [em] at w2
      have x1 : ix SH 8 431 (nI p) = true := ix_of (n := 6) rfl (by omega) (by decide)
      refine ⟨μ1, ?_, fin.1, thr_same.trans fin.2⟩
      simp only [bd_n, gd_n, ca2_n, ca_n, nbtF, pbfT, Bool.not_true, Bool.not_false, if_true, if_false, m_X7_orderAt, iz7, hY, iM'.1.1.pg, ixL202, c202, f2, q, e1, M_28 (e2.mr iM'.1).1, x1, nI_clamp (show p < 2 ^ 31 by omega), w2]
  · have q : (nI (szF (sN σ).1) ≤ 6) = False := eq_false (by rw [six (by omega)]; exact hz)
    refine fin_ro (r := -3) iX iM g ?_ ?_
    · simp only [bd_n, gd_n, ca2_n, ca_n, nbtF, pbfT, Bool.not_true, Bool.not_false, if_true, if_false, m_X6_orderAt, iz6, iX.1.now, iz411, hX, k4, q]
    · simp only [bd_n, gd_n, ca2_n, ca_n, nbtF, pbfT, Bool.not_true, Bool.not_false, if_true, if_false, m_X7_orderAt, iz7, hY, iM'.1.1.pg, ixL202, c202, f2, q]

/-! stuck: the last two change places -/
def swP (f : Nat → Int32) (a j : Nat) : Nat → Int32 := fun k => if a ≤ k ∧ k < a + j then f (k + 19) else if a + 19 ≤ k ∧ k < a + 19 + j then f (k - 19) else f k
theorem swP_0 (f : Nat → Int32) (a : Nat) : swP f a 0 = f := by
  funext k
  unfold swP
  rw [if_neg (by omega), if_neg (by omega)]
theorem swP_s (f : Nat → Int32) (a : Nat) {j : Nat} (hj : j < 19) : upd (upd (swP f a j) (a + j) (f (a + 19 + j))) (a + 19 + j) (f (a + j)) = swP f a (j + 1) := by
  funext k
  by_cases e : k = a + 19 + j
  · subst e
    rw [upd_s]
    unfold swP
    rw [if_neg (by omega), if_pos (by omega)]
    congr 1
    omega
  · rw [upd_n e]
    by_cases e2 : k = a + j
    · subst e2
      rw [upd_s]
      unfold swP
      rw [if_pos (by omega)]
      congr 1
      omega
    · rw [upd_n e2]
      unfold swP
      by_cases c1 : a ≤ k ∧ k < a + j
      · rw [if_pos c1, if_pos (by omega)]
      · rw [if_neg c1, if_neg (show ¬ (a ≤ k ∧ k < a + (j + 1)) by omega)]
        by_cases c2 : a + 19 ≤ k ∧ k < a + 19 + j
        · rw [if_pos c2, if_pos (by omega)]
        · rw [if_neg c2, if_neg (by omega)]
theorem swP_n {f : Nat → Int32} {a j k : Nat} (h : k < a ∨ a + 38 ≤ k) (hj : j ≤ 19) : swP f a j k = f k := by
  unfold swP
  rw [if_neg (by omega), if_neg (by omega)]
def sw2 (m i : Nat) : Nat := if i = m + 1 then m else if i = m then m + 1 else i
theorem sw2_1 (m : Nat) : sw2 m (m + 1) = m := by unfold sw2; rw [if_pos rfl]
theorem sw2_0 (m : Nat) : sw2 m m = m + 1 := by unfold sw2; rw [if_neg (by omega), if_pos rfl]
theorem sw2_n {m i : Nat} (h : i ≠ m) (h1 : i ≠ m + 1) : sw2 m i = i := by unfold sw2; rw [if_neg h1, if_neg h]
theorem swP_at {f : Nat → Int32} {m i d : Nat} (hi : i < m + 2) (hd : d < 19) : swP f (50 + 19 * m) 19 (50 + 19 * i + d) = f (50 + 19 * sw2 m i + d) := by
  unfold swP
  by_cases h1 : i = m + 1
  · subst h1
    rw [sw2_1, if_neg (by omega), if_pos (by omega)]
    congr 1
    omega
  · by_cases h2 : i = m
    · subst h2
      rw [sw2_0, if_pos (by omega)]
      congr 1
      omega
    · rw [sw2_n h2 h1, if_neg (by omega), if_neg (by omega)]
theorem SR.sw {μ : Mu} {a m : Nat} {f : Nat → Int32} (h : SR μ a f) (hm : szF f = m + 2) (hz : m + 2 ≤ 8) (hlk : ∀ q, q < 2 → lkF f q ≤ 4) : SR (sR (sR μ (a + 1) (m + 1) (gR μ (a + 1) m)) (a + 1) m (gR μ (a + 1) (m + 1))) a (swP f (50 + 19 * m) 19) := by
  obtain ⟨k0, k1, k2, k3, k4, k5, k6, k7⟩ := id h
  obtain ⟨s0, s1, s2, s3, s4, s5, s6, s7, s8, s9⟩ := id k0
  obtain ⟨ν, hν⟩ : ∃ ν, ν = sR (sR μ (a + 1) (m + 1) (gR μ (a + 1) m)) (a + 1) m (gR μ (a + 1) (m + 1)) := ⟨_, rfl⟩
  rw [← hν]
  have I : ∀ x k, gI ν x k = gI μ x k := fun x k => by rw [hν]; rfl
  have R : ∀ x k, x ≠ a + 1 → gR ν x k = gR μ x k := fun x k hx => by rw [hν, gR_sR, if_neg hx, gR_sR, if_neg hx]
  have R1 : ∀ i, gR ν (a + 1) i = gR μ (a + 1) (sw2 m i) := fun i => by
    rw [hν, gR_sR, if_pos rfl]
    by_cases h1 : i = m
    · rw [if_pos h1, h1, sw2_0]
    · rw [if_neg h1, gR_sR, if_pos rfl]
      by_cases h2 : i = m + 1
      · rw [if_pos h2, h2, sw2_1]
      · rw [if_neg h2, sw2_n h1 h2]
  have hsw : ∀ i, i < 8 → sw2 m i < 8 := fun i hi => by unfold sw2; split; omega; split <;> omega
  have hsz : ∀ i, i < m + 2 → sw2 m i < m + 2 := fun i hi => by unfold sw2; split; omega; split <;> omega
  have hinj : ∀ i j, sw2 m i = sw2 m j → i = j := fun i j e => by
    unfold sw2 at e
    split at e <;> split at e <;> (try split at e) <;> (try split at e) <;> omega
  have fn : ∀ k, k < 50 ∨ 202 ≤ k → swP f (50 + 19 * m) 19 k = f k := fun k hk => swP_n (by omega) (by omega)
  have ez : szF (swP f (50 + 19 * m) 19) = m + 2 := by unfold szF; rw [fn _ (by omega)]; exact hm
  refine ⟨⟨s0, (R _ _ (by omega)).trans s1, (R _ _ (by omega)).trans s2, (R _ _ (by omega)).trans s3, (R _ _ (by omega)).trans s4, (R _ _ (by omega)).trans s5, fun i hi => (R _ _ (by omega)).trans (s6 i hi), fun i hi => by rw [R1]; exact s7 _ (hsw i hi), fun i j hi hj e => by rw [R1, R1] at e; exact hinj i j (s8 _ _ (hsw i hi) (hsw j hj) e), fun j hj => (R _ _ (by omega)).trans (s9 j hj)⟩, ?_, ?_, ?_, ?_, fun p hp => ?_, fun i hi => ?_, fun b hb => ?_⟩
  · rw [I, fn _ (by omega)]; exact k1
  · rw [I, fn _ (by omega)]; exact k2
  · rw [I, fn _ (by omega)]; exact k3
  · rw [I, fn _ (by omega)]; exact k4
  · rw [I, I, I, fn _ (by omega), fn _ (by omega), fn _ (by omega)]; exact k5 p hp
  · rw [ez] at hi
    rw [R1]
    obtain ⟨w1, w2, w3, w4⟩ := k6 (sw2 m i) (by rw [hm]; exact hsz i hi)
    refine ⟨?_, ?_, ?_, fun k hk => ?_⟩
    · rw [I, w1]; exact (swP_at (d := 0) hi (by omega)).symm
    · rw [I, w2]; exact (swP_at (d := 1) hi (by omega)).symm
    · rw [I, w3]; exact (swP_at (d := 2) hi (by omega)).symm
    · rw [I, w4 k hk, Nat.add_assoc, Nat.add_assoc (50 + 19 * i)]; exact (swP_at (d := 3 + k) hi (by omega)).symm
  · obtain ⟨w1, w2, w3, w4, w5⟩ := k7 b hb
    have el : lkF (swP f (50 + 19 * m) 19) b = lkF f b := by unfold lkF; rw [fn _ (by omega)]
    have := hlk b hb
    refine ⟨by rw [I]; exact w1, by rw [I, fn _ (by omega)]; exact w2, by rw [I]; exact w3, by rw [I]; exact w4, fun k hk => ?_⟩
    rw [el] at hk
    rw [I, fn _ (by omega)]
    exact w5 k hk
theorem GP.stuck {P : Pl} {c m : Nat} {f : Nat → Int32} (h : GP P c f) (hm : szF f = m + 2) : GP P c (swP f (50 + 19 * m) 19) := by
  have hz := h.sz.2
  have fn : ∀ k, k < 50 ∨ 202 ≤ k → swP f (50 + 19 * m) 19 k = f k := fun k hk => swP_n (by omega) (by omega)
  have hsz : ∀ i, i < m + 2 → sw2 m i < m + 2 := fun i hi => by unfold sw2; split; omega; split <;> omega
  have hinj : ∀ i j, sw2 m i = sw2 m j → i = j := fun i j e => by
    unfold sw2 at e
    split at e <;> split at e <;> (try split at e) <;> (try split at e) <;> omega
  refine GP.cg (sw2 m) h (fn _ (by omega)) (fn _ (by omega)) (fun k h1 h2 => fn _ (by omega)) (fun i hi => by rw [hm] at hi ⊢; exact hsz i hi) (fun i j _ _ e => hinj i j e) (fun i hi => ⟨swP_at (d := 0) (by omega) (by omega), fun k hk => ?_⟩) (fun i hi => ?_) (by rw [fn _ (by omega)]; exact h.2.2.1) (fun p hp => by rw [fn _ (by omega)]; exact h.2.2.2.1 p hp) (fun p hp => by rw [fn _ (by omega)]; exact h.2.2.2.2.1 p hp)
  · rw [Nat.add_assoc, Nat.add_assoc (50 + 19 * sw2 m i)]
    exact swP_at (d := 3 + k) (by omega) (by omega)
  · rw [swP_at (d := 1) (by omega) (by omega), swP_at (d := 2) (by omega) (by omega)]
    exact (h.2.2.2.2.2.1 (sw2 m i) (by have := hsz i (by omega); omega)).2
theorem y_stuck {m : Nat} {f : Nat → Int32} (hk : f 202 = nI (m + 2)) (hk8 : m + 2 ≤ 8) {σ : Sg} : ∀ (d j F : Nat) (μ : Mu), j + d = 19 → d < F → InvM μ (wN σ (swP f (50 + 19 * m) j, (sN σ).2)) → ∃ μ', m_X7_stuck_h43 SH 414 (nI (50 + 19 * m)) F (nI j) μ = some (f (50 + 19 * m), μ') ∧ InvM μ' (wN σ (swP f (50 + 19 * m) 19, (sN σ).2)) ∧ same (fun b => b < 414) μ μ' := by
  intro d
  induction d with
  | zero =>
    intro j F μ hi hF h
    obtain ⟨F, rfl⟩ : ∃ g, F = g + 1 := ⟨F - 1, by omega⟩
    have e : j = 19 := by omega
    subst e
    have hp : ∀ q, q < 205 → gI μ 422 q = swP f (50 + 19 * m) 19 q := h.1.2
    refine ⟨μ, ?_, h, same.rf⟩
    show m_X7_stuck_b43 SH (m_X7_stuck_h43 SH 414 (nI (50 + 19 * m)) F) 414 (nI (50 + 19 * m)) (nI 19) μ = _
    have c1 : ((19 : Int32) ≤ nI 19) = True := eq_true (by decide)
    have hof : m_X7_of SH 414 (nI (m + 1)) 0 μ = some (f (50 + 19 * m), μ) := by
      have := y_of (i := m + 1) (w := 0) h.1 (by omega)
      rw [show (sN (wN σ (swP f (50 + 19 * m) 19, (sN σ).2))).1 = swP f (50 + 19 * m) 19 from rfl, swP_at (by omega) (by omega), sw2_1] at this
      exact this
    simp only [bd_n, gd_n, ca2_n, ca_n, nbtF, pbfT, Bool.not_true, Bool.not_false, if_true, if_false, m_X7_stuck_b43, c1, m_X7_stuck_b95, iz7, h.1.1.pg, ixL202, c202, hp 202 (by decide), swP_n (f := f) (a := 50 + 19 * m) (j := 19) (k := 202) (by omega) (by omega), hk, show nI (m + 2) - 1 = nI (m + 1) from pk_sub (a := m + 2) (b := 1) (by omega), hof]
  | succ d ih =>
    intro j F μ hi hF h
    obtain ⟨F, rfl⟩ : ∃ g, F = g + 1 := ⟨F - 1, by omega⟩
    have hp : ∀ q, q < 205 → gI μ 422 q = swP f (50 + 19 * m) j q := h.1.2
    have h2 := (h.wr (k := 50 + 19 * m + j) (v := f (50 + 19 * m + 19 + j))).wr (k := 50 + 19 * m + 19 + j) (v := f (50 + 19 * m + j))
    have e2 := swP_s f (50 + 19 * m) (show j < 19 by omega)
    have h3 : InvM (sI (sI μ 422 (50 + 19 * m + j) (f (50 + 19 * m + 19 + j))) 422 (50 + 19 * m + 19 + j) (f (50 + 19 * m + j))) (wN σ (swP f (50 + 19 * m) (j + 1), (sN σ).2)) := by
      rw [← e2]
      exact h2
    obtain ⟨μ', e', q1, q2⟩ := ih (j + 1) F _ (by omega) (by omega) h3
    refine ⟨μ', ?_, q1, ((same_sI (by decide)).trans (same_sI (by decide))).trans q2⟩
    rw [← e']
    show m_X7_stuck_b43 SH (m_X7_stuck_h43 SH 414 (nI (50 + 19 * m)) F) 414 (nI (50 + 19 * m)) (nI j) μ = _
    have c1 : ((19 : Int32) ≤ nI j) = False := eq_false (nleL 19 (by omega) (by decide))
    have x1 : ix SH 8 422 (nI (50 + 19 * m + j)) = true := ix422 (by omega)
    have x2 : ix SH 8 422 (nI (50 + 19 * m + 19 + j)) = true := ix422 (by omega)
    have d1 : (nI (50 + 19 * m + j)).toNatClampNeg = 50 + 19 * m + j := nI_clamp (by omega)
    have d2 : (nI (50 + 19 * m + 19 + j)).toNatClampNeg = 50 + 19 * m + 19 + j := nI_clamp (by omega)
    have m1 : gI μ 422 (50 + 19 * m + j) = f (50 + 19 * m + j) := by
      rw [hp _ (by omega)]; unfold swP; rw [if_neg (by omega), if_neg (by omega)]
    have m2 : gI μ 422 (50 + 19 * m + 19 + j) = f (50 + 19 * m + 19 + j) := by
      rw [hp _ (by omega)]; unfold swP; rw [if_neg (by omega), if_neg (by omega)]
    simp only [bd_n, gd_n, ca2_n, ca_n, nbtF, pbfT, Bool.not_true, Bool.not_false, if_true, if_false, m_X7_stuck_b43, c1, iz7, h.1.1.pg, show nI (50 + 19 * m) + nI j = nI (50 + 19 * m + j) from nI_add _ _, show nI (50 + 19 * m) + 19 + nI j = nI (50 + 19 * m + 19 + j) by rw [show (19 : Int32) = nI 19 from rfl, nI_add, nI_add], x1, x2, d1, d2, m1, m2, gR_sI, nI_1]
theorem op_stuck : OpI (m_X6_stuck SH 1) (m_X7_stuck SH 414) := by
  intro μ σ c iX iM g hc
  have hsz := g.gp.sz
  have iM' := iM.thr 0
  have h4 : gI μ 11 4 = nI (szF (sN σ).1) := iX.sr.2.2.2.2.1.trans hsz.1
  by_cases h2 : szF (sN σ).1 < 2
  · have c1 : ((2 : Int32) ≤ nI (szF (sN σ).1)) = False := eq_false (nleL 2 h2 (by decide))
    refine fin_ro (r := -3) iX iM g ?_ ?_
    · simp only [bd_n, gd_n, ca2_n, ca_n, nbtF, pbfT, Bool.not_true, Bool.not_false, if_true, if_false, m_X6_stuck, iz6, iz411, iX.1.now, h4, c1]
    · simp only [bd_n, gd_n, ca2_n, ca_n, nbtF, pbfT, Bool.not_true, Bool.not_false, if_true, if_false, m_X7_stuck, iz7, iM'.1.1.pg, ixL202, c202, iM'.1.2 202 (by decide), hsz.1, c1]
  · obtain ⟨m, hm⟩ : ∃ m, szF (sN σ).1 = m + 2 := ⟨szF (sN σ).1 - 2, by omega⟩
    have hz8 := hsz.2
    have c1 : ((2 : Int32) ≤ nI (szF (sN σ).1)) = True := eq_true (leL 2 (by omega) (by omega))
    have g1 := g.toP
    have g2 : Good (wN (wA σ (psh (sA σ) (sN σ))) (swP (sN σ).1 (50 + 19 * m) 19, (sN σ).2)) c := g1.toN (g.gp.stuck hm)
    refine fin_rw (σ := σ) (r := (sN σ).1 (50 + 19 * m)) iM (g2.more (by omega)) ?_ ?_
    · obtain ⟨μ1, e1, i1, s1⟩ := x_remember iX g
      have sr : SR μ1 11 (sN σ).1 := i1.sr
      have sw : SR (sR (sR μ1 12 (m + 1) (gR μ1 12 m)) 12 m (gR μ1 12 (m + 1))) 11 (swP (sN σ).1 (50 + 19 * m) 19) := SR.sw sr hm (by omega) g.gp.lk4
      have h41 : gI μ1 11 4 = nI (m + 2) := by rw [sr.2.2.2.2.1, hsz.1, hm]
      refine ⟨sR (sR μ1 12 (m + 1) (gR μ1 12 m)) 12 m (gR μ1 12 (m + 1)), ?_, i1.toN g1 ((same_sR (by decide)).trans (same_sR (by decide))) sw i1.2.2.2.2.1.2, ((s1.mono (fun b hb => by omega)).trans (same_sR (by decide))).trans (same_sR (by decide))⟩
      have u1 : (nI (m + 2) < 2) = False := eq_false (fun q => Int32.not_lt.mpr (leL 2 (by omega) (by omega)) q)
      have u2 : (nI (m + 2) ≤ 8) = True := eq_true (nI_le (a := m + 2) (b := 8) (by omega) (by decide))
      have u3 : nI (m + 2) - 1 = nI (m + 1) := pk_sub (a := m + 2) (b := 1) (by omega)
      have u4 : nI (m + 2) - 2 = nI m := pk_sub (a := m + 2) (b := 2) (by omega)
      have y1 : ix SH 11 12 (nI (m + 1)) = true := sr.1.ix1 (by omega)
      have y0 : ix SH 11 12 (nI m) = true := sr.1.ix1 (by omega)
      have p1 : (nI (m + 1)).toNatClampNeg = m + 1 := nI_clamp (by omega)
      have p0 : (nI m).toNatClampNeg = m := nI_clamp (by omega)
      have t1 : iz SH 5 (gR μ1 12 (m + 1)) = true := (sr.1.tpi (i := m + 1) (by omega)).iz
      have t0 : iz SH 5 (gR μ1 12 m) = true := (sr.1.tpi (i := m) (by omega)).iz
      have r0 : ∀ k v, gR (sR μ1 12 k v) 11 5 = 12 := fun k v => by rw [gR_sR, if_neg (by decide)]; exact sr.1.2.1
      have r1 : gR (sR (sR μ1 12 (m + 1) (gR μ1 12 m)) 12 m (gR μ1 12 (m + 1))) 11 5 = 12 := by rw [gR_sR, if_neg (by decide)]; exact r0 _ _
      have r2 : gR (sR (sR μ1 12 (m + 1) (gR μ1 12 m)) 12 m (gR μ1 12 (m + 1))) 12 (m + 1) = gR μ1 12 m := by rw [gR_sR, if_pos rfl, if_neg (by omega), gR_sR, if_pos rfl, if_pos rfl]
      have i4 : ∀ k v, gI (sR μ1 12 k v) 11 4 = nI (m + 2) := fun k v => h41
      have i5 : gI (sR (sR μ1 12 (m + 1) (gR μ1 12 m)) 12 m (gR μ1 12 (m + 1))) 11 4 = nI (m + 2) := h41
      have i6 : gI (sR (sR μ1 12 (m + 1) (gR μ1 12 m)) 12 m (gR μ1 12 (m + 1))) (gR μ1 12 m) 0 = (sN σ).1 (50 + 19 * m) := (sr.2.2.2.2.2.2.1 m (by omega)).1
      simp only [bd_n, gd_n, ca2_n, ca_n, nbtF, pbfT, Bool.not_true, Bool.not_false, if_true, if_false, m_X6_stuck, iz6, iz411, iz137, iX.1.now, iX.1.past, h4, c1, e1, i1.1.now, m_X4_swapLastTwo, h41, u1, u2, show gR μ1 11 5 = 12 from sr.1.2.1, u3, u4, y1, y0, p1, p0, t1, t0, r0, r1, r2, i4, i5, i6]
    · intro μ iM
      have iM' := iM.thr 0
      obtain ⟨μ1, e1, i1, s1⟩ := y_note iM' g
      obtain ⟨μ2, e2, q1, q2⟩ := y_stuck (m := m) (f := (sN σ).1) (σ := wA σ (psh (sA σ) (sN σ))) (by rw [hsz.1, hm]) (by omega) 19 0 FU μ1 (by omega) (by rw [FU_eq]; omega) (by rw [swP_0]; exact i1)
      refine ⟨μ2, ?_, q1, (thr_same.trans s1).trans q2⟩
      rw [show nI 0 = (0 : Int32) from rfl] at e2
      have m202 : gI μ1 422 202 = nI (m + 2) := (i1.1.2 202 (by decide)).trans (by rw [← hm]; exact hsz.1)
      have u4 : (50 : Int32) + 19 * (nI (m + 2) - 2) = nI (50 + 19 * m) := by
        rw [show nI (m + 2) - 2 = nI m from pk_sub (a := m + 2) (b := 2) (by omega), show (19 : Int32) = nI 19 from rfl, pk_mul, show (50 : Int32) = nI 50 from rfl, nI_add]
      simp only [bd_n, gd_n, ca2_n, ca_n, nbtF, pbfT, Bool.not_true, Bool.not_false, if_true, if_false, m_X7_stuck, iz7, iM'.1.1.pg, ixL202, c202, iM'.1.2 202 (by decide), hsz.1, c1, e1, i1.1.1.pg, m202, u4, e2]

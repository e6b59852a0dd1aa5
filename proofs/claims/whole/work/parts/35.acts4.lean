/-! a write into a strip of the chute: torn or faded -/
theorem SR.tw {μ : Mu} {a i d : Nat} {v : Int32} {f : Nat → Int32} (h : SR μ a f) (hi : i < szF f) (hz : szF f ≤ 8) (hlk : ∀ q, q < 2 → lkF f q ≤ 4) (hd : d = 1 ∨ d = 2) : SR (sI μ (gR μ (a + 1) i) (d + 1) v) a (upd f (50 + 19 * i + d) v) := by
  obtain ⟨k0, k1, k2, k3, k4, k5, k6, k7⟩ := id h
  obtain ⟨j, hj, ej⟩ := k0.st (i := i) (by omega)
  have ez : szF (upd f (50 + 19 * i + d) v) = szF f := szF_u (by omega)
  refine ⟨k0.cps (fun _ _ => rfl), fld k1 (by omega), fld k2 (by omega), fld k3 (by omega), fld k4 (by omega), fun p hp => ⟨fld (k5 p hp).1 (by omega), fld (k5 p hp).2.1 (by omega), fld (k5 p hp).2.2 (by omega)⟩, fun i2 hi2 => ?_, fun b hb => ?_⟩
  · rw [ez] at hi2
    obtain ⟨j2, hj2, ej2⟩ := k0.st (i := i2) (by omega)
    have hne : gR μ (a + 1) i2 = gR μ (a + 1) i → i2 = i := k0.2.2.2.2.2.2.2.2.1 i2 i (by omega) (by omega)
    have hne2 : i2 = i → gR μ (a + 1) i2 = gR μ (a + 1) i := fun e => by rw [e]
    obtain ⟨w1, w2, w3, w4⟩ := k6 i2 hi2
    rw [gR_sI]
    exact ⟨fld w1 (by omega), fld w2 (by omega), fld w3 (by omega), fun k hk => fld (w4 k hk) (by omega)⟩
  · obtain ⟨w1, w2, w3, w4, w5⟩ := k7 b hb
    have := hlk b hb
    have hsm : same (fun x => x = a + 22 + 2 * b ∨ x = a + 22 + 2 * b + 1) μ (sI μ (gR μ (a + 1) i) (d + 1) v) := same_sI (by omega)
    refine ⟨(hsm.I (by omega) _).trans w1, fld w2 (by omega), (hsm.I (by omega) _).trans w3, (hsm.I (by omega) _).trans w4, fun k hk => ?_⟩
    rw [lkF_u (by omega)] at hk
    exact fld (w5 k hk) (by omega)
theorem tornG_lt (f : Nat → Int32) : ∀ N, N ≤ 30 → ∃ s, s < 2 ^ N ∧ tornG f N = nI s
  | 0, _ => ⟨0, by decide, rfl⟩
  | p + 1, h => by
    obtain ⟨s, hs, e⟩ := tornG_lt f p (by omega)
    unfold tornG
    by_cases c : f (50 + 19 * p + 1) = 0
    · rw [if_pos c, e]
      exact ⟨s, Nat.lt_of_lt_of_le hs (Nat.pow_le_pow_right (by decide) (by omega)), rfl⟩
    · rw [if_neg c, e, sh1 p (by omega), fa_or]
      refine ⟨s ||| 2 ^ p, ?_, rfl⟩
      exact Nat.or_lt_two_pow (Nat.lt_of_lt_of_le hs (Nat.pow_le_pow_right (by decide) (by omega))) (Nat.pow_lt_pow_right (by decide) (by omega))
theorem tornG_8 (f : Nat → Int32) {n : Nat} (hn : n ≤ 8) : ∃ s, s < 256 ∧ tornG f n = nI s := by
  obtain ⟨s, h, e⟩ := tornG_lt f n (by omega)
  exact ⟨s, Nat.lt_of_lt_of_le h (Nat.pow_le_pow_right (by decide) hn), e⟩
theorem k13 (w : Int32) : (∃ k, 1 ≤ k ∧ k ≤ 3 ∧ w = nI k ∧ (w < 1) = False ∧ (w < 4) = True ∧ inL w.toInt64 1 3 = true) ∨ (((w < 1) = True ∨ (w < 1) = False ∧ (w < 4) = False) ∧ inL w.toInt64 1 3 = false) := by
  rcases w_lit w with rfl | rfl | rfl | rfl | h
  · exact Or.inr (by decide)
  · exact Or.inl ⟨1, by decide⟩
  · exact Or.inl ⟨2, by decide⟩
  · exact Or.inl ⟨3, by decide⟩
  · refine Or.inr ⟨?_, ?_⟩
    · by_cases h1 : w < 1
      · exact Or.inl (eq_true h1)
      · refine Or.inr ⟨eq_false h1, eq_false (fun h4 => ?_)⟩
        have : isIn w 4 = true := by
          rw [isIn_iff (by decide)]
          rw [fa_lt] at h1 h4
          rw [show (1 : Int32).toInt = 1 from rfl] at h1
          rw [show (4 : Int32).toInt = 4 from rfl] at h4
          omega
        rw [h] at this
        cases this
    · cases hb : inL w.toInt64 1 3 with
      | false => rfl
      | true =>
        have := inL_iff.mp hb
        have h2 : isIn w 4 = true := by
          rw [isIn_iff (by decide)]
          rw [show (1 : Int64).toInt = 1 from rfl, show (3 : Int64).toInt = 3 from rfl] at this
          omega
        rw [h] at h2
        cases h2
theorem GP.tear {P : Pl} {c i k : Nat} {f : Nat → Int32} (h : GP P c f) (hi : i < szF f) (hk : k ≤ 3) : GP P c (upd f (50 + 19 * i + 1) (nI k)) := by
  have hz := h.sz.2
  refine GP.cg id h (upd_n (by omega)) (upd_n (by omega)) (fun q h1 h2 => upd_n (by omega)) (fun i hi => hi) (fun i j _ _ e => e) (fun q hq => ⟨upd_n (by omega), fun k hk => upd_n (by omega)⟩) (fun q hq => ?_) (by rw [upd_n (by omega)]; exact h.2.2.1) (fun q hq => by rw [upd_n (by omega)]; exact h.2.2.2.1 q hq) (fun q hq => by rw [upd_n (by omega)]; exact h.2.2.2.2.1 q hq)
  have := h.2.2.2.2.2.1 q hq
  refine ⟨?_, by rw [upd_n (by omega)]; exact this.2.2⟩
  by_cases e : q = i
  · subst e; rw [upd_s]; exact ⟨k, hk, rfl⟩
  · rw [upd_n (by omega)]; exact this.2.1
theorem op_tear (v w : Int32) : OpI (m_X6_tear SH 1 v w) (m_X7_tear SH 414 v w) := by
  intro μ σ c iX iM g hc
  have hv := g.pv
  have iM' := iM.thr 0
  have hsz := g.gp.sz
  have hk4 : gI μ 11 4 = nI (szF (sN σ).1) := iX.sr.2.2.2.2.1.trans hsz.1
  have hX := x_hasStrip iX.sr.1 hk4 hsz.2 v
  cases hp : isIn v (szF (sN σ).1) with
  | false =>
    refine fin_ro (r := -1) iX iM g ?_ ?_
    · simp only [bd_n, gd_n, ca2_n, ca_n, nbtF, pbfT, Bool.not_true, Bool.not_false, if_true, if_false, m_X6_tear, iz6, iz411, iX.1.now, hX, hp]
    · simp only [bd_n, gd_n, ca2_n, ca_n, nbtF, pbfT, Bool.not_true, Bool.not_false, if_true, if_false, m_X7_tear, iz7, y_noStrip iM'.1 hsz.1 hsz.2, hp]
  | true =>
  obtain ⟨i, hi, ei⟩ := isIn_t hp (by omega)
  subst ei
  have cp : (nI i).toNatClampNeg = i := nI_clamp (by omega)
  rcases k13 w with ⟨k, hk1, hk3, ew, a1, a2, a3⟩ | ⟨a1, a3⟩
  · subst ew
    obtain ⟨j, hj, ej⟩ := iX.sr.1.st (i := i) (by omega)
    have hst := iX.sr.2.2.2.2.2.2.1 i hi
    obtain ⟨t, ht, et⟩ := g.gp.torn i hi
    have htp := iX.sr.1.tpi (i := i) (by omega)
    have x1 : ix SH 11 12 (nI i) = true := iX.sr.1.ix1 (by omega)
    have hof : ∀ μ, InvM μ σ → m_X7_of SH 414 (nI i) 1 μ = some (nI t, μ) := fun μ iM => by rw [← et]; exact y_of (w := 1) iM.1 (by omega)
    by_cases h0 : t = 0
    · subst h0
      have g1 := g.toP
      have g2 : Good (wN (wA σ (psh (sA σ) (sN σ))) (upd (sN σ).1 (50 + 19 * i + 1) (nI k), (sN σ).2)) c := g1.toN (g.gp.tear hi hk3)
      have z2 : szF (upd (sN σ).1 (50 + 19 * i + 1) (nI k)) = szF (sN σ).1 := szF_u (by omega)
      obtain ⟨s, hs, es⟩ := tornG_8 (upd (sN σ).1 (50 + 19 * i + 1) (nI k)) hsz.2
      have h202 : (upd (sN σ).1 (50 + 19 * i + 1) (nI k)) 202 = nI (szF (sN σ).1) := by rw [upd_n (by omega)]; exact hsz.1
      refine fin_rw (σ := σ) (r := nI (popc s)) iM (g2.more (by omega)) ?_ ?_
      · obtain ⟨μ1, e1, i1, s1⟩ := x_remember iX g
        have sr : SR μ1 11 (sN σ).1 := i1.sr
        have sr2 : SR (sI μ1 (gR μ1 12 i) 2 (nI k)) 11 (upd (sN σ).1 (50 + 19 * i + 1) (nI k)) := SR.tw (d := 1) sr hi hsz.2 g.gp.lk4 (Or.inl rfl)
        obtain ⟨j2, hj2, ej2⟩ := sr.1.st (i := i) (by omega)
        rw [show 11 + 1 = 12 from rfl] at ej2 ej
        have htp2 := sr.1.tpi (i := i) (by omega)
        refine ⟨sI μ1 (gR μ1 12 i) 2 (nI k), ?_, i1.toN g1 (same_sI (by omega)) sr2 i1.2.2.2.2.1.2, (s1.mono (fun b hb => by omega)).trans (same_sI (by omega))⟩
        have q := x_tornOnes sr2 h202 hsz.2
        rw [es] at q
        simp only [bd_n, gd_n, ca2_n, ca_n, nbtF, pbfT, Bool.not_true, Bool.not_false, if_true, if_false, m_X6_tear, iz6, iz411, iz137, iX.1.now, iX.1.past, hX, hp, a1, a2, show gR μ 11 5 = 12 from iX.sr.1.2.1, x1, cp, show iz SH 5 (gR μ 12 i) = true from htp.iz, show gI μ (gR μ 12 i) 2 = _ from hst.2.1, et, show (nI 0 = (0 : Int32)) = True from eq_true rfl, e1, i1.1.now, show gR μ1 11 5 = 12 from sr.1.2.1, show iz SH 5 (gR μ1 12 i) = true from htp2.iz, gR_sI, q, x_bitCount hs]
      · intro μ iM
        have iM' := iM.thr 0
        obtain ⟨μ1, e1, i1, s1⟩ := y_note iM' g
        have i2 := i1.wr (k := 50 + 19 * i + 1) (v := nI k)
        refine ⟨sI μ1 422 (50 + 19 * i + 1) (nI k), ?_, i2, (thr_same.trans s1).trans (same_sI (by decide))⟩
        have q : m_X7_tornOnes SH 414 (sI μ1 422 (50 + 19 * i + 1) (nI k)) = some (nI s, sI μ1 422 (50 + 19 * i + 1) (nI k)) := by
          rw [← es]
          exact y_tornOnes i2.1 h202 hsz.2 (fun q hq => (g2.gp.torn q (by show q < szF (upd (sN σ).1 (50 + 19 * i + 1) (nI k)); rw [z2]; exact hq)))
        have xx : ix SH 8 422 (nI (50 + 19 * i + 1)) = true := ix422 (by omega)
        have cc : (nI (50 + 19 * i + 1)).toNatClampNeg = 50 + 19 * i + 1 := nI_clamp (by omega)
        simp only [bd_n, gd_n, ca2_n, ca_n, nbtF, pbfT, Bool.not_true, Bool.not_false, if_true, if_false, m_X7_tear, iz7, y_noStrip iM'.1 hsz.1 hsz.2, hp, y_in, a3, hof _ iM', show ((nI 0) ≤ (0 : Int32)) = True from eq_true (by decide), e1, i1.1.1.pg, show (50 + 19 * nI i + 1 : Int32) = nI (50 + 19 * i + 1) from of_ix i 1, xx, cc, q, y_many hs]
    · have hn0 : ¬ nI t = 0 := fun e => h0 ((nI_eq (b := 0) (by omega) (by decide)).mp e)
      have hn1 : ¬ nI t ≤ 0 := nle_nI (n := t) (i := 0) (by omega) (by omega)
      refine fin_ro (r := -3) iX iM g ?_ ?_
      · rw [show 11 + 1 = 12 from rfl] at ej
        simp only [bd_n, gd_n, ca2_n, ca_n, nbtF, pbfT, Bool.not_true, Bool.not_false, if_true, if_false, m_X6_tear, iz6, iz411, iX.1.now, hX, hp, a1, a2, show gR μ 11 5 = 12 from iX.sr.1.2.1, x1, cp, show iz SH 5 (gR μ 12 i) = true from htp.iz, show gI μ (gR μ 12 i) 2 = _ from hst.2.1, et, hn0]
      · simp only [bd_n, gd_n, ca2_n, ca_n, nbtF, pbfT, Bool.not_true, Bool.not_false, if_true, if_false, m_X7_tear, iz7, y_noStrip iM'.1 hsz.1 hsz.2, hp, y_in, a3, hof _ iM', hn1]
  · refine fin_ro (r := -2) iX iM g ?_ ?_
    · rcases a1 with a1 | ⟨a1, a2⟩
      · simp only [bd_n, gd_n, ca2_n, ca_n, nbtF, pbfT, Bool.not_true, Bool.not_false, if_true, if_false, m_X6_tear, iz6, iz411, iX.1.now, hX, hp, a1]
      · simp only [bd_n, gd_n, ca2_n, ca_n, nbtF, pbfT, Bool.not_true, Bool.not_false, if_true, if_false, m_X6_tear, iz6, iz411, iX.1.now, hX, hp, a1, a2]
    · simp only [bd_n, gd_n, ca2_n, ca_n, nbtF, pbfT, Bool.not_true, Bool.not_false, if_true, if_false, m_X7_tear, iz7, y_noStrip iM'.1 hsz.1 hsz.2, hp, y_in, a3]
/-! day -/
def fd (v : Int32) : Int32 := if 9 ≤ v then v + 0 else v + 1
def dyF (f : Nat → Int32) (n : Nat) : Nat → Int32 := fun k => if 52 ≤ k ∧ (k - 52) % 19 = 0 ∧ (k - 52) / 19 < n then fd (f k) else f k
theorem dyF_0 (f : Nat → Int32) : dyF f 0 = f := by
  funext k
  unfold dyF
  rw [if_neg (by omega)]
theorem dyF_s (f : Nat → Int32) (i : Nat) : upd (dyF f i) (50 + 19 * i + 2) (fd (f (50 + 19 * i + 2))) = dyF f (i + 1) := by
  funext k
  by_cases e : k = 50 + 19 * i + 2
  · subst e
    rw [upd_s]
    unfold dyF
    rw [if_pos (by omega)]
  · rw [upd_n e]
    unfold dyF
    by_cases e2 : 52 ≤ k ∧ (k - 52) % 19 = 0 ∧ (k - 52) / 19 < i
    · rw [if_pos e2, if_pos (by omega)]
    · rw [if_neg e2, if_neg (by omega)]
theorem dyF_n {f : Nat → Int32} {n k : Nat} (h : ¬ (52 ≤ k ∧ (k - 52) % 19 = 0 ∧ (k - 52) / 19 < n)) : dyF f n k = f k := by
  unfold dyF
  rw [if_neg h]
theorem dyF_u {f : Nat → Int32} {n : Nat} {v : Int32} (hn : n ≤ 8) : dyF (upd f 204 v) n = upd (dyF f n) 204 v := by
  funext k
  by_cases e : k = 204
  · subst e; rw [upd_s, dyF_n (by omega), upd_s]
  · rw [upd_n e]
    unfold dyF
    rw [upd_n e]
theorem fd_nI : ∀ d, d ≤ 9 → fd (nI d) = nI (min 9 (d + 1)) := by decide
theorem fd_min : ∀ d, d ≤ 9 → (if nI d + 1 < (9 : Int32) then nI d + 1 else 9) = fd (nI d) := by decide
theorem szF_dy {f : Nat → Int32} {n : Nat} (hn : n ≤ 8) : szF (dyF f n) = szF f := by unfold szF; rw [dyF_n (by omega)]
theorem lkF_dy {f : Nat → Int32} {n q : Nat} (hq : q < 2) : lkF (dyF f n) q = lkF f q := by unfold lkF; rw [dyF_n (by omega)]
theorem x_fade {a k : Nat} {f : Nat → Int32} (hk : f 202 = nI k) (hk8 : k ≤ 8) (hz : szF f = k) (hlk : ∀ q, q < 2 → lkF f q ≤ 4) (hd : ∀ i, i < k → ∃ d, d ≤ 9 ∧ f (50 + 19 * i + 2) = nI d) : ∀ (d i F : Nat) (μ : Mu), i + d = k → d < F → SR μ a (dyF f i) → ∃ μ', m_X4_fadeByOne_h2 SH a F (nI i) μ = some μ' ∧ SR μ' a (dyF f k) ∧ gJ μ' a 0 = gJ μ a 0 ∧ same (fun b => b < a ∨ a + 26 ≤ b) μ μ' := by
  intro d
  induction d with
  | zero =>
    intro i F μ hi hF h
    obtain ⟨F, rfl⟩ : ∃ g, F = g + 1 := ⟨F - 1, by omega⟩
    have e : i = k := by omega
    subst e
    refine ⟨μ, ?_, h, rfl, same.rf⟩
    show m_X4_fadeByOne_b2 SH (m_X4_fadeByOne_h2 SH a F) a (nI i) μ = _
    unfold m_X4_fadeByOne_b2
    rw [gd_of h.1.iz, h.2.2.2.2.1, dyF_n (by omega), hk, if_pos (Int32.le_refl _)]
  | succ d ih =>
    intro i F μ hi hF h
    obtain ⟨F, rfl⟩ : ∃ g, F = g + 1 := ⟨F - 1, by omega⟩
    have hz' : szF (dyF f i) = k := (szF_dy (by omega)).trans hz
    obtain ⟨t, ht, et⟩ := hd i (by omega)
    have hst := h.2.2.2.2.2.2.1 i (by omega)
    have hfd : gI μ (gR μ (a + 1) i) 3 = nI t := by
      rw [hst.2.2.1, dyF_n (by omega)]; exact et
    have htp := h.1.tpi (i := i) (by omega)
    have h2 := SR.tw (i := i) (d := 2) (v := fd (f (50 + 19 * i + 2))) h (by omega) (by omega) (fun q hq => by rw [lkF_dy hq]; exact hlk q hq) (Or.inr rfl)
    rw [dyF_s] at h2
    obtain ⟨μ', e', q1, q2, q3⟩ := ih (i + 1) F _ (by omega) (by omega) h2
    obtain ⟨j, hj, ej⟩ := h.1.st (i := i) (by omega)
    refine ⟨μ', ?_, q1, q2, (same_sI (by omega)).trans q3⟩
    rw [← e']
    show m_X4_fadeByOne_b2 SH (m_X4_fadeByOne_h2 SH a F) a (nI i) μ = _
    have h4 : gI μ a 4 = nI k := by rw [h.2.2.2.2.1, dyF_n (by omega), hk]
    have c1 : (nI k ≤ nI i) = False := eq_false (nle_nI (by omega) (by omega))
    have c2 : ((8 : Int32) ≤ nI i) = False := eq_false (nleL 8 (by omega) (by decide))
    have cp : (nI i).toNatClampNeg = i := nI_clamp (by omega)
    have hmin : m_J9_min_7cf53 SH 9 (nI (t + 1)) μ = some (fd (nI t), μ) := by
      rw [← fd_min t ht, ← nI_1]
      unfold m_J9_min_7cf53
      split <;> rfl
    simp only [bd_n, gd_n, ca2_n, ca_n, nbtF, pbfT, Bool.not_true, Bool.not_false, if_true, if_false, m_X4_fadeByOne_b2, h.1.iz, h4, c1, c2, h.1.2.1, show ix SH 11 (a + 1) (nI i) = true from h.1.ix1 (by omega), cp, htp.iz, hfd, hmin, et, nI_1]
theorem y_fade {k : Nat} {f : Nat → Int32} (hk : f 202 = nI k) (hk8 : k ≤ 8) {σ : Sg} (hσ : (sN σ).1 = f) : ∀ (d i F : Nat) (μ : Mu), i + d = k → d < F → InvM μ (wN σ (dyF f i, (sN σ).2)) → ∃ μ', m_X7_day_h23 SH 414 F (nI i) μ = some (f 204, μ') ∧ InvM μ' (wN σ (dyF f k, (sN σ).2)) ∧ same (fun b => b < 414) μ μ' := by
  intro d
  induction d with
  | zero =>
    intro i F μ hi hF h
    obtain ⟨F, rfl⟩ : ∃ g, F = g + 1 := ⟨F - 1, by omega⟩
    have e : i = k := by omega
    subst e
    have m : ∀ q, q < 205 → gI μ 422 q = dyF f i q := h.1.2
    refine ⟨μ, ?_, h, same.rf⟩
    show m_X7_day_b23 SH (m_X7_day_h23 SH 414 F) 414 (nI i) μ = _
    have c1 : (nI i ≤ nI i) = True := eq_true (Int32.le_refl _)
    simp only [bd_n, gd_n, ca2_n, ca_n, nbtF, pbfT, Bool.not_true, Bool.not_false, if_true, if_false, m_X7_day_b23, iz7, h.1.1.pg, ixL202, c202, m 202 (by decide), dyF_n (f := f) (n := i) (k := 202) (by omega), hk, c1, m_X7_day_b74, ixL204, c204, m 204 (by decide), dyF_n (f := f) (n := i) (k := 204) (by omega)]
  | succ d ih =>
    intro i F μ hi hF h
    obtain ⟨F, rfl⟩ : ∃ g, F = g + 1 := ⟨F - 1, by omega⟩
    have m : ∀ q, q < 205 → gI μ 422 q = dyF f i q := h.1.2
    have h2 := h.wr (k := 50 + 19 * i + 2) (v := fd (f (50 + 19 * i + 2)))
    have e2 : wN (wN σ (dyF f i, (sN σ).2)) (upd (sN (wN σ (dyF f i, (sN σ).2))).1 (50 + 19 * i + 2) (fd (f (50 + 19 * i + 2))), (sN (wN σ (dyF f i, (sN σ).2))).2) = wN σ (dyF f (i + 1), (sN σ).2) := by
      rw [← dyF_s]
      rfl
    rw [e2] at h2
    obtain ⟨μ', e', q1, q2⟩ := ih (i + 1) F _ (by omega) (by omega) h2
    refine ⟨μ', ?_, q1, (same_sI (by decide)).trans q2⟩
    rw [← e']
    show m_X7_day_b23 SH (m_X7_day_h23 SH 414 F) 414 (nI i) μ = _
    have c1 : (nI k ≤ nI i) = False := eq_false (nle_nI (by omega) (by omega))
    have xx : ix SH 8 422 (nI (50 + 19 * i + 2)) = true := ix422 (by omega)
    have cc : (nI (50 + 19 * i + 2)).toNatClampNeg = 50 + 19 * i + 2 := nI_clamp (by omega)
    have m2 : gI μ 422 (50 + 19 * i + 2) = f (50 + 19 * i + 2) := by rw [m _ (by omega), dyF_n (by omega)]
    have hof : m_X7_of SH 414 (nI i) 2 μ = some (f (50 + 19 * i + 2), μ) := by
      rw [← m2, m _ (by omega)]
      exact y_of (w := 2) h.1 (by omega)
    simp only [bd_n, gd_n, ca2_n, ca_n, nbtF, pbfT, Bool.not_true, Bool.not_false, if_true, if_false, m_X7_day_b23, iz7, h.1.1.pg, ixL202, c202, m 202 (by decide), dyF_n (f := f) (n := i) (k := 202) (by omega), hk, c1, show (50 + 19 * nI i + 2 : Int32) = nI (50 + 19 * i + 2) from of_ix i 2, xx, cc, m2, hof, m_X7_day_b66, nI_1]
    unfold fd
    by_cases h9 : 9 ≤ f (50 + 19 * i + 2)
    · rw [if_pos h9, if_pos h9]
    · rw [if_neg h9, if_neg h9]
theorem GP.day {P : Pl} {c : Nat} {f : Nat → Int32} {v : Int32} (h : GP P c f) : GP P c (dyF (upd f 204 v) (szF f)) := by
  have hz := h.sz.2
  have q : ∀ k, ¬ (52 ≤ k ∧ (k - 52) % 19 = 0 ∧ (k - 52) / 19 < szF f) → k ≠ 204 → dyF (upd f 204 v) (szF f) k = f k := fun k h1 h2 => by rw [dyF_n h1, upd_n h2]
  refine GP.cg id h (q _ (by omega) (by omega)) (q _ (by omega) (by omega)) (fun k h1 h2 => q _ (by omega) (by omega)) (fun i hi => hi) (fun i j _ _ e => e) (fun i hi => ⟨q _ (by omega) (by omega), fun k hk => q _ (by omega) (by omega)⟩) (fun i hi => ?_) (by rw [q _ (by omega) (by omega)]; exact h.2.2.1) (fun p hp => by rw [q _ (by omega) (by omega)]; exact h.2.2.2.1 p hp) (fun p hp => by rw [q _ (by omega) (by omega)]; exact h.2.2.2.2.1 p hp)
  obtain ⟨_, h1, d, hd, h2⟩ := h.2.2.2.2.2.1 i hi
  refine ⟨by rw [q _ (by omega) (by omega)]; exact h1, min 9 (d + 1), by omega, ?_⟩
  unfold dyF
  rw [if_pos (by omega), upd_n (by omega), h2, fd_nI d hd]
theorem op_day : OpI (m_X6_day SH 1) (m_X7_day SH 414) := by
  intro μ σ c iX iM g hc
  have hsz := g.gp.sz
  have g1 := g.toP
  have hdd : ∀ i, i < szF (sN σ).1 → ∃ d, d ≤ 9 ∧ (sN σ).1 (50 + 19 * i + 2) = nI d := fun i hi => (g.gp.2.2.2.2.2.1 i hi).2.2
  have g2 : Good (wN (wA σ (psh (sA σ) (sN σ))) (dyF (upd (sN σ).1 204 ((sN σ).1 204 + 1)) (szF (sN σ).1), (sN σ).2)) c := g1.toN g.gp.day
  refine fin_rw (σ := σ) (r := (sN σ).1 204 + 1) iM (g2.more (by omega)) ?_ ?_
  · obtain ⟨μ1, e1, i1, s1⟩ := x_remember iX g
    have sr : SR μ1 11 (sN σ).1 := i1.sr
    obtain ⟨μ2, e2, q1, q2, q3⟩ := x_fade (a := 11) hsz.1 hsz.2 rfl g.gp.lk4 hdd (szF (sN σ).1) 0 FU μ1 (by omega) (by rw [FU_eq]; omega) (by rw [dyF_0]; exact sr)
    have w : SR (sI μ2 11 2 ((sN σ).1 204 + 1)) 11 (upd (dyF (sN σ).1 (szF (sN σ).1)) 204 ((sN σ).1 204 + 1)) := SR.w q1 (by rw [szF_dy hsz.2]; exact hsz.2) (fun q hq => by rw [lkF_dy hq]; exact g.gp.lk4 q hq) (Or.inr (Or.inr (Or.inr (Or.inr (Or.inr ⟨rfl, rfl, rfl⟩)))))
    rw [← dyF_u hsz.2] at w
    have d2 : gI μ2 11 2 = (sN σ).1 204 := q1.2.2.1.trans (dyF_n (by omega))
    have now2 : gR μ2 1 4 = 11 := by rw [q3.R (b := 1) (by decide)]; exact i1.1.now
    refine ⟨sI μ2 11 2 ((sN σ).1 204 + 1), ?_, i1.toN g1 ((q3.mono (fun b hb => by omega)).trans (same_sI (by decide))) w (q2.trans i1.2.2.2.2.1.2), ((s1.mono (fun b hb => by omega)).trans (q3.mono (fun b hb => by omega))).trans (same_sI (by decide))⟩
    have e2' : m_X4_fadeByOne SH 11 μ1 = some μ2 := e2
    have d3 : gI (sI μ2 11 2 ((sN σ).1 204 + 1)) 11 2 = (sN σ).1 204 + 1 := by rw [gI_sI, if_pos rfl, if_pos rfl]
    simp only [bd_n, gd_n, ca2_n, ca_n, nbtF, pbfT, Bool.not_true, Bool.not_false, if_true, if_false, m_X6_day, iz6, iz411, iz137, iX.1.now, iX.1.past, e1, i1.1.now, e2', now2, d2, gR_sI, d3]
  · intro μ iM
    have iM' := iM.thr 0
    obtain ⟨μ1, e1, i1, s1⟩ := y_note iM' g
    have i2 := i1.wr (k := 204) (v := (sN σ).1 204 + 1)
    have m204 : gI μ1 422 204 = (sN σ).1 204 := i1.1.2 204 (by decide)
    obtain ⟨μ2, e2, q1, q2⟩ := y_fade (σ := wN (wA σ (psh (sA σ) (sN σ))) (upd (sN σ).1 204 ((sN σ).1 204 + 1), (sN σ).2)) (f := upd (sN σ).1 204 ((sN σ).1 204 + 1)) (k := szF (sN σ).1) (by rw [upd_n (by decide)]; exact hsz.1) hsz.2 rfl (szF (sN σ).1) 0 FU (sI μ1 422 204 ((sN σ).1 204 + 1)) (by omega) (by rw [FU_eq]; omega) (by rw [dyF_0]; exact i2)
    refine ⟨μ2, ?_, q1, ((thr_same.trans s1).trans (same_sI (by decide))).trans q2⟩
    rw [upd_s, show nI 0 = (0 : Int32) from rfl] at e2
    simp only [bd_n, gd_n, ca2_n, ca_n, nbtF, pbfT, Bool.not_true, Bool.not_false, if_true, if_false, m_X7_day, iz7, e1, i1.1.1.pg, ixL204, c204, m204, e2]

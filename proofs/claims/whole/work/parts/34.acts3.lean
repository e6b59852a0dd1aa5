/-! leave -/
def lvP (f : Nat → Int32) (p b : Nat) : Nat → Int32 := upd (upd (upd (upd f p (-9)) (5 + p) (nI b)) (10 + p) (f 203)) 15 (if f 15 = nI p then -9 else f 15)
theorem GP.leave {P : Pl} {c p b : Nat} {f : Nat → Int32} (h : GP P c f) (hp : p < 5) (hb : b < 2) : GP P c (lvP f p b) := by
  unfold lvP
  refine h.hd (fun k h1 h2 => by rw [upd_n (by omega), upd_n (by omega), upd_n (by omega), upd_n (by omega)]) ?_ (fun q hq => ?_) (fun q hq => ?_)
  · rw [upd_s]
    by_cases e : f 15 = nI p
    · rw [if_pos e]; exact Or.inl rfl
    · rw [if_neg e]; exact h.2.2.1
  · rw [upd_n (by omega), upd_n (by omega), upd_n (by omega)]
    by_cases e : q = p
    · subst e; rw [upd_s]; exact Or.inl rfl
    · rw [upd_n e]; exact h.2.2.2.1 q hq
  · rw [upd_n (by omega), upd_n (by omega)]
    by_cases e : q = p
    · subst e; rw [upd_s]; exact Or.inr ⟨b, hb, rfl⟩
    · rw [upd_n (by omega), upd_n (by omega)]; exact h.2.2.2.2.1 q hq
theorem op_leave (v : Int32) : OpI (m_X6_leave SH 1 v) (m_X7_leave SH 414 v) := by
  intro μ σ c iX iM g hc
  have hv := g.pv
  have iM' := iM.thr 0
  have hP5 := hv.2.2.1
  have hB2 := hv.2.1
  cases hp : isIn v (pP (sP σ)) with
  | false =>
    refine fin_ro (r := -1) iX iM g ?_ ?_
    · simp only [bd_n, gd_n, ca2_n, ca_n, nbtF, pbfT, Bool.not_true, Bool.not_false, if_true, if_false, m_X6_leave, iz6, iX.pr.1.iz, x_hasPerson iX.pr hv, hp]
    · simp only [bd_n, gd_n, ca2_n, ca_n, nbtF, pbfT, Bool.not_true, Bool.not_false, if_true, if_false, m_X7_leave, iz7, y_noOne iM'.2.2.2.1 hv, hp]
  | true =>
  obtain ⟨p, hpp, ep⟩ := isIn_t hp (by omega)
  subst ep
  have hpl := (iX.sr.2.2.2.2.2.1 p (by omega)).1
  have cp : (nI p).toNatClampNeg = p := nI_clamp (by omega)
  have cp5 : (nI (5 + p)).toNatClampNeg = 5 + p := nI_clamp (by omega)
  have cp10 : (nI (10 + p)).toNatClampNeg = 10 + p := nI_clamp (by omega)
  have xp : ix SH 8 422 (nI p) = true := ix422 (by omega)
  have xp5 : ix SH 8 422 (nI (5 + p)) = true := ix422 (by omega)
  have xp10 : ix SH 8 422 (nI (10 + p)) = true := ix422 (by omega)
  have hip : isIn (nI p) 5 = true := isIn_nI (by omega) (by decide)
  rcases g.gp.2.2.2.1 p (by omega) with h9 | ⟨_, b, hbb, h9⟩
  · refine fin_ro (r := -3) iX iM g ?_ ?_
    · simp only [bd_n, gd_n, ca2_n, ca_n, nbtF, pbfT, Bool.not_true, Bool.not_false, if_true, if_false, m_X6_leave, iz6, iz411, iX.1.now, iX.pr.1.iz, x_hasPerson iX.pr hv, hp, x_placeOf iX.sr.1 (show p < 5 by omega), hpl, h9]
    · simp only [bd_n, gd_n, ca2_n, ca_n, nbtF, pbfT, Bool.not_true, Bool.not_false, if_true, if_false, m_X7_leave, iz7, y_noOne iM'.2.2.2.1 hv, hp, iM'.1.1.pg, xp, cp, iM'.1.2 _ (show p < 205 by omega), h9]
  · have hn9 : (nI b = -9) = False := eq_false (n9 (by omega))
    have g1 := g.toP
    have g2 : Good (wN (wA σ (psh (sA σ) (sN σ))) (lvP (sN σ).1 p b, (sN σ).2)) c := g1.toN (g.gp.leave (by omega) (by omega))
    refine fin_rw (σ := σ) (σ' := wN (wA σ (psh (sA σ) (sN σ))) (lvP (sN σ).1 p b, (sN σ).2)) (r := nI (popc (inS (lvP (sN σ).1 p b) b))) iM (g2.more (by omega)) ?_ ?_
    · obtain ⟨μ1, e1, i1, s1⟩ := x_remember iX g
      have hz := g.gp.sz.2
      have hlk := g.gp.lk4
      have sr : SR μ1 11 (sN σ).1 := i1.sr
      have hpl1 := (sr.2.2.2.2.2.1 p (by omega)).1
      have ra : SR (sI (sI (sI μ1 15 p (nI b)) 16 p ((sN σ).1 203)) 14 p (-9)) 11 (upd (upd (upd (sN σ).1 (5 + p) (nI b)) (10 + p) ((sN σ).1 203)) p (-9)) := by
        have w1 : SR (sI μ1 15 p (nI b)) 11 (upd (sN σ).1 (5 + p) (nI b)) := SR.w sr hz hlk (Or.inr (Or.inl ⟨rfl, rfl, by omega⟩))
        have w2 : SR (sI (sI μ1 15 p (nI b)) 16 p ((sN σ).1 203)) 11 (upd (upd (sN σ).1 (5 + p) (nI b)) (10 + p) ((sN σ).1 203)) := SR.w w1 (by rw [szF_u (by omega)]; exact hz) (fun q hq => by rw [lkF_u (by omega)]; exact hlk q hq) (Or.inr (Or.inr (Or.inl ⟨rfl, rfl, by omega⟩)))
        exact SR.w w2 (by rw [szF_u (by omega), szF_u (by omega)]; exact hz) (fun q hq => by rw [lkF_u (by omega), lkF_u (by omega)]; exact hlk q hq) (Or.inl ⟨rfl, rfl, by omega⟩)
      have efp : upd (upd (upd (sN σ).1 (5 + p) (nI b)) (10 + p) ((sN σ).1 203)) p (-9) = upd (upd (upd (sN σ).1 p (-9)) (5 + p) (nI b)) (10 + p) ((sN σ).1 203) := by
        rw [upd_c (a := 10 + p) (b := p) (by omega), upd_c (a := 5 + p) (b := p) (by omega)]
      rw [efp] at ra
      obtain ⟨ν, hν⟩ : ∃ m, m = sI (sI (sI μ1 15 p (nI b)) 16 p ((sN σ).1 203)) 14 p (-9) := ⟨_, rfl⟩
      have hh : gI ν 11 3 = (sN σ).1 15 := by
        rw [hν]
        exact ra.2.2.2.1.trans (by rw [upd_n (by omega), upd_n (by omega), upd_n (by omega)])
      have sν : same (fun b => b < 11 ∨ 37 ≤ b) μ1 ν := by rw [hν]; exact ((same_sI (by decide)).trans (same_sI (by decide))).trans (same_sI (by decide))
      have jν : gJ ν 11 0 = (sN σ).2 := by rw [hν]; exact i1.2.2.2.2.1.2
      have rν : ∀ x k, gR ν x k = gR μ1 x k := fun x k => by rw [hν]; rfl
      rw [← hν] at ra
      by_cases e15 : (sN σ).1 15 = nI p
      · have rb : SR (sI ν 11 3 (-9)) 11 (lvP (sN σ).1 p b) := by
          unfold lvP
          rw [if_pos e15]
          exact SR.w ra (by rw [szF_u (by omega), szF_u (by omega), szF_u (by omega)]; exact hz) (fun q hq => by rw [lkF_u (by omega), lkF_u (by omega), lkF_u (by omega)]; exact hlk q hq) (Or.inr (Or.inr (Or.inr (Or.inl ⟨rfl, rfl, rfl⟩))))
        have es : m_X4_stepOut SH 11 (nI p) μ1 = some (sI ν 11 3 (-9)) := by
          rw [e15] at hh
          simp only [bd_n, gd_n, ca2_n, ca_n, nbtF, pbfT, Bool.not_true, Bool.not_false, if_true, if_false, m_X4_stepOut, x_isOfPeople, hip, iz411, show gR μ1 11 7 = 14 from sr.1.2.2.2.1, show gR μ1 11 8 = 15 from sr.1.2.2.2.2.1, show gR μ1 11 9 = 16 from sr.1.2.2.2.2.2.1, gR_sI, show ix SH 8 14 (nI p) = true from sr.1.ix3 (show p < 5 by omega), show ix SH 8 15 (nI p) = true from sr.1.ix4 (show p < 5 by omega), show ix SH 8 16 (nI p) = true from sr.1.ix5 (show p < 5 by omega), cp, show gI μ1 14 p = _ from hpl1, h9, show gI (sI μ1 15 p (nI b)) 11 1 = _ from sr.2.1]
          rw [← hν, hh, if_pos rfl]
        refine ⟨sI ν 11 3 (-9), ?_, i1.toN g1 ((sν.mono (fun b hb => by omega)).trans (same_sI (by decide))) rb jν, ((s1.mono (fun b hb => by omega)).trans (sν.mono (fun b hb => by omega))).trans (same_sI (by decide))⟩
        simp only [bd_n, gd_n, ca2_n, ca_n, nbtF, pbfT, Bool.not_true, Bool.not_false, if_true, if_false, m_X6_leave, iz6, iz411, iz137, iX.1.now, iX.1.past, iX.pr.1.iz, x_hasPerson iX.pr hv, hp, x_placeOf iX.sr.1 (show p < 5 by omega), hpl, h9, hn9, e1, i1.1.now, es, gR_sI, rν, xs_in rb, xs_pop]
      · have rb : SR ν 11 (lvP (sN σ).1 p b) := by
          unfold lvP
          rw [if_neg e15, upd_i (by rw [upd_n (by omega), upd_n (by omega), upd_n (by omega)])]
          exact ra
        have es : m_X4_stepOut SH 11 (nI p) μ1 = some ν := by
          simp only [bd_n, gd_n, ca2_n, ca_n, nbtF, pbfT, Bool.not_true, Bool.not_false, if_true, if_false, m_X4_stepOut, x_isOfPeople, hip, iz411, show gR μ1 11 7 = 14 from sr.1.2.2.2.1, show gR μ1 11 8 = 15 from sr.1.2.2.2.2.1, show gR μ1 11 9 = 16 from sr.1.2.2.2.2.2.1, gR_sI, show ix SH 8 14 (nI p) = true from sr.1.ix3 (show p < 5 by omega), show ix SH 8 15 (nI p) = true from sr.1.ix4 (show p < 5 by omega), show ix SH 8 16 (nI p) = true from sr.1.ix5 (show p < 5 by omega), cp, show gI μ1 14 p = _ from hpl1, h9, show gI (sI μ1 15 p (nI b)) 11 1 = _ from sr.2.1]
          rw [← hν, hh, if_neg e15]
        refine ⟨ν, ?_, i1.toN g1 (sν.mono (fun b hb => by omega)) rb jν, (s1.mono (fun b hb => by omega)).trans (sν.mono (fun b hb => by omega))⟩
        simp only [bd_n, gd_n, ca2_n, ca_n, nbtF, pbfT, Bool.not_true, Bool.not_false, if_true, if_false, m_X6_leave, iz6, iz411, iz137, iX.1.now, iX.1.past, iX.pr.1.iz, x_hasPerson iX.pr hv, hp, x_placeOf iX.sr.1 (show p < 5 by omega), hpl, h9, hn9, e1, i1.1.now, es, gR_sI, rν, xs_in rb, xs_pop]
    · intro μ iM
      have iM' := iM.thr 0
      obtain ⟨μ1, e1, i1, s1⟩ := y_note iM' g
      have i2 : InvM (sI (sI (sI (sI μ1 422 p (-9)) 422 (5 + p) (nI b)) 422 (10 + p) ((sN σ).1 203)) 422 15 (if (sN σ).1 15 = nI p then -9 else (sN σ).1 15)) (wN (wA σ (psh (sA σ) (sN σ))) (lvP (sN σ).1 p b, (sN σ).2)) := (((i1.wr (k := p) (v := -9)).wr (k := 5 + p) (v := nI b)).wr (k := 10 + p) (v := (sN σ).1 203)).wr (k := 15) (v := if (sN σ).1 15 = nI p then -9 else (sN σ).1 15)
      have m := i1.1.2
      have m203 : gI (sI (sI μ1 422 p (-9)) 422 (5 + p) (nI b)) 422 203 = (sN σ).1 203 := by
        rw [gI_sI, if_pos rfl, if_neg (by omega), gI_sI, if_pos rfl, if_neg (by omega)]; exact m _ (by omega)
      have m15 : gI (sI (sI (sI μ1 422 p (-9)) 422 (5 + p) (nI b)) 422 (10 + p) ((sN σ).1 203)) 422 15 = (sN σ).1 15 := by
        rw [gI_sI, if_pos rfl, if_neg (by omega), gI_sI, if_pos rfl, if_neg (by omega), gI_sI, if_pos rfl, if_neg (by omega)]; exact m _ (by omega)
      refine ⟨_, ?_, i2, (((((thr_same.trans s1).trans (same_sI (by decide))).trans (same_sI (by decide))).trans (same_sI (by decide))).trans (same_sI (by decide)))⟩
      have fin : ∀ z, z = (if (sN σ).1 15 = nI p then -9 else (sN σ).1 15) → m_X7_leave_b98 SH 414 (nI b) z 15 422 (sI (sI (sI μ1 422 p (-9)) 422 (5 + p) (nI b)) 422 (10 + p) ((sN σ).1 203)) = some (nI (popc (inS (lvP (sN σ).1 p b) b)), sI (sI (sI (sI μ1 422 p (-9)) 422 (5 + p) (nI b)) 422 (10 + p) ((sN σ).1 203)) 422 15 (if (sN σ).1 15 = nI p then -9 else (sN σ).1 15)) := by
        intro z hz
        rw [hz]
        have q := ys_in i2.1 i2.2.2.2.1 hv g2.gp (show b < 2 by omega)
        simp only [bd_n, gd_n, ca2_n, ca_n, nbtF, pbfT, Bool.not_true, Bool.not_false, if_true, if_false, m_X7_leave_b98, ixL15, c15, iz7, q]
        exact ys_pop ▸ rfl
      simp only [bd_n, gd_n, ca2_n, ca_n, nbtF, pbfT, Bool.not_true, Bool.not_false, if_true, if_false, m_X7_leave, iz7, y_noOne iM'.2.2.2.1 hv, hp, iM'.1.1.pg, xp, cp, iM'.1.2 _ (show p < 205 by omega), h9, hn9, e1, i1.1.1.pg, gR_sI, add5, add10, xp5, xp10, cp5, cp10, ixL203, c203, m203, ixL15, c15, m15]
      by_cases e15 : (sN σ).1 15 = nI p
      · rw [if_pos e15]; exact fin _ (by rw [if_pos e15])
      · rw [if_neg e15]; exact fin _ (by rw [if_neg e15])
/-! hat -/
theorem GP.hat {P : Pl} {c p : Nat} {f : Nat → Int32} (h : GP P c f) (hp : p < 5) : GP P c (upd f 15 (nI p)) := by
  refine h.hd (fun k h1 h2 => upd_n (by omega)) ?_ (fun q hq => ?_) (fun q hq => ?_)
  · rw [upd_s]; exact Or.inr ⟨p, hp, rfl⟩
  · rw [upd_n (by omega)]; exact h.2.2.2.1 q hq
  · rw [upd_n (by omega)]; exact h.2.2.2.2.1 q hq
theorem op_hat (v : Int32) : OpI (m_X6_hat SH 1 v) (m_X7_hat SH 414 v) := by
  intro μ σ c iX iM g hc
  have hv := g.pv
  have iM' := iM.thr 0
  have hP5 := hv.2.2.1
  have hB2 := hv.2.1
  cases hp : isIn v (pP (sP σ)) with
  | false =>
    refine fin_ro (r := -1) iX iM g ?_ ?_
    · simp only [bd_n, gd_n, ca2_n, ca_n, nbtF, pbfT, Bool.not_true, Bool.not_false, if_true, if_false, m_X6_hat, iz6, iX.pr.1.iz, x_hasPerson iX.pr hv, hp]
    · simp only [bd_n, gd_n, ca2_n, ca_n, nbtF, pbfT, Bool.not_true, Bool.not_false, if_true, if_false, m_X7_hat, iz7, y_noOne iM'.2.2.2.1 hv, hp]
  | true =>
  obtain ⟨p, hpp, ep⟩ := isIn_t hp (by omega)
  subst ep
  have hpl := (iX.sr.2.2.2.2.2.1 p (by omega)).1
  have cp : (nI p).toNatClampNeg = p := nI_clamp (by omega)
  have xp : ix SH 8 422 (nI p) = true := ix422 (by omega)
  by_cases h9 : (sN σ).1 p = -9
  · refine fin_ro (r := -3) iX iM g ?_ ?_
    · simp only [bd_n, gd_n, ca2_n, ca_n, nbtF, pbfT, Bool.not_true, Bool.not_false, if_true, if_false, m_X6_hat, iz6, iz411, iX.1.now, iX.pr.1.iz, x_hasPerson iX.pr hv, hp, x_placeOf iX.sr.1 (show p < 5 by omega), hpl, h9]
    · simp only [bd_n, gd_n, ca2_n, ca_n, nbtF, pbfT, Bool.not_true, Bool.not_false, if_true, if_false, m_X7_hat, iz7, y_noOne iM'.2.2.2.1 hv, hp, iM'.1.1.pg, xp, cp, iM'.1.2 _ (show p < 205 by omega), h9, ixL15, c15]
  by_cases hh : (sN σ).1 15 = nI p
  · refine fin_ro (r := -3) iX iM g ?_ ?_
    · simp only [bd_n, gd_n, ca2_n, ca_n, nbtF, pbfT, Bool.not_true, Bool.not_false, if_true, if_false, m_X6_hat, iz6, iz411, iX.1.now, iX.pr.1.iz, x_hasPerson iX.pr hv, hp, x_placeOf iX.sr.1 (show p < 5 by omega), hpl, h9, iX.sr.2.2.2.1, hh]
    · simp only [bd_n, gd_n, ca2_n, ca_n, nbtF, pbfT, Bool.not_true, Bool.not_false, if_true, if_false, m_X7_hat, iz7, y_noOne iM'.2.2.2.1 hv, hp, iM'.1.1.pg, xp, cp, iM'.1.2 _ (show p < 205 by omega), h9, ixL15, c15, iM'.1.2 _ (show 15 < 205 by omega), hh]
  have g1 := g.toP
  have g2 : Good (wN (wA σ (psh (sA σ) (sN σ))) (upd (sN σ).1 15 (nI p), (sN σ).2)) c := g1.toN (g.gp.hat (by omega))
  have X1 : ∃ μ', m_X6_hat_b62 SH 1 (nI p) ((sN σ).1 15) μ = some ((sN σ).1 15, μ') ∧ InvX μ' (wN (wA σ (psh (sA σ) (sN σ))) (upd (sN σ).1 15 (nI p), (sN σ).2)) ∧ same (fun b => 414 ≤ b) μ μ' := by
    obtain ⟨μ1, e1, i1, s1⟩ := x_remember iX g
    have sr : SR μ1 11 (sN σ).1 := i1.sr
    refine ⟨sI μ1 11 3 (nI p), ?_, i1.toN g1 (same_sI (by decide)) (SR.w sr g.gp.sz.2 g.gp.lk4 (Or.inr (Or.inr (Or.inr (Or.inl ⟨rfl, rfl, rfl⟩))))) i1.2.2.2.2.1.2, (s1.mono (fun b hb => by omega)).trans (same_sI (by decide))⟩
    simp only [bd_n, gd_n, ca2_n, ca_n, nbtF, pbfT, Bool.not_true, Bool.not_false, if_true, if_false, m_X6_hat_b62, iz6, iz411, iz137, iX.1.now, iX.1.past, e1, i1.1.now]
  have M1 : ∀ μ, InvM μ σ → ∃ μ', m_X7_hat_b63 SH 414 (nI p) ((sN σ).1 15) (sI μ 414 0 0) = some ((sN σ).1 15, μ') ∧ InvM μ' (wN (wA σ (psh (sA σ) (sN σ))) (upd (sN σ).1 15 (nI p), (sN σ).2)) ∧ same (fun b => b < 414) μ μ' := by
    intro μ iM
    have iM' := iM.thr 0
    obtain ⟨μ1, e1, i1, s1⟩ := y_note iM' g
    refine ⟨sI μ1 422 15 (nI p), ?_, i1.wr, (thr_same.trans s1).trans (same_sI (by decide))⟩
    simp only [bd_n, gd_n, ca2_n, ca_n, nbtF, pbfT, Bool.not_true, Bool.not_false, if_true, if_false, m_X7_hat_b63, iz7, e1, i1.1.1.pg, ixL15, c15]
  rcases g.gp.2.2.1 with h15 | ⟨q, hq, h15⟩
  · refine fin_rw (σ := σ) iM (g2.more (by omega)) (r := (sN σ).1 15) ?_ ?_
    · obtain ⟨μ', e', z⟩ := X1
      refine ⟨μ', ?_, z⟩
      rw [← e']
      simp only [bd_n, gd_n, ca2_n, ca_n, nbtF, pbfT, Bool.not_true, Bool.not_false, if_true, if_false, m_X6_hat, iz6, iz411, iX.1.now, iX.pr.1.iz, x_hasPerson iX.pr hv, hp, x_placeOf iX.sr.1 (show p < 5 by omega), hpl, h9, iX.sr.2.2.2.1, hh]
      rw [if_pos h15]
    · intro μ iM
      have iM' := iM.thr 0
      obtain ⟨μ', e', z⟩ := M1 μ iM
      refine ⟨μ', ?_, z⟩
      rw [← e']
      simp only [bd_n, gd_n, ca2_n, ca_n, nbtF, pbfT, Bool.not_true, Bool.not_false, if_true, if_false, m_X7_hat, iz7, y_noOne iM'.2.2.2.1 hv, hp, iM'.1.1.pg, xp, cp, iM'.1.2 _ (show p < 205 by omega), h9, ixL15, c15, iM'.1.2 _ (show 15 < 205 by omega), hh]
      rw [if_pos h15]
  · have xq : ix SH 8 422 (nI q) = true := ix422 (by omega)
    have cq : (nI q).toNatClampNeg = q := nI_clamp (by omega)
    have hq9 : ¬ (sN σ).1 15 = -9 := by rw [h15]; exact n9 (by omega)
    have hqp := (iX.sr.2.2.2.2.2.1 q (by omega)).1
    by_cases ht : (sN σ).1 q = (sN σ).1 p
    · refine fin_rw (σ := σ) iM (g2.more (by omega)) (r := (sN σ).1 15) ?_ ?_
      · obtain ⟨μ', e', z⟩ := X1
        refine ⟨μ', ?_, z⟩
        rw [← e']
        simp only [bd_n, gd_n, ca2_n, ca_n, nbtF, pbfT, Bool.not_true, Bool.not_false, if_true, if_false, m_X6_hat, iz6, iz411, iX.1.now, iX.pr.1.iz, x_hasPerson iX.pr hv, hp, x_placeOf iX.sr.1 (show p < 5 by omega), hpl, h9, iX.sr.2.2.2.1, hh]
        rw [if_neg hq9, h15, x_placeOf iX.sr.1 hq, ca2_s, hqp, if_pos ht]
      · intro μ iM
        have iM' := iM.thr 0
        obtain ⟨μ', e', z⟩ := M1 μ iM
        refine ⟨μ', ?_, z⟩
        rw [← e']
        simp only [bd_n, gd_n, ca2_n, ca_n, nbtF, pbfT, Bool.not_true, Bool.not_false, if_true, if_false, m_X7_hat, iz7, y_noOne iM'.2.2.2.1 hv, hp, iM'.1.1.pg, xp, cp, iM'.1.2 _ (show p < 205 by omega), h9, ixL15, c15, iM'.1.2 _ (show 15 < 205 by omega), hh]
        rw [if_neg hq9, h15, gd_of xq, cq, iM'.1.2 _ (show q < 205 by omega), if_pos ht]
    · refine fin_ro (r := -3) iX iM g ?_ ?_
      · simp only [bd_n, gd_n, ca2_n, ca_n, nbtF, pbfT, Bool.not_true, Bool.not_false, if_true, if_false, m_X6_hat, iz6, iz411, iX.1.now, iX.pr.1.iz, x_hasPerson iX.pr hv, hp, x_placeOf iX.sr.1 (show p < 5 by omega), hpl, h9, iX.sr.2.2.2.1, hh]
        rw [if_neg hq9, h15, x_placeOf iX.sr.1 hq, ca2_s, hqp, if_neg ht]
      · simp only [bd_n, gd_n, ca2_n, ca_n, nbtF, pbfT, Bool.not_true, Bool.not_false, if_true, if_false, m_X7_hat, iz7, y_noOne iM'.2.2.2.1 hv, hp, iM'.1.1.pg, xp, cp, iM'.1.2 _ (show p < 205 by omega), h9, ixL15, c15, iM'.1.2 _ (show 15 < 205 by omega), hh]
        rw [if_neg hq9, h15, gd_of xq, cq, iM'.1.2 _ (show q < 205 by omega), if_neg ht]

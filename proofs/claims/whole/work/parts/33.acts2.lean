/-! a program's steps, as equations -/
theorem bd_n {α β : Type} {a : α} {f : α → β} : bd a f = f a := congrArg (fun x => x) (show bd a f = f a from rfl)
theorem gd_n {α : Type} {o : Option α} : gd true o = o := congrArg (fun x => x) (show gd true o = o from rfl)
theorem ca2_n {α β : Type} {a : α} {m : Mu} {f : α → Mu → Option β} : ca2 (some (a, m)) f = f a m := congrArg (fun x => x) (show ca2 (some (a, m)) f = f a m from rfl)
theorem ca_n {α β : Type} {a : α} {f : α → Option β} : ca (some a) f = f a := congrArg (fun x => x) (show ca (some a) f = f a from rfl)
theorem lt44 : (nI 4 < (4 : Int32)) = False := eq_false (by decide)
theorem eq44 : (nI 4 = (4 : Int32)) = True := eq_true rfl
theorem nbtF : (bI true = 0) = False := eq_false nbt
theorem pbfT : (bI false = 0) = True := eq_true pbf
theorem fld {μ : Mu} {x j y i q k : Nat} {v : Int32} {f : Nat → Int32} (A : gI μ y i = f q) (h : (y = x ∧ i = j) ↔ q = k) : gI (sI μ x j v) y i = upd f k v q := by
  by_cases e : q = k
  · obtain ⟨h1, h2⟩ := h.mpr e
    rw [e, upd_s, gI_sI, if_pos h1, if_pos h2]
  · rw [upd_n e, ← A, gI_sI]
    by_cases h1 : y = x
    · rw [if_pos h1, if_neg (fun h2 => e (h.mp ⟨h1, h2⟩)), h1]
    · rw [if_neg h1]
theorem szF_u {f : Nat → Int32} {k : Nat} {v : Int32} (h : k ≠ 202) : szF (upd f k v) = szF f := by unfold szF; rw [upd_n (Ne.symm h)]
theorem lkF_u {f : Nat → Int32} {k q : Nat} {v : Int32} (h : k ≠ 16 + 17 * q) : lkF (upd f k v) q = lkF f q := by unfold lkF; rw [upd_n (Ne.symm h)]
/-- a write into the head of a scene -/
theorem SR.w {μ : Mu} {a x j k : Nat} {v : Int32} {f : Nat → Int32} (h : SR μ a f) (hz : szF f ≤ 8) (hlk : ∀ q, q < 2 → lkF f q ≤ 4) (hx : (x = a + 3 ∧ j = k ∧ k < 5) ∨ (x = a + 4 ∧ 5 + j = k ∧ j < 5) ∨ (x = a + 5 ∧ 10 + j = k ∧ j < 5) ∨ (x = a ∧ j = 3 ∧ k = 15) ∨ (x = a ∧ j = 1 ∧ k = 203) ∨ (x = a ∧ j = 2 ∧ k = 204)) : SR (sI μ x j v) a (upd f k v) := by
  have hs : same (fun b => a + 6 ≤ b ∧ b < a + 26) μ (sI μ x j v) := same_sI (by omega)
  refine h.head hz hlk (fun _ _ => rfl) hs (fld h.2.1 (by omega)) (fld h.2.2.1 (by omega)) (fld h.2.2.2.1 (by omega)) (fld h.2.2.2.2.1 (by omega)) (fun p hp => ⟨fld (h.2.2.2.2.2.1 p hp).1 (by omega), fld (h.2.2.2.2.2.1 p hp).2.1 (by omega), fld (h.2.2.2.2.2.1 p hp).2.2 (by omega)⟩) (fun q h1 h2 => upd_n (by omega))
theorem upd_c {f : Nat → Int32} {a b : Nat} {x y : Int32} (h : a ≠ b) : upd (upd f a x) b y = upd (upd f b y) a x := by
  funext j
  by_cases h1 : j = a
  · subst h1; rw [upd_n h, upd_s, upd_s]
  · by_cases h2 : j = b
    · subst h2; rw [upd_s, upd_n h1, upd_s]
    · rw [upd_n h2, upd_n h1, upd_n h1, upd_n h2]
theorem upd_i {f : Nat → Int32} {a : Nat} {x : Int32} (h : f a = x) : upd f a x = f := by
  funext j
  by_cases h1 : j = a
  · subst h1; rw [upd_s, h]
  · rw [upd_n h1]
theorem GP.lk4 {P : Pl} {c : Nat} {f : Nat → Int32} (h : GP P c f) : ∀ q, q < 2 → lkF f q ≤ 4 := fun q hq => by have := (h.lk hq).2; omega
theorem xs_in {μ : Mu} {a b : Nat} {f : Nat → Int32} (h : SR μ a f) : m_X4_whoIsIn SH a (nI b) μ = some (nI (inS f b), μ) := by rw [x_whoIsIn h, inG_S]
theorem xs_pop {μ : Mu} {f : Nat → Int32} {b : Nat} : m_J6_bitCount_0f7a4 SH (nI (inS f b)) μ = some (nI (popc (inS f b)), μ) := x_bitCount (by have := inS_lt f b; omega)
theorem ys_in {μ : Mu} {P : Pl} {c b : Nat} {f : Nat → Int32} (h : MR μ f) (hP : MPl μ P) (hv : PV P) (g : GP P c f) (hb : b < 2) : m_X7_inOf SH 414 (nI b) μ = some (nI (inS f b), μ) := by rw [y_inOf h hP hv, ← g.in hv hb, inG_S]
theorem ys_pop {μ : Mu} {f : Nat → Int32} {b : Nat} : m_X7_many SH (nI (inS f b)) μ = some (nI (popc (inS f b)), μ) := y_many (by have := inS_lt f b; omega)
theorem GP.enter {P : Pl} {c p b : Nat} {f : Nat → Int32} (h : GP P c f) (hv : PV P) (hp : p < pP P) (hb : b < pB P) : GP P c (upd f p (nI b)) := by
  have := hv.2.2.1
  refine h.hd (fun k h1 h2 => upd_n (by omega)) ?_ (fun q hq => ?_) (fun q hq => ?_)
  · rw [upd_n (by omega)]; exact h.2.2.1
  · by_cases e : q = p
    · subst e; rw [upd_s]; exact Or.inr ⟨hp, b, hb, rfl⟩
    · rw [upd_n e]; exact h.2.2.2.1 q hq
  · rw [upd_n (by omega)]; exact h.2.2.2.2.1 q hq
theorem iz111 : iz SH 1 37 = true := rfl
theorem ix422 {k : Nat} (h : k < 205) : ix SH 8 422 (nI k) = true := MR.ix h
theorem add5 (p : Nat) : (5 : Int32) + nI p = nI (5 + p) := nI_add 5 p
theorem add10 (p : Nat) : (10 : Int32) + nI p = nI (10 + p) := nI_add 10 p
theorem pop4 {s : Nat} (h : popc s ≤ 4) : (nI (popc s) < 4 ↔ ¬ popc s = 4) ∧ (nI (popc s) = 4 ↔ popc s = 4) := by
  constructor
  · constructor
    · intro q e
      rw [e] at q
      exact absurd q (by decide)
    · intro q
      exact ltL 4 (by omega) (by decide)
  · constructor
    · intro q
      exact (nI_eq (b := 4) (by omega) (by decide)).mp q
    · intro q
      rw [q]; rfl
theorem one_sub {b : Nat} (hb : b < 2) : (1 : Int32) - nI b = nI (1 - b) := by
  rcases (show b = 0 ∨ b = 1 by omega) with rfl | rfl <;> decide
theorem op_enter (v w : Int32) : OpI (m_X6_enter SH 1 v w) (m_X7_enter SH 414 v w) := by
  intro μ σ c iX iM g hc
  have hv := g.pv
  have iM' := iM.thr 0
  have hP5 := hv.2.2.1
  have hB2 := hv.2.1
  cases hp : isIn v (pP (sP σ)) with
  | false =>
    refine fin_ro (r := -1) iX iM g ?_ ?_
    · simp only [bd_n, gd_n, ca2_n, ca_n, nbtF, pbfT, Bool.not_true, Bool.not_false, if_true, if_false, m_X6_enter, iz6, iX.pr.1.iz, x_hasPerson iX.pr hv, hp]
    · simp only [bd_n, gd_n, ca2_n, ca_n, nbtF, pbfT, Bool.not_true, Bool.not_false, if_true, if_false, m_X7_enter, iz7, y_noOne iM'.2.2.2.1 hv, hp]
  | true =>
  cases hb : isIn w (pB (sP σ)) with
  | false =>
    refine fin_ro (r := -1) iX iM g ?_ ?_
    · simp only [bd_n, gd_n, ca2_n, ca_n, nbtF, pbfT, Bool.not_true, Bool.not_false, if_true, if_false, m_X6_enter, iz6, iX.pr.1.iz, x_hasPerson iX.pr hv, hp, x_hasBooth iX.pr hv, hb]
    · simp only [bd_n, gd_n, ca2_n, ca_n, nbtF, pbfT, Bool.not_true, Bool.not_false, if_true, if_false, m_X7_enter, iz7, y_noOne iM'.2.2.2.1 hv, hp, y_noBooth iM'.2.2.2.1 hv, hb]
  | true =>
  obtain ⟨p, hpp, ep⟩ := isIn_t hp (by omega)
  obtain ⟨b, hbb, eb⟩ := isIn_t hb (by omega)
  subst ep eb
  have hl := g.gp.2.2.2.2.1 p (by omega)
  have hsoon := x_soon (W := pW (sP σ)) (p := p) (b := b) iX.sr (by omega) (by omega) hl
  have hpl := (iX.sr.2.2.2.2.2.1 p (by omega)).1
  have cp : (nI p).toNatClampNeg = p := nI_clamp (by omega)
  have cp5 : (nI (5 + p)).toNatClampNeg = 5 + p := nI_clamp (by omega)
  have cp10 : (nI (10 + p)).toNatClampNeg = 10 + p := nI_clamp (by omega)
  have xp : ix SH 8 422 (nI p) = true := ix422 (by omega)
  have xp5 : ix SH 8 422 (nI (5 + p)) = true := ix422 (by omega)
  have xp10 : ix SH 8 422 (nI (10 + p)) = true := ix422 (by omega)
  have hip : isIn (nI p) 5 = true := isIn_nI (by omega) (by decide)
  have M1 : ∀ μ, InvM μ σ → m_X7_enter SH 414 (nI p) (nI b) μ = m_X7_enter_b67 SH 414 (nI p) (nI b) (bI (soon (sN σ).1 (pW (sP σ)) p b)) (sI μ 414 0 0) := by
    intro μ iM
    have iM' := iM.thr 0
    have m := iM'.1.2
    simp only [bd_n, gd_n, ca2_n, ca_n, nbtF, pbfT, Bool.not_true, Bool.not_false, if_true, if_false, m_X7_enter, iz7, y_noOne iM'.2.2.2.1 hv, hp, y_noBooth iM'.2.2.2.1 hv, hb, iM'.1.1.pg, add5, add10, xp5, xp10, cp5, cp10, m _ (show 5 + p < 205 by omega), m _ (show 10 + p < 205 by omega), one_sub (show b < 2 by omega), ixL203, c203, m _ (show 203 < 205 by omega), iM'.2.2.2.1.1]
    unfold soon
    by_cases h1 : (sN σ).1 (5 + p) = nI (1 - b)
    · rw [if_pos h1, decide_eq_true h1]
      by_cases h2 : nI (pW (sP σ)) ≤ (sN σ).1 203 - (sN σ).1 (10 + p)
      · rw [if_pos h2, decide_eq_true h2]; rfl
      · rw [if_neg h2, decide_eq_false h2]; rfl
    · rw [if_neg h1, decide_eq_false h1]; rfl
  by_cases h9 : (sN σ).1 p = -9
  · have p4 : popc (inS (sN σ).1 b) ≤ 4 := s5_pop (p := p) (by omega) (decide_eq_false (by rw [h9]; exact fun e => n9 (by omega) e.symm))
    cases hs : soon (sN σ).1 (pW (sP σ)) p b with
    | true =>
      refine fin_ro (r := -3) iX iM g ?_ ?_
      · simp only [bd_n, gd_n, ca2_n, ca_n, nbtF, pbfT, Bool.not_true, Bool.not_false, if_true, if_false, m_X6_enter, iz6, iz411, iX.1.now, iX.pr.1.iz, x_hasPerson iX.pr hv, hp, x_hasBooth iX.pr hv, hb, x_placeOf iX.sr.1 (show p < 5 by omega), hpl, h9, iX.pr.2.1, hsoon, hs]
      · rw [M1 μ iM, hs]
        simp only [bd_n, gd_n, ca2_n, ca_n, nbtF, pbfT, Bool.not_true, Bool.not_false, if_true, if_false, m_X7_enter_b67, iz7, iM'.1.1.pg, xp, cp, iM'.1.2 _ (show p < 205 by omega), h9]
    | false =>
    by_cases h4 : popc (inS (sN σ).1 b) = 4
    · refine fin_ro (r := -4) iX iM g ?_ ?_
      · simp only [bd_n, gd_n, ca2_n, ca_n, nbtF, pbfT, Bool.not_true, Bool.not_false, if_true, if_false, m_X6_enter, iz6, iz411, iX.1.now, iX.pr.1.iz, x_hasPerson iX.pr hv, hp, x_hasBooth iX.pr hv, hb, x_placeOf iX.sr.1 (show p < 5 by omega), hpl, h9, iX.pr.2.1, hsoon, hs, xs_in iX.sr, xs_pop, h4, lt44]
      · rw [M1 μ iM, hs]
        simp only [bd_n, gd_n, ca2_n, ca_n, nbtF, pbfT, Bool.not_true, Bool.not_false, if_true, if_false, m_X7_enter_b67, iz7, iM'.1.1.pg, xp, cp, iM'.1.2 _ (show p < 205 by omega), h9, ys_in iM'.1 iM'.2.2.2.1 hv g.gp (show b < 2 by omega), ys_pop, h4, eq44]
    · have g1 := g.toP
      have g2 : Good (wN (wA σ (psh (sA σ) (sN σ))) (upd (sN σ).1 p (nI b), (sN σ).2)) c := g1.toN (g.gp.enter hv hpp hbb)
      refine fin_rw (σ := σ) (σ' := wN (wA σ (psh (sA σ) (sN σ))) (upd (sN σ).1 p (nI b), (sN σ).2)) (r := nI (popc (inS (upd (sN σ).1 p (nI b)) b))) iM (g2.more (by omega)) ?_ ?_
      · obtain ⟨μ1, e1, i1, s1⟩ := x_remember iX g
        have sr1 : SR (sI μ1 14 p (nI b)) 11 (upd (sN σ).1 p (nI b)) := i1.sr.w g.gp.sz.2 g.gp.lk4 (Or.inl ⟨rfl, rfl, by omega⟩)
        refine ⟨sI μ1 14 p (nI b), ?_, i1.toN g1 (same_sI (by decide)) sr1 i1.2.2.2.2.1.2, (s1.mono (fun b hb => by omega)).trans (same_sI (by decide))⟩
        have es : m_X4_stepIn SH 11 (nI p) (nI b) μ1 = some (sI μ1 14 p (nI b)) := by
          simp only [bd_n, gd_n, ca2_n, ca_n, nbtF, pbfT, Bool.not_true, Bool.not_false, if_true, if_false, m_X4_stepIn, x_isOfPeople, hip, iz411, show gR μ1 11 7 = 14 from i1.sr.1.2.2.2.1, show ix SH 8 14 (nI p) = true from i1.sr.1.ix3 (show p < 5 by omega), cp]
        simp only [bd_n, gd_n, ca2_n, ca_n, nbtF, pbfT, Bool.not_true, Bool.not_false, if_true, if_false, m_X6_enter, iz6, iz411, iz137, iX.1.now, iX.1.past, iX.pr.1.iz, x_hasPerson iX.pr hv, hp, x_hasBooth iX.pr hv, hb, x_placeOf iX.sr.1 (show p < 5 by omega), hpl, h9, iX.pr.2.1, hsoon, hs, xs_in iX.sr, xs_pop, (pop4 p4).1, h4, not_false_eq_true, e1, i1.1.now, es, gR_sI, xs_in sr1]
      · intro μ iM
        have iM' := iM.thr 0
        obtain ⟨μ1, e1, i1, s1⟩ := y_note iM' g
        have i2 := i1.wr (k := p) (v := nI b)
        refine ⟨sI μ1 422 p (nI b), ?_, i2, (thr_same.trans s1).trans (same_sI (by decide))⟩
        rw [M1 μ iM, hs]
        simp only [bd_n, gd_n, ca2_n, ca_n, nbtF, pbfT, Bool.not_true, Bool.not_false, if_true, if_false, m_X7_enter_b67, iz7, iM'.1.1.pg, xp, cp, iM'.1.2 _ (show p < 205 by omega), h9, ys_in iM'.1 iM'.2.2.2.1 hv g.gp (show b < 2 by omega), ys_pop, (pop4 p4).2, h4, e1, i1.1.1.pg, show m_X7_inOf SH 414 (nI b) (sI μ1 422 p (nI b)) = _ from ys_in i2.1 i2.2.2.2.1 hv g2.gp (show b < 2 by omega)]
        exact ys_pop ▸ rfl
  · refine fin_ro (r := -3) iX iM g ?_ ?_
    · simp only [bd_n, gd_n, ca2_n, ca_n, nbtF, pbfT, Bool.not_true, Bool.not_false, if_true, if_false, m_X6_enter, iz6, iz411, iX.1.now, iX.pr.1.iz, x_hasPerson iX.pr hv, hp, x_hasBooth iX.pr hv, hb, x_placeOf iX.sr.1 (show p < 5 by omega), hpl, h9]
    · rw [M1 μ iM]
      simp only [bd_n, gd_n, ca2_n, ca_n, nbtF, pbfT, Bool.not_true, Bool.not_false, if_true, if_false, m_X7_enter_b67, iz7, iM'.1.1.pg, xp, cp, iM'.1.2 _ (show p < 205 by omega), h9]

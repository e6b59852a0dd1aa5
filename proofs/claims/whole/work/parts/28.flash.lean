/-! when a booth flashes -/
def isFl (P : Pl) (b m : Nat) : Bool := decide (pF P b ≤ m) && decide ((m - pF P b) % pE P b = 0)
def nfl (P : Pl) (b m : Nat) : Nat := if pF P b < m then m + (pE P b - (m - pF P b) % pE P b) % pE P b else pF P b
theorem e9 {e : Nat} (h1 : 1 ≤ e) (h9 : e ≤ 9) : e = 1 ∨ e = 2 ∨ e = 3 ∨ e = 4 ∨ e = 5 ∨ e = 6 ∨ e = 7 ∨ e = 8 ∨ e = 9 := by omega
theorem nfl_fl {P : Pl} {b m : Nat} (hv : PV P) (hb : b < pB P) : isFl P b (nfl P b m) = true := by
  obtain ⟨h1, h2, h3⟩ := hv.2.2.2.1 b hb
  have key : pF P b ≤ nfl P b m ∧ (nfl P b m - pF P b) % pE P b = 0 := by
    unfold nfl
    generalize pF P b = f at *
    generalize pE P b = e at *
    by_cases c : f < m
    · rw [if_pos c]
      rcases e9 h2 h3 with rfl | rfl | rfl | rfl | rfl | rfl | rfl | rfl | rfl <;> omega
    · rw [if_neg c, Nat.sub_self]
      exact ⟨Nat.le_refl _, Nat.zero_mod _⟩
  simp only [isFl, Bool.and_eq_true, decide_eq_true_eq]
  exact key
theorem nfl_le {P : Pl} {b m : Nat} (hv : PV P) (hb : b < pB P) : m ≤ nfl P b m ∧ nfl P b m ≤ m + 9 := by
  obtain ⟨h1, h2, h3⟩ := hv.2.2.2.1 b hb
  simp only [nfl]
  generalize pF P b = f at *
  generalize pE P b = e at *
  by_cases c : f < m
  · rw [if_pos c]
    rcases e9 h2 h3 with rfl | rfl | rfl | rfl | rfl | rfl | rfl | rfl | rfl <;> omega
  · rw [if_neg c]
    omega
theorem nfl_no {P : Pl} {b m n : Nat} (hv : PV P) (hb : b < pB P) (h : m ≤ n) (hn : n < nfl P b m) : isFl P b n = false := by
  obtain ⟨h1, h2, h3⟩ := hv.2.2.2.1 b hb
  simp only [nfl] at hn
  rw [Bool.eq_false_iff]
  simp only [isFl, Bool.and_eq_true, decide_eq_true_eq, ne_eq]
  generalize pF P b = f at *
  generalize pE P b = e at *
  by_cases c : f < m
  · rw [if_pos c] at hn
    rcases e9 h2 h3 with rfl | rfl | rfl | rfl | rfl | rfl | rfl | rfl | rfl <;> omega
  · rw [if_neg c] at hn
    omega
theorem nfl_eq {P : Pl} {b m : Nat} (hv : PV P) (hb : b < pB P) : decide (nfl P b m = m) = isFl P b m := by
  by_cases h : nfl P b m = m
  · have := nfl_fl (m := m) hv hb
    rw [h] at this
    rw [this]
    exact decide_eq_true h
  · rw [nfl_no hv hb (Nat.le_refl m) (by have := (nfl_le (m := m) hv hb).1; omega)]
    exact decide_eq_false h
/-- floorMod -/
def fmI (x y : Int32) : Int32 := if 0 ≤ (x ^^^ y) then x - x / y * y else if x - x / y * y = 0 then x - x / y * y else x - x / y * y + y
theorem j_floorMod {x y : Int32} {μ : Mu} (hy : ¬ y = 0) : m_J9_floorMod_7cf53 SH x y μ = some (fmI x y, μ) := by
  unfold m_J9_floorMod_7cf53 fmI
  rw [gd_of (by simp [nzI, hy])]
  simp only [bd]
  repeat' split
  all_goals rfl
theorem fm_neg : ∀ d, d < 1100 → ∀ e, e < 10 → ¬ e = 0 → fmI (-nI d) (nI e) = nI ((e - d % e) % e) := by decide +kernel
theorem neg_sub' {a b : Nat} (h : a ≤ b) : nI a - nI b = -nI (b - a) := by
  rw [← pk_sub h, Int32.neg_sub]
theorem x_nextFlash {μ : Mu} {q b m : Nat} {P : Pl} (h : PR μ q P) (hv : PV P) (hb : b < pB P) (hm : m < 1100) : m_X2_nextFlash SH q (nI b) (nI m) μ = some (nI (nfl P b m), μ) := by
  obtain ⟨h1, h2, h3⟩ := hv.2.2.2.1 b hb
  unfold m_X2_nextFlash
  rw [gd_of h.1.iz, x_firstOf h hv hb, ca2_s, x_everyOf h hv hb, ca2_s]
  unfold nfl
  by_cases c : pF P b < m
  · rw [if_pos (nI_lt c (by omega)), if_pos c, neg_sub' (by omega), j_floorMod (nI_ne0 (by omega) (by omega)), ca2_s, fm_neg _ (by omega) _ (by omega) (by omega), nI_add]
  · rw [if_neg (nI_nlt (by omega) (by omega)), if_neg c]
theorem x_flashesAt {μ : Mu} {q b m : Nat} {P : Pl} (h : PR μ q P) (hv : PV P) (hb : b < pB P) (hm : m < 1100) : m_X2_flashesAt SH q (nI b) (nI m) μ = some (bI (isFl P b m), μ) := by
  have hb2 := hv.2.1
  have hl := nfl_le (m := m) hv hb
  unfold m_X2_flashesAt
  rw [gd_of h.1.iz, x_hasBooth h hv, isIn_nI hb (by omega), ca2_s, if_neg nbt, x_nextFlash h hv hb hm, ca2_s, ← nfl_eq hv hb]
  by_cases c : nfl P b m = m
  · rw [if_pos (by rw [c]), decide_eq_true c]; rfl
  · rw [if_neg (fun e => c ((nI_eq (by omega) (by omega)).mp e)), decide_eq_false c]; rfl
theorem y_isFlash {μ : Mu} {b m : Nat} {P : Pl} (h : Mp μ) (hP : MPl μ P) (hv : PV P) (hb : b < pB P) (hm : m < 2 ^ 30) : m_X7_isFlash SH 414 (nI b) (nI m) μ = some (bI (isFl P b m), μ) := by
  have hb2 := hv.2.1
  obtain ⟨h1, h2, h3⟩ := hv.2.2.2.1 b hb
  unfold m_X7_isFlash
  simp only [bd, h.2.1, h.2.2.1]
  rw [gd_of iz7, gd_of (ix_of (sh := SH) (kd := 8) (a := 416) (i := b) (n := 2) rfl (by omega) (by decide)), nI_clamp (by omega), (hP.2.2.2.1 b hb).1, (hP.2.2.2.1 b hb).2, gd_of (ix_of (sh := SH) (kd := 8) (a := 416) (i := b) (n := 2) rfl (by omega) (by decide)), gd_of (ix_of (sh := SH) (kd := 8) (a := 417) (i := b) (n := 2) rfl (by omega) (by decide)), gd_of (show nzI (nI (pE P b)) = true by simp only [nzI]; exact decide_eq_true (nI_ne0 (by omega) (by omega)))]
  unfold isFl
  by_cases c : m < pF P b
  · rw [if_pos (nI_lt c (by omega)), decide_eq_false (show ¬ pF P b ≤ m by omega)]
    rfl
  · rw [if_neg (nI_nlt (by omega) (by omega)), decide_eq_true (show pF P b ≤ m by omega), pk_sub (by omega), pk_rem (by omega) (by omega) (by omega)]
    by_cases c2 : (m - pF P b) % pE P b = 0
    · rw [c2, if_pos nI_0]; rfl
    · rw [if_neg (nI_ne0 (by omega) (Nat.lt_of_le_of_lt (Nat.mod_le _ _) (by omega))), decide_eq_false c2]; rfl
/-! booth -/
theorem y_booth_loop {μ : Mu} {b m : Nat} {w : Int32} {P : Pl} (h : Mp μ) (hP : MPl μ P) (hv : PV P) (hb : b < pB P) (hm : m < 2 ^ 29) : ∀ (d n F : Nat), n + d = nfl P b m → m ≤ n → d < F → m_X7_booth_h24 SH 414 (nI b) w F (nI n) μ = m_X7_booth_b39 SH 414 (nI b) w (nI (nfl P b m)) μ := by
  have hl := nfl_le (m := m) hv hb
  intro d
  induction d with
  | zero =>
    intro n F hn hmn hF
    obtain ⟨F, rfl⟩ : ∃ g, F = g + 1 := ⟨F - 1, by omega⟩
    have e : n = nfl P b m := by omega
    subst e
    show m_X7_booth_b24 SH (m_X7_booth_h24 SH 414 (nI b) w F) 414 (nI b) w (nI (nfl P b m)) μ = _
    unfold m_X7_booth_b24
    rw [gd_of iz7, y_isFlash h hP hv hb (by omega), ca2_s, nfl_fl hv hb, if_neg nbt]
  | succ d ih =>
    intro n F hn hmn hF
    obtain ⟨F, rfl⟩ : ∃ g, F = g + 1 := ⟨F - 1, by omega⟩
    show m_X7_booth_b24 SH (m_X7_booth_h24 SH 414 (nI b) w F) 414 (nI b) w (nI n) μ = _
    unfold m_X7_booth_b24
    rw [gd_of iz7, y_isFlash h hP hv hb (by omega), ca2_s, nfl_no hv hb hmn (by omega), if_pos pbf]
    simp only [bd]
    rw [nI_1]
    exact ih (n + 1) F (by omega) (by omega) (by omega)
theorem beg_ix (b : Nat) : (16 + 17 * nI b : Int32) = nI (16 + 17 * b) := by
  rw [show (16 : Int32) = nI 16 from rfl, show (17 : Int32) = nI 17 from rfl, pk_mul, nI_add]
/-- who is in, of those that there are -/
theorem GP.in {P : Pl} {c : Nat} {f : Nat → Int32} (h : GP P c f) (hv : PV P) {b : Nat} (hb : b < 2) : inG f (nI b) 5 = inG f (nI b) (pP P) := by
  have h5 := hv.2.2.1
  refine inG_more h5 (fun p h1 h2 e => ?_)
  rcases h.2.2.2.1 p h2 with q | q
  · rw [q] at e
    revert e
    rcases (show b = 0 ∨ b = 1 by omega) with rfl | rfl <;> decide
  · omega
theorem op_booth (v w : Int32) : OpI (m_X6_booth SH 1 v w) (m_X7_booth SH 414 v w) := by
  refine OpI.ro (fun σ => if isIn v (pB (sP σ)) = true then (if w = 0 then nI (pF (sP σ) v.toNatClampNeg) else if w = 1 then nI (pE (sP σ) v.toNatClampNeg) else if w = 2 then inG (sN σ).1 v (pP (sP σ)) else if w = 3 then (sN σ).1 (16 + 17 * v.toNatClampNeg) else if w = 4 then nI (nfl (sP σ) v.toNatClampNeg ((sN σ).1 203).toNatClampNeg) else -2) else -1) (fun μ σ c h g hc => ?_) (fun μ σ c h g hc => ?_)
  · have h2 := g.pv.2.1
    obtain ⟨m, hm, em, -⟩ := g.gp.2.1
    unfold m_X6_booth
    simp only [bd, h.1.now, gd_of iz6, gd_of h.pr.1.iz, gd_of iz411, x_hasBooth h.pr g.pv, ca2_s]
    by_cases hv : isIn v (pB (sP σ)) = true
    · obtain ⟨b, hb, rfl⟩ := isIn_t hv (by omega)
      have eb := (h.sr.2.2.2.2.2.2.2 b (by omega)).2.1
      have e1 : gI μ 11 1 = nI m := h.sr.2.1.trans em
      rw [hv, if_neg nbt, if_pos rfl, nI_clamp (by omega), e1, em, nI_clamp (by omega), x_firstOf h.pr g.pv hb, x_everyOf h.pr g.pv hb, x_whoIsIn h.sr, x_begunLooks h.sr.1 (by omega), x_nextFlash h.pr g.pv hb (by omega), g.gp.in g.pv (by omega), eb]
      simp only [ca2_s]
      repeat' split
      all_goals rfl
    · have hv : isIn v (pB (sP σ)) = false := by simpa using hv
      rw [hv, if_pos pbf, if_neg (by decide)]
  · have h2 := g.pv.2.1
    have h' := h.thr 0
    obtain ⟨m, hm, em, -⟩ := g.gp.2.1
    unfold m_X7_booth
    simp only [bd, h'.1.1.pg, gd_of iz7, gd_of ixL203, c203, h'.1.2 203 (by decide), y_noBooth h'.2.2.2.1 g.pv, ca2_s]
    by_cases hv : isIn v (pB (sP σ)) = true
    · obtain ⟨b, hb, rfl⟩ := isIn_t hv (by omega)
      have hl := nfl_le (m := m) g.pv hb
      rw [hv, if_pos (show bI (!true) = 0 from rfl), if_pos rfl, nI_clamp (by omega), em, nI_clamp (by omega)]
      refine Eq.trans (y_booth_loop (m := m) h'.1.1 h'.2.2.2.1 g.pv hb (by omega) (nfl (sP σ) b m - m) m FU (by omega) (Nat.le_refl _) (by rw [FU_eq]; omega)) ?_
      unfold m_X7_booth_b39
      simp only [bd, h'.1.1.pg, h'.1.1.2.1, h'.1.1.2.2.1, gd_of iz7]
      rw [gd_of (ix_of (sh := SH) (kd := 8) (a := 416) (i := b) (n := 2) rfl (by omega) (by decide)), gd_of (ix_of (sh := SH) (kd := 8) (a := 417) (i := b) (n := 2) rfl (by omega) (by decide)), nI_clamp (by omega), (h'.2.2.2.1.2.2.2.1 b hb).1, (h'.2.2.2.1.2.2.2.1 b hb).2, y_inOf h'.1 h'.2.2.2.1 g.pv, beg_ix, gd_of (MR.ix (by omega)), nI_clamp (by omega), h'.1.2 _ (by omega)]
      simp only [ca2_s]
      repeat' split
      all_goals rfl
    · have hv : isIn v (pB (sP σ)) = false := by simpa using hv
      rw [hv, if_neg (show ¬ bI (!false) = 0 by decide), if_neg (by decide)]
/-! most -/
/-- flashes from m on, k minutes -/
def nFl (P : Pl) (b m : Nat) : Nat → Nat
  | 0 => 0
  | k + 1 => nFl P b m k + (if isFl P b (m + k) = true then 1 else 0)
theorem nFl_le (P : Pl) (b m : Nat) : ∀ k, nFl P b m k ≤ k
  | 0 => Nat.le_refl _
  | k + 1 => by
    have := nFl_le P b m k
    unfold nFl
    split <;> omega
theorem nFl_val {P : Pl} {b m : Nat} (hv : PV P) (hb : b < pB P) : ∀ k, nFl P b m k = if nfl P b m < m + k then (m + k - 1 - nfl P b m) / pE P b + 1 else 0
  | 0 => by
    have := (nfl_le (m := m) hv hb).1
    rw [if_neg (by omega)]
    rfl
  | k + 1 => by
    have ih := nFl_val (m := m) hv hb k
    have hle := (nfl_le (m := m) hv hb).1
    have hfl := nfl_fl (m := m) hv hb
    have hE := hv.2.2.2.1 b hb
    have hstep : nFl P b m (k + 1) = nFl P b m k + (if isFl P b (m + k) = true then 1 else 0) := rfl
    rw [hstep, ih]
    by_cases c1 : nfl P b m < m + k
    · rw [if_pos c1, if_pos (show nfl P b m < m + (k + 1) by omega)]
      simp only [isFl, Bool.and_eq_true, decide_eq_true_eq] at hfl ⊢
      generalize pF P b = f at *
      generalize pE P b = e at *
      generalize nfl P b m = x at *
      obtain ⟨hE1, hE2, hE3⟩ := hE
      by_cases c2 : f ≤ m + k ∧ (m + k - f) % e = 0
      · rw [if_pos c2]
        rcases e9 hE2 hE3 with rfl | rfl | rfl | rfl | rfl | rfl | rfl | rfl | rfl <;> omega
      · rw [if_neg c2]
        rcases e9 hE2 hE3 with rfl | rfl | rfl | rfl | rfl | rfl | rfl | rfl | rfl <;> omega
    · rw [if_neg c1]
      by_cases c2 : nfl P b m = m + k
      · rw [if_pos (show nfl P b m < m + (k + 1) by omega), ← c2, hfl, if_pos rfl, show m + (k + 1) - 1 - nfl P b m = 0 by omega, Nat.zero_div]
      · rw [if_neg (show ¬ nfl P b m < m + (k + 1) by omega), nfl_no hv hb (show m ≤ m + k by omega) (by omega), if_neg (by decide)]
theorem x_between_ {μ : Mu} {q b m t : Nat} {P : Pl} (h : PR μ q P) (hv : PV P) (hb : b < pB P) (hm : m < 1100) (ht : t < 2 ^ 20) : m_X2_flashesBetween SH q (nI b) (nI m) (nI t) μ = some (nI (nFl P b m (t + 1 - m)), μ) := by
  have hE := hv.2.2.2.1 b hb
  have hl := nfl_le (m := m) hv hb
  unfold m_X2_flashesBetween
  rw [gd_of h.1.iz, x_nextFlash h hv hb hm, ca2_s, x_everyOf h hv hb, ca2_s, nFl_val hv hb]
  by_cases c : nfl P b m ≤ t
  · rw [if_pos (nI_le c (by omega)), if_pos (by omega), gd_of (show nzI (nI (pE P b)) = true by simp only [nzI]; exact decide_eq_true (nI_ne0 (by omega) (by omega))), pk_sub c, pk_div (by omega) (by omega) (by omega), nI_1, show m + (t + 1 - m) - 1 - nfl P b m = t - nfl P b m by omega]
  · rw [if_neg (nI_ge (by omega) (by omega)), if_neg (by omega)]
    rfl
theorem y_most_loop {μ : Mu} {b m t l : Nat} {P : Pl} (h : Mp μ) (hP : MPl μ P) (hv : PV P) (hb : b < pB P) (hm : m < 2 ^ 20) (ht : t < 2 ^ 20) (hl : l < 10) : ∀ (d k F : Nat), m + k + d = t + 1 → d < F → m_X7_most_h53 SH 414 (nI b) (nI t) F (nI (l + nFl P b m k)) (nI (m + k)) μ = some (nI ((l + nFl P b m (t + 1 - m)) / 4), μ) := by
  intro d
  induction d with
  | zero =>
    intro k F hk hF
    obtain ⟨F, rfl⟩ : ∃ g, F = g + 1 := ⟨F - 1, by omega⟩
    have := nFl_le P b m k
    show m_X7_most_b53 SH (m_X7_most_h53 SH 414 (nI b) (nI t) F) 414 (nI b) (nI t) (nI (l + nFl P b m k)) (nI (m + k)) μ = _
    unfold m_X7_most_b53
    rw [if_pos (nI_lt (by omega) (by omega)), gd_of (show nzI 4 = true by decide), show (4 : Int32) = nI 4 from rfl, pk_div (by omega) (by decide) (by decide), show t + 1 - m = k by omega]
  | succ d ih =>
    intro k F hk hF
    obtain ⟨F, rfl⟩ : ∃ g, F = g + 1 := ⟨F - 1, by omega⟩
    show m_X7_most_b53 SH (m_X7_most_h53 SH 414 (nI b) (nI t) F) 414 (nI b) (nI t) (nI (l + nFl P b m k)) (nI (m + k)) μ = _
    unfold m_X7_most_b53 m_X7_most_b75
    have kk := ih (k + 1) F (by omega) (by omega)
    rw [show nFl P b m (k + 1) = nFl P b m k + (if isFl P b (m + k) = true then 1 else 0) from rfl] at kk
    rw [if_neg (nI_nlt (by omega) (by omega)), gd_of iz7, y_isFlash h hP hv hb (by omega), ca2_s]
    simp only [bd, nI_1]
    rw [show m + k + 1 = m + (k + 1) by omega]
    cases hf : isFl P b (m + k)
    · rw [if_pos pbf]
      rw [hf, if_neg (by decide)] at kk
      rw [show nI (l + nFl P b m k) + 0 = nI (l + nFl P b m k) from Int32.add_zero _]
      exact kk
    · rw [if_neg nbt]
      rw [hf, if_pos rfl, ← Nat.add_assoc] at kk
      exact kk
theorem x_isAsked {v : Int32} {μ : Mu} : m_X6_isAskedMinute SH v μ = some (bI (isIn v 1000), μ) := by
  unfold m_X6_isAskedMinute
  by_cases h0 : v < 0
  · rw [if_pos h0, show isIn v 1000 = false from by simp [isIn, h0]]
    rfl
  · rw [if_neg h0]
    have h1 : (999 : Int32) < v ↔ ¬ isIn v 1000 = true := by
      rw [isIn_iff (by decide), fa_lt, show (999 : Int32).toInt = 999 from rfl]
      have : 0 ≤ v.toInt := by
        have := Int32.not_lt.mp h0
        rw [fa_le] at this
        exact this
      omega
    by_cases h2 : isIn v 1000 = true
    · rw [if_neg (fun q => h1.mp q h2), h2]; rfl
    · rw [if_pos (h1.mpr h2), show isIn v 1000 = false from by simpa using h2]; rfl
theorem op_most (v w : Int32) : OpI (m_X6_most SH 1 v w) (m_X7_most SH 414 v w) := by
  refine OpI.ro (fun σ => if isIn v (pB (sP σ)) = true then (if isIn w 1000 = true then nI ((lkF (sN σ).1 v.toNatClampNeg + nFl (sP σ) v.toNatClampNeg ((sN σ).1 203).toNatClampNeg (w.toNatClampNeg + 1 - ((sN σ).1 203).toNatClampNeg)) / 4) else -2) else -1) (fun μ σ c h g hc => ?_) (fun μ σ c h g hc => ?_)
  · have h2 := g.pv.2.1
    obtain ⟨m, hm, em, -⟩ := g.gp.2.1
    unfold m_X6_most
    simp only [bd, h.1.now, gd_of iz6, gd_of h.pr.1.iz, gd_of iz411, x_hasBooth h.pr g.pv, ca2_s, x_isAsked]
    by_cases hv : isIn v (pB (sP σ)) = true
    · obtain ⟨b, hb, rfl⟩ := isIn_t hv (by omega)
      have lk := g.gp.lk (b := b) (by omega)
      have eb := ((h.sr.2.2.2.2.2.2.2 b (by omega)).2.1).trans lk.1
      have e1 : gI μ 11 1 = nI m := h.sr.2.1.trans em
      rw [hv, if_neg nbt, if_pos rfl, nI_clamp (by omega), em, nI_clamp (by omega), x_begunLooks h.sr.1 (by omega), eb, ca2_s, h.1.now, gd_of iz411, gd_of h.pr.1.iz, e1]
      by_cases hw : isIn w 1000 = true
      · obtain ⟨t, ht, rfl⟩ := isIn_t hw (by decide)
        have := nFl_le (sP σ) b m (t + 1 - m)
        rw [hw, if_neg nbt, if_pos rfl, nI_clamp (by omega), x_between_ h.pr g.pv hb (by omega) (by omega), ca2_s, gd_of (show nzI 4 = true by decide), nI_add, show (4 : Int32) = nI 4 from rfl, pk_div (by omega) (by decide) (by decide)]
      · have hw : isIn w 1000 = false := by simpa using hw
        rw [hw, if_pos pbf, if_neg (by decide)]
    · have hv : isIn v (pB (sP σ)) = false := by simpa using hv
      rw [hv, if_pos pbf, if_neg (by decide)]
  · have h2 := g.pv.2.1
    have h' := h.thr 0
    obtain ⟨m, hm, em, -⟩ := g.gp.2.1
    unfold m_X7_most
    simp only [bd, h'.1.1.pg, gd_of iz7, gd_of ixL203, c203, h'.1.2 203 (by decide), y_noBooth h'.2.2.2.1 g.pv, ca2_s, y_in, inL_of (n := 1000) (by decide) (show (999 : Int64).toInt = ((1000 : Nat) : Int) - 1 from rfl)]
    by_cases hv : isIn v (pB (sP σ)) = true
    · obtain ⟨b, hb, rfl⟩ := isIn_t hv (by omega)
      have lk := g.gp.lk (b := b) (by omega)
      rw [hv, if_pos (show bI (!true) = 0 from rfl), if_pos rfl, nI_clamp (by omega), em, nI_clamp (by omega)]
      by_cases hw : isIn w 1000 = true
      · obtain ⟨t, ht, rfl⟩ := isIn_t hw (by decide)
        rw [hw, if_neg nbt, if_pos rfl, nI_clamp (by omega), beg_ix, gd_of (MR.ix (by omega)), nI_clamp (by omega), h'.1.2 _ (by omega), lk.1]
        by_cases c : m ≤ t + 1
        · exact y_most_loop (l := lkF (sN σ).1 b) h'.1.1 h'.2.2.2.1 g.pv hb (by omega) (by omega) (by omega) (t + 1 - m) 0 FU (by omega) (by rw [FU_eq]; omega)
        · show m_X7_most_b53 SH (m_X7_most_h53 SH 414 (nI b) (nI t) 65535) 414 (nI b) (nI t) (nI (lkF (sN σ).1 b)) (nI m) _ = _
          unfold m_X7_most_b53
          rw [if_pos (nI_lt (by omega) (by omega)), gd_of (show nzI 4 = true by decide), show (4 : Int32) = nI 4 from rfl, pk_div (by omega) (by decide) (by decide), show t + 1 - m = 0 by omega]
          rfl
      · have hw : isIn w 1000 = false := by simpa using hw
        rw [hw, if_pos pbf, if_neg (by decide)]
    · have hv : isIn v (pB (sP σ)) = false := by simpa using hv
      rw [hv, if_neg (show ¬ bI (!false) = 0 by decide), if_neg (by decide)]

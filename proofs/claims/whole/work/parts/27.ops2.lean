theorem ca2_s {α β : Type} {a : α} {m : Mu} {f : α → Mu → Option β} : ca2 (some (a, m)) f = f a m := rfl
theorem ca_s {α β : Type} {a : α} {f : α → Option β} : ca (some a) f = f a := rfl
/-! person -/
theorem w_lit (v : Int32) : v = 0 ∨ v = 1 ∨ v = 2 ∨ v = 3 ∨ isIn v 4 = false := by
  by_cases h : isIn v 4 = true
  · obtain ⟨i, hi, rfl⟩ := isIn_t h (by decide)
    rcases (show i = 0 ∨ i = 1 ∨ i = 2 ∨ i = 3 by omega) with rfl | rfl | rfl | rfl
    · exact Or.inl rfl
    · exact Or.inr (Or.inl rfl)
    · exact Or.inr (Or.inr (Or.inl rfl))
    · exact Or.inr (Or.inr (Or.inr (Or.inl rfl)))
  · exact Or.inr (Or.inr (Or.inr (Or.inr (by simpa using h))))
theorem op_person (v w : Int32) : OpI (m_X6_person SH 1 v w) (m_X7_person SH 414 v w) := by
  refine OpI.ro (fun σ => if isIn v (pP (sP σ)) = true then (if w = 0 then nI (pT (sP σ) v.toNatClampNeg) else if w = 1 then (sN σ).1 v.toNatClampNeg else if w = 2 then (sN σ).1 (5 + v.toNatClampNeg) else if w = 3 then (sN σ).1 (10 + v.toNatClampNeg) else -2) else -1) (fun μ σ c h g hc => ?_) (fun μ σ c h g hc => ?_)
  · have h5 := g.pv.2.2.1
    unfold m_X6_person
    simp only [bd, h.1.now, gd_of iz6, gd_of h.pr.1.iz, gd_of iz411, x_hasPerson h.pr g.pv, ca2]
    by_cases hv : isIn v (pP (sP σ)) = true
    · obtain ⟨p, hp, rfl⟩ := isIn_t hv (by omega)
      rw [hv, if_neg nbt, if_pos rfl, nI_clamp (by omega), x_tenthsOf h.pr g.pv hp, x_placeOf h.sr.1 (by omega), x_leftOf h.sr.1 (by omega), x_leftAt h.sr.1 (by omega)]
      obtain ⟨e1, e2, e3⟩ := h.sr.2.2.2.2.2.1 p (by omega)
      have e1 : gI μ (11 + 3) p = _ := e1
      have e2 : gI μ (11 + 4) p = _ := e2
      have e3 : gI μ (11 + 5) p = _ := e3
      simp only [e1, e2, e3]
      repeat' split
      all_goals rfl
    · have hv : isIn v (pP (sP σ)) = false := by simpa using hv
      rw [hv, if_pos pbf, if_neg (by decide)]
  · have h5 := g.pv.2.2.1
    have h' := h.thr 0
    unfold m_X7_person
    simp only [bd, h'.1.1.pg, h'.1.1.2.2.2.1, gd_of iz7, y_noOne h'.2.2.2.1 g.pv, ca2, y_in]
    by_cases hv : isIn v (pP (sP σ)) = true
    · obtain ⟨p, hp, rfl⟩ := isIn_t hv (by omega)
      rw [hv, if_pos (show bI (!true) = 0 from rfl), if_pos rfl, nI_clamp (by omega), gd_of (ix_of (sh := SH) (kd := 8) (a := 418) (i := p) (n := 5) rfl (by omega) (by decide)), h'.2.2.2.1.2.2.2.2 p hp]
      have key : ∀ k, k < 3 → gd (ix SH 8 422 (5 * (nI (k + 1) - 1) + nI p)) (some (gI (sI μ 414 0 0) 422 (5 * (nI (k + 1) - 1) + nI p).toNatClampNeg, sI μ 414 0 0)) = some ((sN σ).1 (5 * k + p), sI μ 414 0 0) := by
        intro k hk
        have e : 5 * (nI (k + 1) - 1) + nI p = nI (5 * k + p) := by rw [nI_pred, show (5 : Int32) = nI 5 from rfl, pk_mul, nI_add]
        rw [e, gd_of (MR.ix (by omega)), nI_clamp (by omega), h'.1.2 _ (by omega)]
      rcases w_lit w with rfl | rfl | rfl | rfl | hw
      · rw [if_pos rfl, if_pos rfl]
      · have := key 0 (by decide)
        rw [show 5 * 0 + p = p by omega] at this
        exact this
      · have := key 1 (by decide)
        exact this
      · have := key 2 (by decide)
        exact this
      · have hne : ¬ w = 0 ∧ ¬ w = 1 ∧ ¬ w = 2 ∧ ¬ w = 3 := by
          refine ⟨?_, ?_, ?_, ?_⟩ <;> (rintro rfl; revert hw; decide)
        have hin : inL w.toInt64 1 3 = false := by
          rw [Bool.eq_false_iff]
          intro q
          rw [inL_iff] at q
          have : isIn w 4 = true := (isIn_iff (by decide)).mpr ⟨by have := q.1; rw [show (1 : Int64).toInt = 1 from rfl] at this; omega, by have := q.2; rw [show (3 : Int64).toInt = 3 from rfl] at this; omega⟩
          rw [hw] at this
          cases this
        rw [hin, if_neg hne.1, if_pos pbf, if_neg hne.1, if_neg hne.2.1, if_neg hne.2.2.1, if_neg hne.2.2.2]
    · have hv : isIn v (pP (sP σ)) = false := by simpa using hv
      rw [hv, if_neg (show ¬ bI (!false) = 0 by decide), if_neg (by decide)]
/-! look -/
theorem op_look (v l w : Int32) : OpI (m_X6_look SH 1 v l w) (m_X7_look SH 414 v l w) := by
  refine OpI.ro (fun σ => if isIn v (szF (sN σ).1) = true then (if isIn l 4 = true then (if isIn w 4 = true then cI (sN σ).1 v.toNatClampNeg l.toNatClampNeg w.toNatClampNeg else -2) else -2) else -1) (fun μ σ c h g hc => ?_) (fun μ σ c h g hc => ?_)
  · have hsz := g.gp.sz
    have e4 : gI μ 11 4 = nI (szF (sN σ).1) := h.sr.2.2.2.2.1.trans hsz.1
    unfold m_X6_look
    simp only [bd, h.1.now, gd_of iz6, gd_of iz411, x_hasStrip h.sr.1 e4 hsz.2, ca2, h.sr.1.2.1]
    by_cases hv : isIn v (szF (sN σ).1) = true
    · obtain ⟨i, hi, rfl⟩ := isIn_t hv (by omega)
      rw [hv, if_neg nbt, if_pos rfl, nI_clamp (by omega)]
      by_cases hl : isIn l 4 = true
      · obtain ⟨j, hj, rfl⟩ := isIn_t hl (by decide)
        rw [if_neg (nlt0 (by omega)), if_neg (nleL 4 hj (by decide)), if_pos hl, nI_clamp (by omega)]
        by_cases hw : isIn w 4 = true
        · obtain ⟨k, hk, rfl⟩ := isIn_t hw (by decide)
          have ht := h.sr.1.tpi (i := i) (by omega)
          rw [if_neg (nlt0 (by omega)), if_pos (ltL 4 hk (by decide)), if_pos hw, nI_clamp (by omega), gd_of (h.sr.1.ix1 (by omega)), gd_of ht.iz, x_cell ht hj hk]
          have := (h.sr.2.2.2.2.2.2.1 i hi).2.2.2 (4 * j + k) (by omega)
          simp only [this]
          rfl
        · have hw : isIn w 4 = false := by simpa using hw
          rw [if_neg (show ¬ isIn w 4 = true by rw [hw]; decide)]
          rcases isInL_f 4 hw with q | q
          · rw [if_pos q]
          · by_cases q0 : w < 0
            · rw [if_pos q0]
            · rw [if_neg q0, if_neg (fun z => absurd q (Int32.not_le.mpr z))]
      · have hl : isIn l 4 = false := by simpa using hl
        rw [if_neg (show ¬ isIn l 4 = true by rw [hl]; decide)]
        rcases isInL_f 4 hl with q | q
        · rw [if_pos q]
        · by_cases q0 : l < 0
          · rw [if_pos q0]
          · rw [if_neg q0, if_pos q]
    · have hv : isIn v (szF (sN σ).1) = false := by simpa using hv
      rw [hv, if_pos pbf, if_neg (by decide)]
  · have hsz := g.gp.sz
    have h' := h.thr 0
    unfold m_X7_look
    simp only [bd, gd_of iz7, y_noStrip h'.1 hsz.1 hsz.2, ca2, y_in, inL_of (n := 4) (by decide) (show (3 : Int64).toInt = ((4 : Nat) : Int) - 1 from rfl)]
    by_cases hv : isIn v (szF (sN σ).1) = true
    · obtain ⟨i, hi, rfl⟩ := isIn_t hv (by omega)
      rw [hv, if_pos (show bI (!true) = 0 from rfl), if_pos rfl, nI_clamp (by omega)]
      by_cases hl : isIn l 4 = true
      · obtain ⟨j, hj, rfl⟩ := isIn_t hl (by decide)
        rw [hl, if_neg nbt, if_pos rfl, nI_clamp (by omega)]
        by_cases hw : isIn w 4 = true
        · obtain ⟨k, hk, rfl⟩ := isIn_t hw (by decide)
          rw [hw, if_neg nbt, if_pos rfl, nI_clamp (by omega), y_lookOf h'.1 (by omega)]
          simp only [cI]
          rw [show 50 + 19 * i + (3 + 4 * j + k) = 50 + 19 * i + 3 + (4 * j + k) by omega]
        · have hw : isIn w 4 = false := by simpa using hw
          rw [hw, if_pos pbf, if_neg (by decide)]
      · have hl : isIn l 4 = false := by simpa using hl
        rw [hl, if_pos pbf, if_neg (by decide)]
    · have hv : isIn v (szF (sN σ).1) = false := by simpa using hv
      rw [hv, if_neg (show ¬ bI (!false) = 0 by decide), if_neg (by decide)]
/-! strip -/
def allG (f : Nat → Int32) (i : Nat) : Nat → Int32
  | 0 => 0
  | l + 1 => allG f i l ||| cI f i l 1
theorem x_all_loop {μ : Mu} {t i : Nat} {f : Nat → Int32} (h : Tp μ t) (hs : stripR μ t f i) : ∀ (d l F : Nat), l + d = 4 → d < F → m_X5_allOnIt_h4 SH t F (allG f i l) (nI l) μ = some (allG f i 4, μ) := by
  intro d
  induction d with
  | zero =>
    intro l F hl hF
    obtain ⟨F, rfl⟩ : ∃ g, F = g + 1 := ⟨F - 1, by omega⟩
    have e : l = 4 := by omega
    subst e
    show m_X5_allOnIt_b4 SH (m_X5_allOnIt_h4 SH t F) t (allG f i 4) (nI 4) μ = _
    unfold m_X5_allOnIt_b4
    rw [if_pos (by decide)]
  | succ d ih =>
    intro l F hl hF
    obtain ⟨F, rfl⟩ : ∃ g, F = g + 1 := ⟨F - 1, by omega⟩
    show m_X5_allOnIt_b4 SH (m_X5_allOnIt_h4 SH t F) t (allG f i l) (nI l) μ = _
    unfold m_X5_allOnIt_b4
    have e : m_X5_cell SH t (nI l) 1 μ = some (gI μ (t + 1) (4 * l + 1), μ) := x_cell h (show l < 4 by omega) (w := 1) (by decide)
    rw [if_neg (nleL 4 (by omega) (by decide)), gd_of h.iz, e]
    simp only [ca2, bd]
    rw [nI_1, hs.2.2.2 (4 * l + 1) (by omega)]
    exact ih (l + 1) F (by omega) (by omega)
theorem y_strip_loop {μ : Mu} {i : Nat} {f : Nat → Int32} {w : Int32} (h : MR μ f) (hi : i < 8) : ∀ (d l F : Nat), l + d = 4 → d < F → m_X7_strip_h20 SH 414 (nI i) w F (allG f i l) (nI l) μ = m_X7_strip_b43 SH 414 (nI i) w (allG f i 4) μ := by
  intro d
  induction d with
  | zero =>
    intro l F hl hF
    obtain ⟨F, rfl⟩ : ∃ g, F = g + 1 := ⟨F - 1, by omega⟩
    have e : l = 4 := by omega
    subst e
    show m_X7_strip_b20 SH (m_X7_strip_h20 SH 414 (nI i) w F) 414 (nI i) w (allG f i 4) (nI 4) μ = _
    unfold m_X7_strip_b20
    rw [if_pos (by decide)]
  | succ d ih =>
    intro l F hl hF
    obtain ⟨F, rfl⟩ : ∃ g, F = g + 1 := ⟨F - 1, by omega⟩
    show m_X7_strip_b20 SH (m_X7_strip_h20 SH 414 (nI i) w F) 414 (nI i) w (allG f i l) (nI l) μ = _
    unfold m_X7_strip_b20
    have e : m_X7_lookOf SH 414 (nI i) (nI l) 1 μ = some (f (50 + 19 * i + (3 + 4 * l + 1)), μ) := y_lookOf (w := 1) h (by omega)
    rw [if_neg (nleL 4 (by omega) (by decide)), gd_of iz7, e]
    simp only [ca2, bd]
    rw [nI_1, show 50 + 19 * i + (3 + 4 * l + 1) = 50 + 19 * i + 3 + (4 * l + 1) by omega]
    exact ih (l + 1) F (by omega) (by omega)
theorem op_strip (v w : Int32) : OpI (m_X6_strip SH 1 v w) (m_X7_strip SH 414 v w) := by
  refine OpI.ro (fun σ => if isIn v (szF (sN σ).1) = true then (if w = 0 then (sN σ).1 (50 + 19 * v.toNatClampNeg) else if w = 1 then (sN σ).1 (50 + 19 * v.toNatClampNeg + 1) else if w = 2 then (sN σ).1 (50 + 19 * v.toNatClampNeg + 2) else if w = 3 then allG (sN σ).1 v.toNatClampNeg 4 else -2) else -1) (fun μ σ c h g hc => ?_) (fun μ σ c h g hc => ?_)
  · have hsz := g.gp.sz
    have e4 : gI μ 11 4 = nI (szF (sN σ).1) := h.sr.2.2.2.2.1.trans hsz.1
    unfold m_X6_strip
    simp only [bd, h.1.now, gd_of iz6, gd_of iz411, x_hasStrip h.sr.1 e4 hsz.2, ca2, h.sr.1.2.1]
    by_cases hv : isIn v (szF (sN σ).1) = true
    · obtain ⟨i, hi, rfl⟩ := isIn_t hv (by omega)
      have ht := h.sr.1.tpi (i := i) (by omega)
      have hr := h.sr.2.2.2.2.2.2.1 i hi
      rw [hv, if_neg nbt, if_pos rfl, nI_clamp (by omega), gd_of (h.sr.1.ix1 (by omega))]
      have ea : m_X5_allOnIt SH (gR μ (11 + 1) i) μ = some (allG (sN σ).1 i 4, μ) := x_all_loop ht hr 4 0 FU rfl (by rw [FU_eq]; omega)
      simp only [gd_of ht.iz, hr.1, hr.2.1, hr.2.2.1, ea]
      repeat' split
      all_goals rfl
    · have hv : isIn v (szF (sN σ).1) = false := by simpa using hv
      rw [hv, if_pos pbf, if_neg (by decide)]
  · have hsz := g.gp.sz
    have h' := h.thr 0
    unfold m_X7_strip
    simp only [bd, gd_of iz7, y_noStrip h'.1 hsz.1 hsz.2, ca2]
    by_cases hv : isIn v (szF (sN σ).1) = true
    · obtain ⟨i, hi, rfl⟩ := isIn_t hv (by omega)
      rw [hv, if_pos (show bI (!true) = 0 from rfl), if_pos rfl, nI_clamp (by omega)]
      refine Eq.trans (y_strip_loop h'.1 (by omega) 4 0 FU rfl (by rw [FU_eq]; omega)) ?_
      unfold m_X7_strip_b43
      simp only [y_in, ca2, inL_of (n := 3) (by decide) (show (2 : Int64).toInt = ((3 : Nat) : Int) - 1 from rfl)]
      have o : ∀ k, k < 3 → m_X7_of SH 414 (nI i) (nI k) (sI μ 414 0 0) = some ((sN σ).1 (50 + 19 * i + k), sI μ 414 0 0) := fun k hk => y_of h'.1 (by omega)
      rcases w_lit w with rfl | rfl | rfl | rfl | hw
      · have o0 : m_X7_of SH 414 (nI i) 0 (sI μ 414 0 0) = _ := o 0 (by decide)
        rw [gd_of iz7, o0]
        rfl
      · have o0 : m_X7_of SH 414 (nI i) 1 (sI μ 414 0 0) = _ := o 1 (by decide)
        rw [gd_of iz7, o0]
        rfl
      · have o0 : m_X7_of SH 414 (nI i) 2 (sI μ 414 0 0) = _ := o 2 (by decide)
        rw [gd_of iz7, o0]
        rfl
      · rfl
      · have hne : ¬ w = 0 ∧ ¬ w = 1 ∧ ¬ w = 2 ∧ ¬ w = 3 := by
          refine ⟨?_, ?_, ?_, ?_⟩ <;> (rintro rfl; revert hw; decide)
        have hin : isIn w 3 = false := by
          rw [Bool.eq_false_iff]
          intro q
          have := (isIn_iff (by decide)).mp q
          rw [(isIn_iff (by decide)).mpr ⟨this.1, by omega⟩] at hw
          cases hw
        rw [hin, if_neg hne.2.2.2, if_pos pbf, if_neg hne.1, if_neg hne.2.1, if_neg hne.2.2.1, if_neg hne.2.2.2]
    · have hv : isIn v (szF (sN σ).1) = false := by simpa using hv
      rw [hv, if_neg (show ¬ bI (!false) = 0 by decide), if_neg (by decide)]
/-! eyes -/
def cntF (f : Nat → Int32) (p : Int32) (w : Nat) : Nat → Int32
  | 0 => 0
  | n + 1 => cntF f p w n + bI (decide ((cI f (n / 4) (n % 4) w >>> (p &&& 31)) &&& 1 = 1))
theorem and1 (x : Int32) : x &&& 1 = bI (decide (x &&& 1 = 1)) := by
  have : x &&& 1 = 0 ∨ x &&& 1 = 1 := by
    obtain ⟨j, hj, e⟩ := pk_andE x (m := 1) 1 rfl
    rcases (show j = 0 ∨ j = 1 by omega) with rfl | rfl
    · exact Or.inl e
    · exact Or.inr e
  rcases this with h | h
  · rw [h]; rfl
  · rw [h]; rfl
theorem lin {i l : Nat} (hl : l < 4) : (4 * i + l) / 4 = i ∧ (4 * i + l) % 4 = l := by omega
theorem x_lw_in {μ : Mu} {a i p w : Nat} {f : Nat → Int32} {k5 : Int32 → Int32 → Mu → Option (Int32 × Mu)} (h : SR μ a f) (hi : i < szF f) (hz : szF f ≤ 8) (hp : p < 5) (hw : w < 4) : ∀ (d l F : Nat), l + d = 4 → d < F → m_X4_looksWith_h24 SH k5 a (nI p) (nI w) (nI i) F (cntF f (nI p) w (4 * i + l)) (nI l) μ = k5 (cntF f (nI p) w (4 * (i + 1))) (nI (i + 1)) μ := by
  intro d
  induction d with
  | zero =>
    intro l F hl hF
    obtain ⟨F, rfl⟩ : ∃ g, F = g + 1 := ⟨F - 1, by omega⟩
    have e : l = 4 := by omega
    subst e
    show m_X4_looksWith_b24 SH k5 (m_X4_looksWith_h24 SH k5 a (nI p) (nI w) (nI i) F) a (nI p) (nI w) (cntF f (nI p) w (4 * i + 4)) (nI i) (nI 4) μ = _
    unfold m_X4_looksWith_b24 m_X4_looksWith_b59
    rw [if_pos (by decide)]
    simp only [bd]
    rw [nI_1]
    rfl
  | succ d ih =>
    intro l F hl hF
    obtain ⟨F, rfl⟩ : ∃ g, F = g + 1 := ⟨F - 1, by omega⟩
    show m_X4_looksWith_b24 SH k5 (m_X4_looksWith_h24 SH k5 a (nI p) (nI w) (nI i) F) a (nI p) (nI w) (cntF f (nI p) w (4 * i + l)) (nI i) (nI l) μ = _
    have ht := h.1.tpi (i := i) (by omega)
    have hr := h.2.2.2.2.2.2.1 i hi
    have kk := ih (l + 1) F (by omega) (by omega)
    rw [show 4 * i + (l + 1) = 4 * i + l + 1 by omega] at kk
    rw [show cntF f (nI p) w (4 * i + l + 1) = cntF f (nI p) w (4 * i + l) + bI (decide ((cI f ((4 * i + l) / 4) ((4 * i + l) % 4) w >>> (nI p &&& 31)) &&& 1 = 1)) from rfl, (lin (i := i) (l := l) (by omega)).1, (lin (i := i) (l := l) (by omega)).2] at kk
    unfold m_X4_looksWith_b24 m_X4_looksWith_b53
    simp only [bd, h.1.2.1]
    rw [if_neg (nleL 4 (by omega) (by decide)), gd_of h.1.iz, gd_of (h.1.ix1 (by omega)), nI_clamp (by omega), gd_of ht.iz, x_cell ht (by omega) hw]
    simp only [ca2]
    rw [hr.2.2.2 (4 * l + w) (by omega), x_has (isIn_nI hp (by decide))]
    simp only [nI_1]
    have ec : f (50 + 19 * i + 3 + (4 * l + w)) = cI f i l w := rfl
    rw [ec]
    by_cases c : (cI f i l w >>> (nI p &&& 31)) &&& 1 = 1
    · rw [decide_eq_true c] at kk ⊢
      rw [if_neg nbt]
      exact kk
    · rw [decide_eq_false c] at kk ⊢
      rw [if_pos pbf]
      rw [show cntF f (nI p) w (4 * i + l) + bI false = cntF f (nI p) w (4 * i + l) from by rw [pbf]; exact Int32.add_zero _] at kk
      exact kk
theorem x_lw_out {μ : Mu} {a k p w : Nat} {f : Nat → Int32} (h : SR μ a f) (hk : f 202 = nI k) (hk8 : k ≤ 8) (hp : p < 5) (hw : w < 4) : ∀ (d i F : Nat), i + d = k → d < F → m_X4_looksWith_h5 SH a (nI p) (nI w) F (cntF f (nI p) w (4 * i)) (nI i) μ = some (cntF f (nI p) w (4 * k), μ) := by
  have hz : szF f = k := by rw [szF, hk, nI_clamp (by omega)]
  have h4 : gI μ a 4 = nI k := h.2.2.2.2.1.trans hk
  intro d
  induction d with
  | zero =>
    intro i F hi hF
    obtain ⟨F, rfl⟩ : ∃ g, F = g + 1 := ⟨F - 1, by omega⟩
    have e : i = k := by omega
    subst e
    show m_X4_looksWith_b5 SH (m_X4_looksWith_h5 SH a (nI p) (nI w) F) a (nI p) (nI w) (cntF f (nI p) w (4 * i)) (nI i) μ = _
    unfold m_X4_looksWith_b5
    rw [gd_of h.1.iz, h4, if_pos (Int32.le_refl _)]
  | succ d ih =>
    intro i F hi hF
    obtain ⟨F, rfl⟩ : ∃ g, F = g + 1 := ⟨F - 1, by omega⟩
    show m_X4_looksWith_b5 SH (m_X4_looksWith_h5 SH a (nI p) (nI w) F) a (nI p) (nI w) (cntF f (nI p) w (4 * i)) (nI i) μ = _
    unfold m_X4_looksWith_b5
    rw [gd_of h.1.iz, h4, if_neg (nle_nI (by omega) (by omega)), if_neg (nleL 8 (by omega) (by decide))]
    refine Eq.trans (x_lw_in h (by omega) (by omega) hp hw 4 0 FU rfl (by rw [FU_eq]; omega)) ?_
    exact ih (i + 1) F (by omega) (by omega)
theorem y_ey_in {μ : Mu} {i p w : Nat} {v : Int32} {f : Nat → Int32} {k33 : Int32 → Int32 → Mu → Option (Int32 × Mu)} (h : MR μ f) (hi : i < 8) (hw : (v = 0 ∧ w = 1) ∨ (v = 1 ∧ w = 3)) : ∀ (d l F : Nat), l + d = 4 → d < F → m_X7_eyes_h49 SH k33 414 (nI p) v (nI i) F (cntF f (nI p) w (4 * i + l)) (nI l) μ = k33 (cntF f (nI p) w (4 * (i + 1))) (nI (i + 1)) μ := by
  intro d
  induction d with
  | zero =>
    intro l F hl hF
    obtain ⟨F, rfl⟩ : ∃ g, F = g + 1 := ⟨F - 1, by omega⟩
    have e : l = 4 := by omega
    subst e
    show m_X7_eyes_b49 SH k33 (m_X7_eyes_h49 SH k33 414 (nI p) v (nI i) F) 414 (nI p) v (cntF f (nI p) w (4 * i + 4)) (nI i) (nI 4) μ = _
    unfold m_X7_eyes_b49 m_X7_eyes_b85
    rw [if_pos (by decide)]
    simp only [bd]
    rw [nI_1]
    rfl
  | succ d ih =>
    intro l F hl hF
    obtain ⟨F, rfl⟩ : ∃ g, F = g + 1 := ⟨F - 1, by omega⟩
    show m_X7_eyes_b49 SH k33 (m_X7_eyes_h49 SH k33 414 (nI p) v (nI i) F) 414 (nI p) v (cntF f (nI p) w (4 * i + l)) (nI i) (nI l) μ = _
    have kk := ih (l + 1) F (by omega) (by omega)
    rw [show 4 * i + (l + 1) = 4 * i + l + 1 by omega] at kk
    rw [show cntF f (nI p) w (4 * i + l + 1) = cntF f (nI p) w (4 * i + l) + bI (decide ((cI f ((4 * i + l) / 4) ((4 * i + l) % 4) w >>> (nI p &&& 31)) &&& 1 = 1)) from rfl, (lin (i := i) (l := l) (by omega)).1, (lin (i := i) (l := l) (by omega)).2, ← and1] at kk
    unfold m_X7_eyes_b49 m_X7_eyes_b70
    simp only [bd]
    rw [if_neg (nleL 4 (by omega) (by decide))]
    rcases hw with ⟨rfl, rfl⟩ | ⟨rfl, rfl⟩
    · have e : m_X7_lookOf SH 414 (nI i) (nI l) 1 μ = some (f (50 + 19 * i + (3 + 4 * l + 1)), μ) := y_lookOf (w := 1) h (by omega)
      rw [if_pos rfl, gd_of iz7, e]
      simp only [ca2, nI_1]
      rw [show 50 + 19 * i + (3 + 4 * l + 1) = 50 + 19 * i + 3 + (4 * l + 1) by omega]
      exact kk
    · have e : m_X7_lookOf SH 414 (nI i) (nI l) 3 μ = some (f (50 + 19 * i + (3 + 4 * l + 3)), μ) := y_lookOf (w := 3) h (by omega)
      rw [if_neg (by decide), gd_of iz7, e]
      simp only [ca2, nI_1]
      rw [show 50 + 19 * i + (3 + 4 * l + 3) = 50 + 19 * i + 3 + (4 * l + 3) by omega]
      exact kk
theorem y_ey_out {μ : Mu} {k p w : Nat} {v : Int32} {f : Nat → Int32} (h : MR μ f) (hk : f 202 = nI k) (hk8 : k ≤ 8) (hw : (v = 0 ∧ w = 1) ∨ (v = 1 ∧ w = 3)) : ∀ (d i F : Nat), i + d = k → d < F → m_X7_eyes_h33 SH 414 (nI p) v F (cntF f (nI p) w (4 * i)) (nI i) μ = some (cntF f (nI p) w (4 * k), μ) := by
  intro d
  induction d with
  | zero =>
    intro i F hi hF
    obtain ⟨F, rfl⟩ : ∃ g, F = g + 1 := ⟨F - 1, by omega⟩
    have e : i = k := by omega
    subst e
    show m_X7_eyes_b33 SH (m_X7_eyes_h33 SH 414 (nI p) v F) 414 (nI p) v (cntF f (nI p) w (4 * i)) (nI i) μ = _
    unfold m_X7_eyes_b33
    simp only [bd, h.1.pg]
    rw [gd_of iz7, gd_of ixL202, c202, h.2 202 (by decide), hk, if_pos (Int32.le_refl _)]
  | succ d ih =>
    intro i F hi hF
    obtain ⟨F, rfl⟩ : ∃ g, F = g + 1 := ⟨F - 1, by omega⟩
    show m_X7_eyes_b33 SH (m_X7_eyes_h33 SH 414 (nI p) v F) 414 (nI p) v (cntF f (nI p) w (4 * i)) (nI i) μ = _
    unfold m_X7_eyes_b33
    simp only [bd, h.1.pg]
    rw [gd_of iz7, gd_of ixL202, c202, h.2 202 (by decide), hk, if_neg (nle_nI (by omega) (by omega))]
    refine Eq.trans (y_ey_in h (by omega) hw 4 0 FU rfl (by rw [FU_eq]; omega)) ?_
    exact ih (i + 1) F (by omega) (by omega)
theorem op_eyes (v w : Int32) : OpI (m_X6_eyes SH 1 v w) (m_X7_eyes SH 414 v w) := by
  refine OpI.ro (fun σ => if isIn v (pP (sP σ)) = true then (if w = 0 then cntF (sN σ).1 v 1 (4 * szF (sN σ).1) else if w = 1 then cntF (sN σ).1 v 3 (4 * szF (sN σ).1) else -2) else -1) (fun μ σ c h g hc => ?_) (fun μ σ c h g hc => ?_)
  · have h5 := g.pv.2.2.1
    have hsz := g.gp.sz
    unfold m_X6_eyes
    simp only [bd, h.1.now, gd_of iz6, gd_of h.pr.1.iz, gd_of iz411, x_hasPerson h.pr g.pv, ca2_s]
    by_cases hv : isIn v (pP (sP σ)) = true
    · obtain ⟨p, hp, rfl⟩ := isIn_t hv (by omega)
      have e1 : m_X4_looksWith SH 11 (nI p) 1 μ = some (cntF (sN σ).1 (nI p) 1 (4 * szF (sN σ).1), μ) := x_lw_out (w := 1) h.sr hsz.1 hsz.2 (by omega) (by decide) (szF (sN σ).1) 0 FU (by omega) (by rw [FU_eq]; omega)
      have e3 : m_X4_looksWith SH 11 (nI p) 3 μ = some (cntF (sN σ).1 (nI p) 3 (4 * szF (sN σ).1), μ) := x_lw_out (w := 3) h.sr hsz.1 hsz.2 (by omega) (by decide) (szF (sN σ).1) 0 FU (by omega) (by rw [FU_eq]; omega)
      rw [hv, if_neg nbt, if_pos rfl, e1, e3]
      simp only [ca2_s]
      repeat' split
      all_goals rfl
    · have hv : isIn v (pP (sP σ)) = false := by simpa using hv
      rw [hv, if_pos pbf, if_neg (by decide)]
  · have h5 := g.pv.2.2.1
    have hsz := g.gp.sz
    have h' := h.thr 0
    unfold m_X7_eyes
    simp only [bd, gd_of iz7, y_noOne h'.2.2.2.1 g.pv, ca2, y_in, inL_of (n := 2) (by decide) (show (1 : Int64).toInt = ((2 : Nat) : Int) - 1 from rfl)]
    by_cases hv : isIn v (pP (sP σ)) = true
    · obtain ⟨p, hp, rfl⟩ := isIn_t hv (by omega)
      rw [hv, if_pos (show bI (!true) = 0 from rfl), if_pos rfl]
      by_cases h0 : w = 0
      · subst h0
        rw [show isIn (0 : Int32) 2 = true from by decide, if_neg nbt, if_pos rfl]
        exact y_ey_out (w := 1) h'.1 hsz.1 hsz.2 (Or.inl ⟨rfl, rfl⟩) (szF (sN σ).1) 0 FU (by omega) (by rw [FU_eq]; omega)
      · by_cases h1 : w = 1
        · subst h1
          rw [show isIn (1 : Int32) 2 = true from by decide, if_neg nbt, if_neg h0, if_pos rfl]
          exact y_ey_out (w := 3) h'.1 hsz.1 hsz.2 (Or.inr ⟨rfl, rfl⟩) (szF (sN σ).1) 0 FU (by omega) (by rw [FU_eq]; omega)
        · have : isIn w 2 = false := by
            rw [Bool.eq_false_iff]
            intro q
            obtain ⟨i, hi, rfl⟩ := isIn_t q (by decide)
            rcases (show i = 0 ∨ i = 1 by omega) with rfl | rfl
            · exact h0 rfl
            · exact h1 rfl
          rw [this, if_pos pbf, if_neg h0, if_neg h1]
    · have hv : isIn v (pP (sP σ)) = false := by simpa using hv
      rw [hv, if_neg (show ¬ bI (!false) = 0 by decide), if_neg (by decide)]

/-! rows: the reference goes through all -/
def SO (μ0 μ : Mu) : Prop := (∀ b k, b < 430 → (b ≠ 414 ∨ k ≠ 27) → gI μ b k = gI μ0 b k) ∧ (∀ b k, gJ μ b k = gJ μ0 b k) ∧ ∀ b k, gR μ b k = gR μ0 b k
theorem SO.rf {μ : Mu} : SO μ μ := ⟨fun _ _ _ _ => rfl, fun _ _ => rfl, fun _ _ => rfl⟩
theorem SO.w {μ0 μ : Mu} {a k : Nat} {v : Int32} (h : SO μ0 μ) (ha : 430 ≤ a) : SO μ0 (sI μ a k v) := ⟨fun b j hb hj => by rw [gI_o (by omega)]; exact h.1 b j hb hj, fun b j => h.2.1 b j, fun b j => h.2.2 b j⟩
theorem SO.c {μ0 μ : Mu} {v : Int32} (h : SO μ0 μ) : SO μ0 (sI μ 414 27 v) := ⟨fun b j hb hj => by
  rw [← h.1 b j hb hj, gI_sI]
  by_cases e : b = 414
  · subst e; rw [if_pos rfl, if_neg (by omega)]
  · rw [if_neg e], fun b j => h.2.1 b j, fun b j => h.2.2 b j⟩
theorem SO.mr {μ0 μ : Mu} {f : Nat → Int32} (h : SO μ0 μ) (hm : MR μ0 f) : MR μ f := ⟨hm.1.mono (fun k => h.2.2 414 k), fun k hk => by rw [h.1 422 k (by decide) (Or.inl (by decide))]; exact hm.2 k hk⟩
theorem M_26 {μ : Mu} (h : Mp μ) : gR μ 414 26 = 430 := h.2.2.2.2.2.2.2.2.2.2.2.2.2.2.2.1
theorem M_28 {μ : Mu} (h : Mp μ) : gR μ 414 28 = 431 := h.2.2.2.2.2.2.2.2.2.2.2.2.2.2.2.2
/-- the order that is laid -/
def OR (μ : Mu) (p : List Nat) : Prop := ∀ i x, p[i]? = some x → gI μ 430 i = nI x
theorem at_lt {p : List Nat} {i x : Nat} (h : p[i]? = some x) : i < p.length := by
  rcases Nat.lt_or_ge i p.length with q | q
  · exact q
  · rw [List.getElem?_eq_none q] at h; cases h
theorem OR.w {μ : Mu} {p : List Nat} {k : Nat} {v : Int32} (h : OR μ p) (hk : p.length ≤ k) : OR (sI μ 430 k v) p := fun i x hx => by
  have := at_lt hx
  rw [gI_k (by omega)]
  exact h i x hx
theorem OR.o {μ : Mu} {p : List Nat} {a k : Nat} {v : Int32} (h : OR μ p) (ha : a ≠ 430) : OR (sI μ a k v) p := fun i x hx => by
  rw [gI_o (fun e => ha e.symm)]
  exact h i x hx
theorem at_l {p m : List Nat} {c : Nat} : (p ++ c :: m)[p.length]? = some c := by
  rw [List.getElem?_append_right (Nat.le_refl _), Nat.sub_self]
  rfl
theorem OR.sn {μ : Mu} {p : List Nat} {c : Nat} (h : OR μ p) (hc : gI μ 430 p.length = nI c) : OR μ (p ++ [c]) := fun i x hx => by
  have l := at_lt hx
  rw [List.length_append] at l
  have l1 : ([c] : List Nat).length = 1 := rfl
  by_cases e : i = p.length
  · subst e
    rw [at_l] at hx
    injection hx with hx
    rw [hc, hx]
  · rw [List.getElem?_append_left (by omega)] at hx
    exact h i x hx
theorem OR.pre {μ : Mu} {p : List Nat} {c : Nat} (h : OR μ (p ++ [c])) : OR μ p ∧ gI μ 430 p.length = nI c := ⟨fun i x hx => h i x (by rw [List.getElem?_append_left (at_lt hx)]; exact hx), h _ _ at_l⟩
theorem y_fit_loop {μ : Mu} {p : List Nat} {c : Nat} (h : Mp μ) (hO : OR μ p) (h6 : p.length ≤ 6) (hc : c < 6) (hlt : ∀ x, x ∈ p → x < 6) : ∀ (m l : List Nat) (F : Nat), p = l ++ m → m.length < F → m_X7_fits_h5 SH 414 (nI p.length) (nI c) F (bI (l.all (fun y => !decide (c = y)))) (nI l.length) μ = m_X7_fits_b38 SH 414 (nI p.length) (nI c) (bI (p.all (fun y => !decide (c = y)))) μ
  | [], l, F, hp, hF => by
    obtain ⟨F, rfl⟩ : ∃ g, F = g + 1 := ⟨F - 1, by omega⟩
    rw [List.append_nil] at hp
    subst hp
    show m_X7_fits_b5 SH (m_X7_fits_h5 SH 414 (nI p.length) (nI c) F) 414 (nI p.length) (nI c) _ (nI p.length) μ = _
    have q : (nI p.length ≤ nI p.length) = True := eq_true (nI_le (by omega) (by omega))
    simp only [bd_n, gd_n, ca2_n, ca_n, nbtF, pbfT, Bool.not_true, Bool.not_false, if_true, if_false, m_X7_fits_b5, q]
  | y :: m, l, F, hp, hF => by
    obtain ⟨F, rfl⟩ : ∃ g, F = g + 1 := ⟨F - 1, by omega⟩
    have len : p.length = l.length + (m.length + 1) := by rw [hp, List.length_append, List.length_cons]
    have q : (nI p.length ≤ nI l.length) = False := eq_false (nle_nI (by omega) (by omega))
    have ih := y_fit_loop h hO h6 hc hlt m (l ++ [y]) F (by rw [hp, List.append_assoc]; rfl) (by rw [List.length_cons] at hF; omega)
    have e1 : (l ++ [y]).all (fun y => !decide (c = y)) = (l.all (fun y => !decide (c = y)) && !decide (c = y)) := by
      rw [List.all_append]
      show (_ && (!decide (c = y) && true)) = _
      rw [Bool.and_true]
    have e2 : (l ++ [y]).length = l.length + 1 := by rw [List.length_append]; rfl
    rw [e1, e2] at ih
    show m_X7_fits_b5 SH (m_X7_fits_h5 SH 414 (nI p.length) (nI c) F) 414 (nI p.length) (nI c) _ (nI l.length) μ = _
    cases ha : l.all (fun y => !decide (c = y)) with
    | false =>
      rw [ha, Bool.false_and] at ih
      simp only [bd_n, gd_n, ca2_n, ca_n, nbtF, pbfT, Bool.not_true, Bool.not_false, if_true, if_false, m_X7_fits_b5, q, m_X7_fits_b30, m_X7_fits_b31, show nI l.length + 1 = nI (l.length + 1) from nI_add _ 1]
      exact ih
    | true =>
      rw [ha, Bool.true_and] at ih
      have g1 : gI μ 430 l.length = nI y := hO _ _ (by rw [hp]; exact at_l)
      have x1 : ix SH 8 430 (nI l.length) = true := ix_of (n := 6) rfl (by omega) (by decide)
      have y6 := hlt y (by rw [hp]; simp)
      by_cases e : c = y
      · have t : (nI y = nI c) = True := eq_true (by rw [e])
        rw [decide_eq_true e] at ih
        simp only [bd_n, gd_n, ca2_n, ca_n, nbtF, pbfT, Bool.not_true, Bool.not_false, if_true, if_false, m_X7_fits_b5, q, iz7, M_26 h, x1, nI_clamp (show l.length < 2 ^ 31 by omega), g1, t, m_X7_fits_b30, m_X7_fits_b31, show nI l.length + 1 = nI (l.length + 1) from nI_add _ 1]
        exact ih
      · have t : (nI y = nI c) = False := eq_false (fun z => e ((nI_eq (by omega) (by omega)).mp z).symm)
        rw [decide_eq_false e] at ih
        simp only [bd_n, gd_n, ca2_n, ca_n, nbtF, pbfT, Bool.not_true, Bool.not_false, if_true, if_false, m_X7_fits_b5, q, iz7, M_26 h, x1, nI_clamp (show l.length < 2 ^ 31 by omega), g1, t, m_X7_fits_b31, show nI l.length + 1 = nI (l.length + 1) from nI_add _ 1]
        exact ih
theorem y_hat2 {r7 r9 : Int32} {μ : Mu} : (if r7 = (-9) then m_X7_fits_b92 SH μ else if r9 = (-9) then m_X7_fits_b92 SH μ else if r7 = r9 then m_X7_fits_b92 SH μ else some (0, μ)) = some (bI (hOK r7 r9), μ) := by
  unfold hOK m_X7_fits_b92
  by_cases h1 : r7 = -9
  · rw [if_pos h1, decide_eq_true h1, Bool.true_or]; rfl
  · rw [if_neg h1, decide_eq_false h1, Bool.false_or]
    by_cases h2 : r9 = -9
    · rw [if_pos h2, decide_eq_true h2, Bool.true_or]; rfl
    · rw [if_neg h2, decide_eq_false h2, Bool.false_or]
      by_cases h3 : r7 = r9
      · rw [if_pos h3, decide_eq_true h3]; rfl
      · rw [if_neg h3, decide_eq_false h3]; rfl
theorem snoc_ex {α : Type} : ∀ (p : List α), p = [] ∨ ∃ l a, p = l ++ [a]
  | [] => Or.inl rfl
  | a :: p => Or.inr (by
    rcases snoc_ex p with e | ⟨l, b, e⟩
    · exact ⟨[], a, by rw [e]; rfl⟩
    · exact ⟨a :: l, b, by rw [e]; rfl⟩)
theorem y_fits {μ : Mu} {f : Nat → Int32} {p : List Nat} {n c : Nat} (h : MR μ f) (hO : OR μ p) (hn : n ≤ 6) (h6 : p.length ≤ 6) (hc : c < n) (hV : Vr (fE f) (Fn n) p = true) : m_X7_fits SH 414 (nI p.length) (nI c) μ = some (bI (Vr (fE f) (Fn n) (p ++ [c])), μ) := by
  have hlt : ∀ x, x ∈ p → x < 6 := fun x hx => by have := Fn_i.mp (Vr_mem hV hx); omega
  have e := y_fit_loop h.1 hO h6 (show c < 6 by omega) hlt p [] FU rfl (by rw [FU_eq]; omega)
  have v : Vr (fE f) (Fn n) (p ++ [c]) = (p.all (fun y => !decide (c = y)) && lc (fE f) c p) := by
    rw [Vr_sn2, hV, rs_nin, Fn_i.mpr hc, Bool.true_and, Bool.true_and]
  rw [v]
  have e' : m_X7_fits SH 414 (nI p.length) (nI c) μ = m_X7_fits_b38 SH 414 (nI p.length) (nI c) (bI (p.all (fun y => !decide (c = y)))) μ := e
  rw [e']
  rcases snoc_ex p with q | ⟨l, a, q⟩
  · subst q
    have z : (nI ([] : List Nat).length ≤ 0) = True := eq_true (by decide)
    simp only [bd_n, gd_n, ca2_n, ca_n, nbtF, pbfT, Bool.not_true, Bool.not_false, if_true, if_false, m_X7_fits_b38, z, b_and1]
    rfl
  · have len : p.length = l.length + 1 := by rw [q, List.length_append]; rfl
    have z : (nI p.length ≤ 0) = False := eq_false (nI_nle (by omega) (by omega))
    have lc' : lc (fE f) c p = fE f a c := by rw [q, lc_last]
    rw [lc']
    cases ha : p.all (fun y => !decide (c = y)) with
    | false =>
      simp only [bd_n, gd_n, ca2_n, ca_n, nbtF, pbfT, Bool.not_true, Bool.not_false, if_true, if_false, m_X7_fits_b38, z]
      rfl
    | true =>
      have g1 : gI μ 430 l.length = nI a := hO _ _ (by rw [q]; exact at_l)
      have a6 := hlt a (by rw [q]; simp)
      have pr : (nI p.length - 1 : Int32) = nI l.length := by rw [len]; exact nI_pred _
      have x1 : ix SH 8 430 (nI l.length) = true := ix_of (n := 6) rfl (by omega) (by decide)
      have l1 : m_X7_lookOf SH 414 (nI a) 3 2 μ = some (cI f a 3 2, μ) := y_lookOf (l := 3) (w := 2) h (by omega)
      have l2 : m_X7_lookOf SH 414 (nI c) 0 2 μ = some (cI f c 0 2, μ) := y_lookOf (l := 0) (w := 2) h (by omega)
      simp only [bd_n, gd_n, ca2_n, ca_n, nbtF, pbfT, Bool.not_true, Bool.not_false, if_true, if_false, m_X7_fits_b38, z, iz7, M_26 h.1, pr, x1, nI_clamp (show l.length < 2 ^ 31 by omega), g1, l1, l2, y_hat2]
      rw [Bool.true_and]
      rfl
theorem y_search {μ : Mu} {f : Nat → Int32} {p : List Nat} {n : Nat} (h : MR μ f) (hO : OR μ p) (hn : n ≤ 6) (h6 : p.length ≤ 6) (hV : Vr (fE f) (Fn n) p = true) : ∀ (d s F : Nat), s + d = n → d < F → ∃ c, s ≤ c ∧ c ≤ n ∧ (∀ x, s ≤ x → x < c → Vr (fE f) (Fn n) (p ++ [x]) = false) ∧ (c < n → Vr (fE f) (Fn n) (p ++ [c]) = true) ∧ ∀ k55 : Int32 → Mu → Option Mu, m_X7_layOrders_h83 SH k55 414 (nI n) (nI p.length) F (nI s) μ = m_X7_layOrders_b103 SH k55 414 (nI n) (nI p.length) (nI c) μ := by
  intro d
  induction d with
  | zero =>
    intro s F hs hF
    obtain ⟨F, rfl⟩ : ∃ g, F = g + 1 := ⟨F - 1, by omega⟩
    refine ⟨s, Nat.le_refl s, by omega, fun x h1 h2 => absurd h1 (by omega), fun q => absurd q (by omega), fun k55 => ?_⟩
    show m_X7_layOrders_b83 SH k55 (m_X7_layOrders_h83 SH k55 414 (nI n) (nI p.length) F) 414 (nI n) (nI p.length) (nI s) μ = _
    have q : (nI n ≤ nI s) = True := eq_true (nI_le (by omega) (by omega))
    simp only [bd_n, gd_n, ca2_n, ca_n, nbtF, pbfT, Bool.not_true, Bool.not_false, if_true, if_false, m_X7_layOrders_b83, q]
  | succ d ih =>
    intro s F hs hF
    obtain ⟨F, rfl⟩ : ∃ g, F = g + 1 := ⟨F - 1, by omega⟩
    have q : (nI n ≤ nI s) = False := eq_false (nle_nI (by omega) (by omega))
    have ft := y_fits h hO hn h6 (show s < n by omega) hV
    cases hb : Vr (fE f) (Fn n) (p ++ [s]) with
    | false =>
      rw [hb] at ft
      obtain ⟨c, c1, c2, c3, c4, c5⟩ := ih (s + 1) F (by omega) (by omega)
      refine ⟨c, by omega, c2, fun x h1 h2 => ?_, c4, fun k55 => ?_⟩
      · by_cases e : x = s
        · rw [e]; exact hb
        · exact c3 x (by omega) h2
      · show m_X7_layOrders_b83 SH k55 (m_X7_layOrders_h83 SH k55 414 (nI n) (nI p.length) F) 414 (nI n) (nI p.length) (nI s) μ = _
        simp only [bd_n, gd_n, ca2_n, ca_n, nbtF, pbfT, Bool.not_true, Bool.not_false, if_true, if_false, m_X7_layOrders_b83, q, iz7, ft, show nI s + 1 = nI (s + 1) from nI_add _ 1]
        exact c5 k55
    | true =>
      rw [hb] at ft
      refine ⟨s, Nat.le_refl s, by omega, fun x h1 h2 => absurd h1 (by omega), fun _ => hb, fun k55 => ?_⟩
      show m_X7_layOrders_b83 SH k55 (m_X7_layOrders_h83 SH k55 414 (nI n) (nI p.length) F) 414 (nI n) (nI p.length) (nI s) μ = _
      simp only [bd_n, gd_n, ca2_n, ca_n, nbtF, pbfT, Bool.not_true, Bool.not_false, if_true, if_false, m_X7_layOrders_b83, q, iz7, ft]
def PL (μ : Mu) (Q : Nat → Nat → Prop) : Prop := ∀ t, t < 6 → ∃ m, m < 64 ∧ gI μ 431 t = nI m ∧ ∀ j, hasB m j = true ↔ Q t j
theorem PL.cg {μ : Mu} {Q Q2 : Nat → Nat → Prop} (h : PL μ Q) (e : ∀ t j, t < 6 → (Q t j ↔ Q2 t j)) : PL μ Q2 := fun t ht => by
  obtain ⟨m, h1, h2, h3⟩ := h t ht
  exact ⟨m, h1, h2, fun j => (h3 j).trans (e t j ht)⟩
theorem PL.o {μ : Mu} {Q : Nat → Nat → Prop} {a k : Nat} {v : Int32} (h : PL μ Q) (ha : a ≠ 431) : PL (sI μ a k v) Q := fun t ht => by
  obtain ⟨m, h1, h2, h3⟩ := h t ht
  exact ⟨m, h1, by rw [gI_o (fun e => ha e.symm)]; exact h2, h3⟩
theorem y_lay {μ0 : Mu} {f : Nat → Int32} {p : List Nat} {n : Nat} {w : Int32} (hM : MR μ0 f) (hn : n ≤ 6) (len : p.length = n) (hlt : ∀ x, x ∈ p → x < 6) : ∀ (d i F : Nat) (μ : Mu) (Q : Nat → Nat → Prop), i + d = n → d < F → SO μ0 μ → OR μ p → PL μ Q → ∃ μ', (∀ k55 : Int32 → Mu → Option Mu, m_X7_layOrders_h141 SH k55 414 (nI n) w F (nI i) μ = k55 w μ') ∧ SO μ0 μ' ∧ OR μ' p ∧ gI μ' 414 27 = gI μ 414 27 ∧ PL μ' (fun t j => Q t j ∨ (i ≤ j ∧ p[j]? = some t)) := by
  intro d
  induction d with
  | zero =>
    intro i F μ Q hi hF hS hO hP
    obtain ⟨F, rfl⟩ : ∃ g, F = g + 1 := ⟨F - 1, by omega⟩
    refine ⟨μ, fun k55 => ?_, hS, hO, rfl, hP.cg (fun t j ht => ⟨Or.inl, fun q => q.elim id (fun z => absurd (at_lt z.2) (by omega))⟩)⟩
    show m_X7_layOrders_b141 SH k55 (m_X7_layOrders_h141 SH k55 414 (nI n) w F) 414 (nI n) w (nI i) μ = _
    have q : (nI n ≤ nI i) = True := eq_true (nI_le (by omega) (by omega))
    simp only [bd_n, gd_n, ca2_n, ca_n, nbtF, pbfT, Bool.not_true, Bool.not_false, if_true, if_false, m_X7_layOrders_b141, q, m_X7_layOrders_b172, m_X7_layOrders_b186]
  | succ d ih =>
    intro i F μ Q hi hF hS hO hP
    obtain ⟨F, rfl⟩ : ∃ g, F = g + 1 := ⟨F - 1, by omega⟩
    have mr := hS.mr hM
    have q : (nI n ≤ nI i) = False := eq_false (nle_nI (by omega) (by omega))
    obtain ⟨y, hy⟩ : ∃ y, p[i]? = some y := ⟨p[i]'(by omega), List.getElem?_eq_getElem (by omega)⟩
    have y6 := hlt y (List.mem_of_getElem? hy)
    have g1 := hO i y hy
    obtain ⟨m, m1, m2, m3⟩ := hP y y6
    have x1 : ix SH 8 430 (nI i) = true := ix_of (n := 6) rfl (by omega) (by decide)
    have x2 : ix SH 8 431 (nI y) = true := ix_of (n := 6) rfl y6 (by decide)
    have sh := (sh_m i (by omega)).1
    have k6 : 2 ^ i < 2 ^ 6 := Nat.pow_lt_pow_right (by decide) (by omega)
    obtain ⟨μ', e1, e2, e3, e4, e5⟩ := ih (i + 1) F (sI μ 431 y (nI (m ||| 2 ^ i))) (fun t j => Q t j ∨ (j = i ∧ p[j]? = some t)) (by omega) (by omega) (hS.w (by decide)) (hO.o (by decide)) (fun t ht => by
      by_cases e : t = y
      · subst e
        refine ⟨m ||| 2 ^ i, Nat.or_lt_two_pow (n := 6) m1 k6, gI_w, fun j => ?_⟩
        rw [hasB_tb, Nat.testBit_or, ← hasB_tb, ← hasB_tb, two_bit, Bool.or_eq_true, m3 j, decide_eq_true_eq]
        constructor
        · rintro (z | z)
          · exact Or.inl z
          · exact Or.inr ⟨z, by rw [z]; exact hy⟩
        · rintro (z | z)
          · exact Or.inl z
          · exact Or.inr z.1
      · obtain ⟨m', w1, w2, w3⟩ := hP t ht
        refine ⟨m', w1, by rw [gI_k e]; exact w2, fun j => (w3 j).trans ⟨Or.inl, fun z => z.elim id (fun z => ?_)⟩⟩
        rw [z.1, hy] at z
        exact absurd (Option.some.inj z.2).symm e)
    refine ⟨μ', fun k55 => ?_, e2, e3, by rw [e4, gI_o (by decide)], e5.cg (fun t j ht => ?_)⟩
    · show m_X7_layOrders_b141 SH k55 (m_X7_layOrders_h141 SH k55 414 (nI n) w F) 414 (nI n) w (nI i) μ = _
      simp only [bd_n, gd_n, ca2_n, ca_n, nbtF, pbfT, Bool.not_true, Bool.not_false, if_true, if_false, m_X7_layOrders_b141, q, iz7, M_28 mr.1, M_26 mr.1, x1, nI_clamp (show i < 2 ^ 31 by omega), g1, x2, nI_clamp (show y < 2 ^ 31 by omega), m2, sh, fa_or, show nI i + 1 = nI (i + 1) from nI_add _ 1]
      exact e1 k55
    · constructor
      · rintro ((z | z) | z)
        · exact Or.inl z
        · exact Or.inr ⟨by omega, z.2⟩
        · exact Or.inr ⟨by omega, z.2⟩
      · rintro (z | z)
        · exact Or.inl (Or.inl z)
        · by_cases e : j = i
          · exact Or.inl (Or.inr ⟨e, z.2⟩)
          · exact Or.inr ⟨by omega, z.2⟩

/-! rows: the search, from a row's beginning on -/
def Lq : Nat → Nat
  | 0 => 0
  | r + 1 => 1 + (r + 1) * (1 + Lq r)
def us (n : Nat) (p : List Nat) (s : Nat) : Nat := cn (fun c => decide (s ≤ c) && rs (Fn n) p c) n
def cq (E : Nat → Nat → Bool) (n r : Nat) (p : List Nat) (s c : Nat) : Nat := if s ≤ c then sL_ n r (fun xs => bn (Vr E (Fn n) (p ++ c :: xs))) else 0
def cQ (E : Nat → Nat → Bool) (n r : Nat) (p : List Nat) (s : Nat) : Nat := fb_sm (cq E n r p s) n
/-- a row behind p whose next is s or more -/
def nQ (E : Nat → Nat → Bool) (n r : Nat) (p : List Nat) (s t j : Nat) : Prop := ∃ c xs, s ≤ c ∧ c < n ∧ xs.length = r ∧ Vr E (Fn n) (p ++ c :: xs) = true ∧ (p ++ c :: xs)[j]? = some t
theorem app_c {p xs : List Nat} {c : Nat} : p ++ c :: xs = (p ++ [c]) ++ xs := by rw [List.append_assoc]; rfl
theorem Vr_dead {E : Nat → Nat → Bool} {n c : Nat} {p xs : List Nat} (h : Vr E (Fn n) (p ++ [c]) = false) : Vr E (Fn n) (p ++ c :: xs) = false := by
  cases hb : Vr E (Fn n) (p ++ c :: xs) with
  | false => rfl
  | true =>
    rw [app_c] at hb
    rw [Vr_pre hb] at h
    cases h
theorem cq_dead {E : Nat → Nat → Bool} {n r s c : Nat} {p : List Nat} (h : Vr E (Fn n) (p ++ [c]) = false) : cq E n r p s c = 0 := by
  unfold cq
  split
  · exact sL_0 (fun xs _ => by rw [Vr_dead h]; rfl)
  · rfl
theorem us_st {E : Nat → Nat → Bool} {n s c : Nat} {p : List Nat} (hs : s ≤ c) (hc : c < n) (hV : Vr E (Fn n) (p ++ [c]) = true) : us n p (c + 1) + 1 ≤ us n p s := by
  rw [Vr_sn2, Bool.and_eq_true, Bool.and_eq_true] at hV
  have r := hV.2.1
  unfold us
  rw [← cn_er (X := fun x => decide (s ≤ x) && rs (Fn n) p x) (j := c) (by show (decide (s ≤ c) && rs (Fn n) p c) = true; rw [decide_eq_true hs, r]; rfl) hc]
  refine Nat.add_le_add_right (cn_mono (fun i _ h => ?_)) 1
  rw [Bool.and_eq_true, decide_eq_true_eq] at h
  rw [er_n (by omega), Bool.and_eq_true, decide_eq_true_eq]
  exact ⟨by omega, h.2⟩
theorem us_0 {E : Nat → Nat → Bool} {n : Nat} {p : List Nat} (hV : Vr E (Fn n) p = true) : us n p 0 + p.length = n := by
  have := rs_cn (n := n) hV (fun x hx => Fn_i.mp hx)
  rw [Fn_cn n n (Nat.le_refl n)] at this
  unfold us
  rw [cn_cg (Y := rs (Fn n) p) (fun i _ => by rw [decide_eq_true (Nat.zero_le i), Bool.true_and])]
  exact this
theorem cQ_st {E : Nat → Nat → Bool} {n r s c : Nat} {p : List Nat} (hs : s ≤ c) (hc : c < n) (hd : ∀ x, s ≤ x → x < c → Vr E (Fn n) (p ++ [x]) = false) : cQ E n r p s = sL_ n r (fun xs => bn (Vr E (Fn n) (p ++ c :: xs))) + cQ E n r p (c + 1) := by
  unfold cQ
  have u := fb_sm_upd (cq E n r p (c + 1)) (sL_ n r (fun xs => bn (Vr E (Fn n) (p ++ c :: xs)))) (i := c) (n := n) hc
  have z : cq E n r p (c + 1) c = 0 := if_neg (by omega)
  rw [z, Nat.add_zero] at u
  rw [Nat.add_comm, ← u]
  refine fb_sm_cong (fun x hx => ?_)
  by_cases e : x = c
  · rw [if_pos e, e]
    exact if_pos hs
  · rw [if_neg e]
    by_cases l : x < c
    · have q : cq E n r p (c + 1) x = 0 := if_neg (by omega)
      rw [q]
      by_cases l2 : s ≤ x
      · exact cq_dead (hd x l2 l)
      · exact if_neg l2
    · unfold cq
      rw [if_pos (show s ≤ x by omega), if_pos (show c + 1 ≤ x by omega)]
theorem cQ_0 {E : Nat → Nat → Bool} {n r s : Nat} {p : List Nat} (hd : ∀ x, s ≤ x → x < n → Vr E (Fn n) (p ++ [x]) = false) : cQ E n r p s = 0 := by
  unfold cQ
  rw [fb_sm_cong (g := fun _ => 0) (fun x hx => ?_), fb_sm_const, Nat.mul_zero]
  by_cases l2 : s ≤ x
  · exact cq_dead (hd x l2 hx)
  · exact if_neg l2
theorem nQ_0 {E : Nat → Nat → Bool} {n r s t j : Nat} {p : List Nat} (hd : ∀ x, s ≤ x → x < n → Vr E (Fn n) (p ++ [x]) = false) : ¬ nQ E n r p s t j := fun ⟨c, xs, h1, h2, _, h4, _⟩ => by
  rw [Vr_dead (hd c h1 h2)] at h4
  cases h4
theorem nQ_st {E : Nat → Nat → Bool} {n r s c t j : Nat} {p : List Nat} (hs : s ≤ c) (hc : c < n) (hd : ∀ x, s ≤ x → x < c → Vr E (Fn n) (p ++ [x]) = false) : nQ E n r p s t j ↔ (∃ xs, xs.length = r ∧ Vr E (Fn n) (p ++ c :: xs) = true ∧ (p ++ c :: xs)[j]? = some t) ∨ nQ E n r p (c + 1) t j := by
  constructor
  · rintro ⟨x, xs, h1, h2, h3, h4, h5⟩
    by_cases e : x = c
    · subst e; exact Or.inl ⟨xs, h3, h4, h5⟩
    · by_cases l : x < c
      · rw [Vr_dead (hd x h1 l)] at h4; cases h4
      · exact Or.inr ⟨x, xs, by omega, h2, h3, h4, h5⟩
  · rintro (⟨xs, h3, h4, h5⟩ | ⟨x, xs, h1, h2, h3, h4, h5⟩)
    · exact ⟨c, xs, hs, hc, h3, h4, h5⟩
    · exact ⟨x, xs, by omega, h2, h3, h4, h5⟩
theorem nQ_dn {E : Nat → Nat → Bool} {n r c t j : Nat} {p : List Nat} : nQ E n r (p ++ [c]) 0 t j ↔ ∃ xs, xs.length = r + 1 ∧ Vr E (Fn n) (p ++ c :: xs) = true ∧ (p ++ c :: xs)[j]? = some t := by
  constructor
  · rintro ⟨x, xs, _, h2, h3, h4, h5⟩
    rw [← app_c] at h4 h5
    exact ⟨x :: xs, by rw [List.length_cons, h3], h4, h5⟩
  · rintro ⟨xs, h3, h4, h5⟩
    cases xs with
    | nil => cases h3
    | cons x xs =>
      rw [List.length_cons] at h3
      rw [app_c] at h4 h5
      exact ⟨x, xs, Nat.zero_le _, Fn_i.mp (Vr_mem h4 (by simp)), by omega, h4, h5⟩
theorem cQ_dn {E : Nat → Nat → Bool} {n r c : Nat} {p : List Nat} : cQ E n r (p ++ [c]) 0 = sL_ n (r + 1) (fun xs => bn (Vr E (Fn n) (p ++ c :: xs))) := by
  refine fb_sm_cong (fun x _ => ?_)
  refine (if_pos (Nat.zero_le x)).trans (sL_cg (fun xs _ => ?_))
  rw [← app_c]
def oS (μ : Mu) (k s : Nat) : Prop := gI μ 430 k = if s = 0 then -9 else nI (s - 1)
def Dfs (μ0 : Mu) (f : Nat → Int32) (n r : Nat) : Prop := ∀ (p : List Nat), Vr (fE f) (Fn n) p = true → p.length + (r + 1) = n → ∀ (d s : Nat) (μ : Mu) (C : Nat) (Q : Nat → Nat → Prop), n ≤ s + d → s ≤ n → SO μ0 μ → OR μ p → oS μ p.length s → gI μ 414 27 = nI C → PL μ Q → ∃ T μ', T ≤ 1 + us n p s * (1 + Lq r) ∧ (∀ X, m_X7_layOrders_h55 SH 414 (nI n) (X + T) (nI p.length) μ = m_X7_layOrders_h55 SH 414 (nI n) X (nI p.length + (-1)) μ') ∧ SO μ0 μ' ∧ OR μ' p ∧ gI μ' 414 27 = nI (C + cQ (fE f) n r p s) ∧ PL μ' (fun t j => Q t j ∨ nQ (fE f) n r p s t j)
theorem y_enter {μ0 μ : Mu} {f : Nat → Int32} {p : List Nat} {n s : Nat} {k55 : Int32 → Mu → Option Mu} (hM : MR μ0 f) (hn : n ≤ 6) (hk : p.length < n) (hs : s ≤ n) (hS : SO μ0 μ) (ho : oS μ p.length s) : m_X7_layOrders_b55 SH k55 414 (nI n) (nI p.length) μ = m_X7_layOrders_h83 SH k55 414 (nI n) (nI p.length) FU (nI s) μ := by
  have mr := hS.mr hM
  have h0 : (nI p.length < 0) = False := eq_false (nlt0 (by omega))
  have x1 : ix SH 8 430 (nI p.length) = true := ix_of (n := 6) rfl (by omega) (by decide)
  unfold oS at ho
  by_cases s0 : s = 0
  · rw [if_pos s0] at ho
    have t : ((-9 : Int32) = -9) = True := eq_true rfl
    simp only [bd_n, gd_n, ca2_n, ca_n, nbtF, pbfT, Bool.not_true, Bool.not_false, if_true, if_false, m_X7_layOrders_b55, h0, iz7, M_26 mr.1, x1, nI_clamp (show p.length < 2 ^ 31 by omega), ho, t, m_X7_layOrders_b82]
    rw [s0]
    rfl
  · rw [if_neg s0] at ho
    have t : (nI (s - 1) = -9) = False := eq_false (n9 (by omega))
    have e : nI (s - 1) + 1 = nI s := by
      have := nI_add (s - 1) 1
      rw [show s - 1 + 1 = s by omega] at this
      exact this
    simp only [bd_n, gd_n, ca2_n, ca_n, nbtF, pbfT, Bool.not_true, Bool.not_false, if_true, if_false, m_X7_layOrders_b55, h0, iz7, M_26 mr.1, x1, nI_clamp (show p.length < 2 ^ 31 by omega), ho, t, m_X7_layOrders_b82, e]
theorem dfs_T {a b L T1 T2 : Nat} (h : b + 1 ≤ a) (h1 : T1 ≤ L) (h2 : T2 ≤ 1 + b * (1 + L)) : T2 + T1 + 1 ≤ 1 + a * (1 + L) := by
  have m : (b + 1) * (1 + L) ≤ a * (1 + L) := Nat.mul_le_mul_right _ h
  rw [Nat.add_mul] at m
  omega
theorem y_dfs {μ0 : Mu} {f : Nat → Int32} {n : Nat} (hM : MR μ0 f) (hn : n ≤ 6) : ∀ r, Dfs μ0 f n r := by
  intro r
  induction r with
  | zero =>
    intro p hV hp d
    induction d with
    | zero =>
      intro s μ C Q hd hs hS hO ho hC hP
      have es : s = n := by omega
      subst es
      obtain ⟨c, c1, c2, c3, c4, c5⟩ := y_search (hS.mr hM) hO hn (by omega) hV 0 s FU (by omega) (by decide)
      have ec : c = s := by omega
      subst ec
      refine ⟨1, μ, by omega, fun X => ?_, hS, hO, by rw [cQ_0 (fun x h1 h2 => absurd h1 (by omega)), Nat.add_zero]; exact hC, hP.cg (fun t j _ => ⟨Or.inl, fun z => z.elim id (fun z => absurd z (nQ_0 (fun x h1 h2 => absurd h1 (by omega))))⟩)⟩
      show m_X7_layOrders_b55 SH (m_X7_layOrders_h55 SH 414 (nI c) X) 414 (nI c) (nI p.length) μ = _
      have t : (nI c = nI c) = True := eq_true rfl
      rw [y_enter hM hn (by omega) hs hS ho, c5]
      simp only [bd_n, gd_n, ca2_n, ca_n, nbtF, pbfT, Bool.not_true, Bool.not_false, if_true, if_false, m_X7_layOrders_b103, t, m_X7_layOrders_b186]
    | succ d ih =>
      intro s μ C Q hd hs hS hO ho hC hP
      have mr := hS.mr hM
      obtain ⟨c, c1, c2, c3, c4, c5⟩ := y_search mr hO hn (by omega) hV (n - s) s FU (by omega) (by rw [FU_eq]; omega)
      by_cases cn_ : c = n
      · subst cn_
        refine ⟨1, μ, by omega, fun X => ?_, hS, hO, by rw [cQ_0 c3, Nat.add_zero]; exact hC, hP.cg (fun t j _ => ⟨Or.inl, fun z => z.elim id (fun z => absurd z (nQ_0 c3))⟩)⟩
        show m_X7_layOrders_b55 SH (m_X7_layOrders_h55 SH 414 (nI c) X) 414 (nI c) (nI p.length) μ = _
        have t : (nI c = nI c) = True := eq_true rfl
        rw [y_enter hM hn (by omega) hs hS ho, c5]
        simp only [bd_n, gd_n, ca2_n, ca_n, nbtF, pbfT, Bool.not_true, Bool.not_false, if_true, if_false, m_X7_layOrders_b103, t, m_X7_layOrders_b186]
      · have hc : c < n := by omega
        have hVc := c4 hc
        have x1 : ix SH 8 430 (nI p.length) = true := ix_of (n := 6) rfl (by omega) (by decide)
        have S1 : SO μ0 (sI (sI μ 430 p.length (nI c)) 414 27 (nI (C + 1))) := (hS.w (by decide)).c
        have O1 : OR (sI (sI μ 430 p.length (nI c)) 414 27 (nI (C + 1))) (p ++ [c]) := ((hO.w (Nat.le_refl _)).o (by decide)).sn (by rw [gI_o (by decide), gI_w])
        have P1 : PL (sI (sI μ 430 p.length (nI c)) 414 27 (nI (C + 1))) Q := (hP.o (by decide)).o (by decide)
        have ln : (p ++ [c]).length = n := by rw [List.length_append]; exact hp
        have hlt : ∀ x, x ∈ p ++ [c] → x < 6 := fun x hx => by have := Fn_i.mp (Vr_mem hVc hx); omega
        obtain ⟨μ2, run, S2, O2, C2, P2⟩ := y_lay (w := nI p.length) hM hn ln hlt n 0 FU (sI (sI μ 430 p.length (nI c)) 414 27 (nI (C + 1))) Q (by omega) (by rw [FU_eq]; omega) S1 O1 P1
        rw [gI_w] at C2
        obtain ⟨T, μ', t1, t2, S3, O3, C3, P3⟩ := ih (c + 1) μ2 (C + 1) _ (by omega) (by omega) S2 O2.pre.1 (by unfold oS; rw [if_neg (by omega), show c + 1 - 1 = c by omega]; exact O2.pre.2) C2 P2
        refine ⟨T + 0 + 1, μ', dfs_T (us_st c1 hc hVc) (Nat.le_refl 0) t1, fun X => ?_, S3, O3, ?_, P3.cg (fun t j _ => ?_)⟩
        · show m_X7_layOrders_b55 SH (m_X7_layOrders_h55 SH 414 (nI n) (X + T)) 414 (nI n) (nI p.length) μ = _
          have t : (nI c = nI n) = False := eq_false (fun z => cn_ ((nI_eq (by omega) (by omega)).mp z))
          have t2' : (nI p.length = nI n - 1) = True := eq_true (by rw [show n = p.length + 1 by omega, nI_pred])
          rw [y_enter hM hn (by omega) hs hS ho, c5, ← t2 X]
          have r0 := run (m_X7_layOrders_h55 SH 414 (nI n) (X + T))
          rw [show nI 0 = (0 : Int32) from rfl] at r0
          simp only [bd_n, gd_n, ca2_n, ca_n, nbtF, pbfT, Bool.not_true, Bool.not_false, if_true, if_false, m_X7_layOrders_b103, t, iz7, M_26 mr.1, x1, nI_clamp (show p.length < 2 ^ 31 by omega), t2', gI_o (show 414 ≠ 430 by decide), hC, show nI C + 1 = nI (C + 1) from nI_add _ 1]
          exact r0
        · rw [C3, cQ_st c1 hc c3]
          have one : sL_ n 0 (fun xs => bn (Vr (fE f) (Fn n) (p ++ c :: xs))) = 1 := by
            show bn (Vr (fE f) (Fn n) (p ++ [c])) = 1
            rw [hVc]
            rfl
          rw [one, Nat.add_assoc]
        · rw [nQ_st c1 hc c3]
          constructor
          · rintro ((z | z) | z)
            · exact Or.inl z
            · exact Or.inr (Or.inl ⟨[], rfl, hVc, z.2⟩)
            · exact Or.inr (Or.inr z)
          · rintro (z | ⟨xs, z1, z2, z3⟩ | z)
            · exact Or.inl (Or.inl z)
            · have : xs = [] := List.eq_nil_of_length_eq_zero z1
              subst this
              exact Or.inl (Or.inr ⟨Nat.zero_le _, z3⟩)
            · exact Or.inr z
  | succ r ihr =>
    intro p hV hp d
    induction d with
    | zero =>
      intro s μ C Q hd hs hS hO ho hC hP
      have es : s = n := by omega
      subst es
      obtain ⟨c, c1, c2, c3, c4, c5⟩ := y_search (hS.mr hM) hO hn (by omega) hV 0 s FU (by omega) (by decide)
      have ec : c = s := by omega
      subst ec
      refine ⟨1, μ, by omega, fun X => ?_, hS, hO, by rw [cQ_0 (fun x h1 h2 => absurd h1 (by omega)), Nat.add_zero]; exact hC, hP.cg (fun t j _ => ⟨Or.inl, fun z => z.elim id (fun z => absurd z (nQ_0 (fun x h1 h2 => absurd h1 (by omega))))⟩)⟩
      show m_X7_layOrders_b55 SH (m_X7_layOrders_h55 SH 414 (nI c) X) 414 (nI c) (nI p.length) μ = _
      have t : (nI c = nI c) = True := eq_true rfl
      rw [y_enter hM hn (by omega) hs hS ho, c5]
      simp only [bd_n, gd_n, ca2_n, ca_n, nbtF, pbfT, Bool.not_true, Bool.not_false, if_true, if_false, m_X7_layOrders_b103, t, m_X7_layOrders_b186]
    | succ d ih =>
      intro s μ C Q hd hs hS hO ho hC hP
      have mr := hS.mr hM
      obtain ⟨c, c1, c2, c3, c4, c5⟩ := y_search mr hO hn (by omega) hV (n - s) s FU (by omega) (by rw [FU_eq]; omega)
      by_cases cn_ : c = n
      · subst cn_
        refine ⟨1, μ, by omega, fun X => ?_, hS, hO, by rw [cQ_0 c3, Nat.add_zero]; exact hC, hP.cg (fun t j _ => ⟨Or.inl, fun z => z.elim id (fun z => absurd z (nQ_0 c3))⟩)⟩
        show m_X7_layOrders_b55 SH (m_X7_layOrders_h55 SH 414 (nI c) X) 414 (nI c) (nI p.length) μ = _
        have t : (nI c = nI c) = True := eq_true rfl
        rw [y_enter hM hn (by omega) hs hS ho, c5]
        simp only [bd_n, gd_n, ca2_n, ca_n, nbtF, pbfT, Bool.not_true, Bool.not_false, if_true, if_false, m_X7_layOrders_b103, t, m_X7_layOrders_b186]
      · have hc : c < n := by omega
        have hVc := c4 hc
        have x1 : ix SH 8 430 (nI p.length) = true := ix_of (n := 6) rfl (by omega) (by decide)
        have x2 : ix SH 8 430 (nI (p.length + 1)) = true := ix_of (n := 6) rfl (by omega) (by decide)
        have ln : (p ++ [c]).length = p.length + 1 := by rw [List.length_append]; rfl
        have S1 : SO μ0 (sI (sI μ 430 p.length (nI c)) 430 (p.length + 1) (-9)) := (hS.w (by decide)).w (by decide)
        have O1 : OR (sI (sI μ 430 p.length (nI c)) 430 (p.length + 1) (-9)) (p ++ [c]) := ((hO.w (Nat.le_refl _)).sn gI_w).w (by omega)
        have P1 : PL (sI (sI μ 430 p.length (nI c)) 430 (p.length + 1) (-9)) Q := (hP.o (by decide)).o (by decide)
        obtain ⟨T1, μ2, b1, b2, S2, O2, C2, P2⟩ := ihr (p ++ [c]) hVc (by rw [ln]; omega) n 0 (sI (sI μ 430 p.length (nI c)) 430 (p.length + 1) (-9)) C Q (by omega) (by omega) S1 O1 (by unfold oS; rw [ln, gI_w, if_pos rfl]) (by rw [gI_o (by decide), gI_o (by decide)]; exact hC) P1
        have u0 := us_0 hVc
        rw [ln] at u0
        rw [show us n (p ++ [c]) 0 = r + 1 by omega] at b1
        have b1' : T1 ≤ Lq (r + 1) := b1
        obtain ⟨T, μ', t1, t2, S3, O3, C3, P3⟩ := ih (c + 1) μ2 (C + cQ (fE f) n r (p ++ [c]) 0) _ (by omega) (by omega) S2 O2.pre.1 (by unfold oS; rw [if_neg (by omega), show c + 1 - 1 = c by omega]; exact O2.pre.2) C2 P2
        refine ⟨T + T1 + 1, μ', dfs_T (us_st c1 hc hVc) b1' t1, fun X => ?_, S3, O3, ?_, P3.cg (fun t j _ => ?_)⟩
        · rw [show X + (T + T1 + 1) = (X + T + T1) + 1 by omega]
          show m_X7_layOrders_b55 SH (m_X7_layOrders_h55 SH 414 (nI n) (X + T + T1)) 414 (nI n) (nI p.length) μ = _
          have t : (nI c = nI n) = False := eq_false (fun z => cn_ ((nI_eq (by omega) (by omega)).mp z))
          have t2' : (nI p.length = nI n - 1) = False := eq_false (fun z => by
            rw [show n = (n - 1) + 1 by omega, nI_pred] at z
            have := (nI_eq (by omega) (by omega)).mp z
            omega)
          have b2' := b2 (X + T)
          rw [ln, show nI (p.length + 1) + (-1) = nI p.length by rw [← Int32.sub_eq_add_neg]; exact nI_pred _] at b2'
          rw [y_enter hM hn (by omega) hs hS ho, c5, ← t2 X, ← b2']
          simp only [bd_n, gd_n, ca2_n, ca_n, nbtF, pbfT, Bool.not_true, Bool.not_false, if_true, if_false, m_X7_layOrders_b103, t, iz7, M_26 mr.1, x1, nI_clamp (show p.length < 2 ^ 31 by omega), t2', gR_sI, show nI p.length + 1 = nI (p.length + 1) from nI_add _ 1, x2, nI_clamp (show p.length + 1 < 2 ^ 31 by omega), m_X7_layOrders_b186]
        · rw [C3, cQ_st c1 hc c3, cQ_dn, Nat.add_assoc]
        · rw [nQ_st c1 hc c3, ← nQ_dn, or_assoc]

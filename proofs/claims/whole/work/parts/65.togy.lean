/-! together: the reference -/
theorem InvM.scr {μ μ' : Mu} {σ : Sg} (h : InvM μ σ) (I : ∀ b k, 414 ≤ b → b < 428 → (b ≠ 414 ∨ k ≠ 27) → gI μ' b k = gI μ b k) (J : ∀ b k, b < 428 → gJ μ' b k = gJ μ b k) (R : ∀ b k, gR μ' b k = gR μ b k) : InvM μ' σ := by
  obtain ⟨⟨h0, h1⟩, h2, h3, h4, h5, h6, h7⟩ := h
  refine ⟨⟨h0.mono (fun k => R 414 k), fun k hk => by rw [I _ _ (by omega) (by omega) (by omega)]; exact h1 k hk⟩, by rw [I _ _ (by omega) (by omega) (by omega)]; exact h2, fun i hi => by rw [I _ _ (by omega) (by omega) (by omega)]; exact h3 i hi, ?_, by rw [J _ _ (by omega)]; exact h5, ?_, ?_⟩
  · obtain ⟨a1, a2, a3, a4, a5⟩ := h4
    exact ⟨by rw [I _ _ (by omega) (by omega) (by omega)]; exact a1, by rw [I _ _ (by omega) (by omega) (by omega)]; exact a2, by rw [I _ _ (by omega) (by omega) (by omega)]; exact a3, fun b hb => by rw [I _ _ (by omega) (by omega) (by omega), I _ _ (by omega) (by omega) (by omega)]; exact a4 b hb, fun p hp => by rw [I _ _ (by omega) (by omega) (by omega)]; exact a5 p hp⟩
  · exact ⟨by rw [I _ _ (by omega) (by omega) (by omega)]; exact h6.1, fun i g hg => ⟨fun k hk => by rw [I _ _ (by omega) (by omega) (by omega)]; exact (h6.2 i g hg).1 k hk, by rw [J _ _ (by omega)]; exact (h6.2 i g hg).2⟩⟩
  · exact fun s hs2 => ⟨fun e => by rw [I _ _ (by omega) (by omega) (by omega)]; exact (h7 s hs2).1 e, fun g e => ⟨by rw [I _ _ (by omega) (by omega) (by omega)]; exact ((h7 s hs2).2 g e).1, fun k hk => by rw [I _ _ (by omega) (by omega) (by omega)]; exact ((h7 s hs2).2 g e).2.1 k hk, by rw [J _ _ (by omega)]; exact ((h7 s hs2).2 g e).2.2⟩⟩
def SM (μ0 μ : Mu) : Prop := same (fun b => b < 428) μ0 μ ∧ ∀ b k, gR μ b k = gR μ0 b k
theorem SM.rf {μ : Mu} : SM μ μ := ⟨same.rf, fun _ _ => rfl⟩
theorem SM.w {μ0 μ : Mu} {a k : Nat} {v : Int32} (h : SM μ0 μ) (ha : 428 ≤ a) : SM μ0 (sI μ a k v) := ⟨h.1.trans (same_sI (by omega)), fun b j => h.2 b j⟩
theorem SM.mr {μ0 μ : Mu} {f : Nat → Int32} (h : SM μ0 μ) (hm : MR μ0 f) : MR μ f := ⟨hm.1.mono (fun k => h.2 414 k), fun k hk => by rw [h.1.I (by decide)]; exact hm.2 k hk⟩
theorem y_hat {r7 r9 : Int32} {μ : Mu} : (if r7 = (-9) then m_X7_goes_b60 SH μ else if r9 = (-9) then m_X7_goes_b60 SH μ else if r7 = r9 then m_X7_goes_b60 SH μ else some (0, μ)) = some (bI (hOK r7 r9), μ) := by
  unfold hOK m_X7_goes_b60
  by_cases h1 : r7 = -9
  · rw [if_pos h1, decide_eq_true h1, Bool.true_or]; rfl
  · rw [if_neg h1, decide_eq_false h1, Bool.false_or]
    by_cases h2 : r9 = -9
    · rw [if_pos h2, decide_eq_true h2, Bool.true_or]; rfl
    · rw [if_neg h2, decide_eq_false h2, Bool.false_or]
      by_cases h3 : r7 = r9
      · rw [if_pos h3, decide_eq_true h3]; rfl
      · rw [if_neg h3, decide_eq_false h3]; rfl
theorem y_goes {μ : Mu} {P : Pl} {c a b : Nat} {f : Nat → Int32} (h : MR μ f) (g : GP P c f) (ha : tT f a = true) (hb : tT f b = true) : m_X7_goes SH 414 (nI a) (nI b) μ = some (bI (gE f a b), μ) := by
  have hsz := g.sz
  obtain ⟨a1, a2⟩ := tT_in ha
  obtain ⟨b1, b2⟩ := tT_in hb
  obtain ⟨ta, ta3⟩ := g.tn a1
  obtain ⟨tb, tb3⟩ := g.tn b1
  have o1 : m_X7_of SH 414 (nI a) 1 μ = some (f (50 + 19 * a + 1), μ) := y_of (w := 1) h (by omega)
  have o2 : m_X7_of SH 414 (nI b) 1 μ = some (f (50 + 19 * b + 1), μ) := y_of (w := 1) h (by omega)
  rw [ta] at o1
  rw [tb] at o2
  unfold gE
  by_cases e : tnN f a = tnN f b
  · have q : (nI (tnN f a) = nI (tnN f b)) = True := eq_true (by rw [e])
    have l1 := y_lookOf (i := a) (l := tnN f a - 1) (w := 2) h (by omega)
    have l2 := y_lookOf (i := b) (l := tnN f a) (w := 2) h (by omega)
    rw [← pk_sub (show 1 ≤ tnN f a by omega), show 50 + 19 * a + (3 + 4 * (tnN f a - 1) + 2) = 50 + 19 * a + 3 + (4 * (tnN f a - 1) + 2) by omega] at l1
    rw [show 50 + 19 * b + (3 + 4 * tnN f a + 2) = 50 + 19 * b + 3 + (4 * tnN f b + 2) by omega] at l2
    have l1' : m_X7_lookOf SH 414 (nI a) (nI (tnN f a) - 1) 2 μ = some (cI f a (tnN f a - 1) 2, μ) := l1
    have l2' : m_X7_lookOf SH 414 (nI b) (nI (tnN f a)) 2 μ = some (cI f b (tnN f b) 2, μ) := l2
    rw [decide_eq_true e, Bool.true_and]
    simp only [bd_n, gd_n, ca2_n, ca_n, nbtF, pbfT, Bool.not_true, Bool.not_false, if_true, if_false, m_X7_goes, iz7, o1, o2, q, l1', l2', y_hat]
  · have q : (nI (tnN f a) = nI (tnN f b)) = False := eq_false (fun z => e ((nI_eq (by omega) (by omega)).mp z))
    rw [decide_eq_false e, Bool.false_and]
    simp only [bd_n, gd_n, ca2_n, ca_n, nbtF, pbfT, Bool.not_true, Bool.not_false, if_true, if_false, m_X7_goes, iz7, o1, o2, q]
    rfl
theorem torn_mk {P : Pl} {c : Nat} {f : Nat → Int32} (g : GP P c f) : ∀ i, i ≤ szF f → tornG f i = nI (mk (tT f) i)
  | 0, _ => rfl
  | i + 1, hi => by
    have h8 := g.sz.2
    have ih := torn_mk g i (by omega)
    obtain ⟨t, t3⟩ := g.tn (i := i) (by omega)
    show (if f (50 + 19 * i + 1) = 0 then tornG f i else tornG f i ||| (1 <<< (nI i &&& 31))) = nI (mk (tT f) i + bn (tT f i) * 2 ^ i)
    rw [ih, t]
    by_cases t0 : tnN f i = 0
    · have tf : tT f i = false := by unfold tT; rw [decide_eq_true t0, Bool.not_true, Bool.and_false]
      rw [if_pos (by rw [t0]; rfl), tf]
      show _ = nI (mk (tT f) i + 0 * 2 ^ i)
      rw [Nat.zero_mul, Nat.add_zero]
    · have tt : tT f i = true := by unfold tT; rw [decide_eq_false t0, decide_eq_true (show i < szF f by omega)]; rfl
      rw [if_neg (nI_ne0 (by omega) (by omega)), tt, or_bit i (by omega) _ (mk_lt _ _)]
      show _ = nI (mk (tT f) i + 1 * 2 ^ i)
      rw [Nat.one_mul]
abbrev E2 (f : Nat → Int32) : Nat → Nat → Bool := E1 (tT f) (gE f)
abbrev M2 (f : Nat → Int32) (a u : Nat) : Nat := Mt (E2 f) (szF f) a (hasB u)
abbrev W2 (f : Nat → Int32) (a u : Nat) : Int32 := Wt (tT f) (E2 f) (szF f) a (hasB u)
abbrev tM (f : Nat → Int32) : Nat := mk (tT f) (szF f)
theorem Mt_le {E : Nat → Nat → Bool} {n : Nat} : ∀ (j : Nat) (S : Nat → Bool), Mt E n j S ≤ j
  | 0, _ => Nat.le_refl 0
  | j + 1, S => by
    rcases stM_cs (f := Mt E n j) (E := E j) (X := S) n with h | ⟨c, _, _, _, h⟩
    · have := Mt_le (E := E) (n := n) j S
      show stM (Mt E n j) (E j) S n ≤ j + 1
      omega
    · have := Mt_le (E := E) (n := n) j (er S c)
      show stM (Mt E n j) (E j) S n ≤ j + 1
      omega
theorem stM_b {E : Nat → Nat → Bool} {n j b : Nat} {X : Nat → Bool} : stM (Mt E n j) (E j) X b ≤ j + 1 := by
  rcases stM_cs (f := Mt E n j) (E := E j) (X := X) b with h | ⟨c, _, _, _, h⟩
  · have := Mt_le (E := E) (n := n) j X
    omega
  · have := Mt_le (E := E) (n := n) j (er X c)
    omega
theorem Mt_f {T : Nat → Bool} {E : Nat → Nat → Bool} {n a : Nat} {X : Nat → Bool} (h : T a = false) : Mt (E1 T E) n (a + 1) X = Mt (E1 T E) n a X := by
  rcases stM_cs (f := Mt (E1 T E) n a) (E := E1 T E a) (X := X) n with q | ⟨c, _, _, q, _⟩
  · exact q
  · unfold E1 at q
    rw [h] at q
    cases q
theorem M_24 {μ : Mu} (h : Mp μ) : gR μ 414 24 = 428 := h.2.2.2.2.2.2.2.2.2.2.2.2.2.1
theorem M_25 {μ : Mu} (h : Mp μ) : gR μ 414 25 = 429 := h.2.2.2.2.2.2.2.2.2.2.2.2.2.2.1
theorem y_to3 {μ0 : Mu} {P : Pl} {c a s : Nat} {f : Nat → Int32} {w : Int32} {k62 k79 : Int32 → Mu → Option (Int32 × Mu)} (hM : MR μ0 f) (g : GP P c f) (ha : tT f a = true) (hs : s < 256) : ∀ (d b F : Nat) (μ : Mu), b + d = szF f → d < F → SM μ0 μ → (∀ u, u < s → gI μ 428 u = nI (M2 f a u)) → (∀ u, u < s → gI μ 429 u = W2 f a u) → gI μ 428 s = nI (stM (Mt (E2 f) (szF f) a) (E2 f a) (hasB s) b) → ∃ μ', m_X7_together_h98 SH k62 k79 414 w (nI (tM f)) (nI a) (nI s) F (stW (Wt (tT f) (E2 f) (szF f) a) (E2 f a) (hasB s) b) (nI b) μ = m_X7_together_b207 SH k62 k79 414 w (nI (tM f)) (nI a) (nI s) (W2 f (a + 1) s) μ' ∧ SM μ0 μ' ∧ gI μ' 428 s = nI (M2 f (a + 1) s) ∧ (∀ u, u ≠ s → gI μ' 428 u = gI μ 428 u) ∧ ∀ u, gI μ' 429 u = gI μ 429 u := by
  have hsz := g.sz
  have an := (tT_in ha).1
  have t8 : tM f < 256 := Nat.lt_of_lt_of_le (mk_lt _ _) (Nat.pow_le_pow_right (n := 2) (by decide) hsz.2)
  intro d
  induction d with
  | zero =>
    intro b F μ hb hF hS hA hB hc
    obtain ⟨F, rfl⟩ : ∃ g, F = g + 1 := ⟨F - 1, by omega⟩
    have e : b = szF f := by omega
    subst e
    have mr := hS.mr hM
    have e2 : (gI μ 422 202) = nI (szF f) := by rw [mr.2 202 (by decide)]; exact hsz.1
    have h : (nI (szF f) ≤ nI (szF f)) = True := eq_true (nI_le (by omega) (by omega))
    refine ⟨μ, ?_, hS, hc, fun _ _ => rfl, fun _ => rfl⟩
    rw [show W2 f (a + 1) s = stW (Wt (tT f) (E2 f) (szF f) a) (E2 f a) (hasB s) (szF f) from Wt_t ha]
    show m_X7_together_b98 SH k62 k79 (m_X7_together_h98 SH k62 k79 414 w (nI (tM f)) (nI a) (nI s) F) 414 w (nI (tM f)) (nI a) (nI s) _ (nI (szF f)) μ = _
    simp only [bd_n, gd_n, ca2_n, ca_n, nbtF, pbfT, Bool.not_true, Bool.not_false, if_true, if_false, m_X7_together_b98, iz7, mr.1.pg, ixL202, c202, e2, h]
  | succ d ih =>
    intro b F μ hb hF hS hA hB hc
    obtain ⟨F, rfl⟩ : ∃ g, F = g + 1 := ⟨F - 1, by omega⟩
    have mr := hS.mr hM
    have e2 : (gI μ 422 202) = nI (szF f) := by rw [mr.2 202 (by decide)]; exact hsz.1
    have h : (nI (szF f) ≤ nI b) = False := eq_false (nle_nI (by omega) (by omega))
    have hh := ys_has (s := s &&& tM f) (p := b) (μ := μ) (Nat.lt_of_le_of_lt Nat.and_le_left hs) (by omega)
    have hbit : hasB (s &&& tM f) b = (hasB s b && tT f b) := by
      rw [hasB_tb, Nat.testBit_and, ← hasB_tb, ← hasB_tb, mk_bit, decide_eq_true (show b < szF f by omega), Bool.true_and]
    rw [hbit] at hh
    show ∃ μ', m_X7_together_b98 SH k62 k79 (m_X7_together_h98 SH k62 k79 414 w (nI (tM f)) (nI a) (nI s) F) 414 w (nI (tM f)) (nI a) (nI s) _ (nI b) μ = _ ∧ _
    have skip : (hasB s b && E2 f a b) = false → ∃ μ', m_X7_together_b201 SH k62 k79 (m_X7_together_h98 SH k62 k79 414 w (nI (tM f)) (nI a) (nI s) F) 414 w (nI (tM f)) (nI a) (nI s) (stW (Wt (tT f) (E2 f) (szF f) a) (E2 f a) (hasB s) b) (nI b) μ = m_X7_together_b207 SH k62 k79 414 w (nI (tM f)) (nI a) (nI s) (W2 f (a + 1) s) μ' ∧ SM μ0 μ' ∧ gI μ' 428 s = nI (M2 f (a + 1) s) ∧ (∀ u, u ≠ s → gI μ' 428 u = gI μ 428 u) ∧ ∀ u, gI μ' 429 u = gI μ 429 u := fun hf => by
      have r1 : stM (Mt (E2 f) (szF f) a) (E2 f a) (hasB s) (b + 1) = stM (Mt (E2 f) (szF f) a) (E2 f a) (hasB s) b := by
        show (if (hasB s b && E2 f a b) = true then _ else _) = _
        rw [hf, if_neg (by decide)]
      have r2 : stW (Wt (tT f) (E2 f) (szF f) a) (E2 f a) (hasB s) (b + 1) = stW (Wt (tT f) (E2 f) (szF f) a) (E2 f a) (hasB s) b := by
        show (if (hasB s b && E2 f a b) = true then _ else _) = _
        rw [hf, if_neg (by decide)]
      obtain ⟨μ', q1, q2⟩ := ih (b + 1) F μ (by omega) (by omega) hS hA hB (by rw [r1]; exact hc)
      rw [r2] at q1
      refine ⟨μ', ?_, q2⟩
      simp only [bd_n, gd_n, ca2_n, ca_n, nbtF, pbfT, Bool.not_true, Bool.not_false, if_true, if_false, m_X7_together_b201, show nI b + 1 = nI (b + 1) from nI_add _ 1]
      exact q1
    cases hbs : (hasB s b && tT f b) with
    | false =>
      rw [hbs] at hh
      obtain ⟨μ', q1, q2⟩ := skip (by
        show (hasB s b && (tT f a && (tT f b && gE f a b))) = false
        rw [ha, Bool.true_and, ← Bool.and_assoc, hbs, Bool.false_and])
      refine ⟨μ', ?_, q2⟩
      simp only [bd_n, gd_n, ca2_n, ca_n, nbtF, pbfT, Bool.not_true, Bool.not_false, if_true, if_false, m_X7_together_b98, iz7, mr.1.pg, ixL202, c202, e2, h, fa_and, hh]
      exact q1
    | true =>
      rw [hbs] at hh
      rw [Bool.and_eq_true] at hbs
      have go := y_goes mr g ha hbs.2
      cases hg : gE f a b with
      | false =>
        rw [hg] at go
        obtain ⟨μ', q1, q2⟩ := skip (by
          show (hasB s b && (tT f a && (tT f b && gE f a b))) = false
          rw [hg, Bool.and_false, Bool.and_false, Bool.and_false])
        refine ⟨μ', ?_, q2⟩
        simp only [bd_n, gd_n, ca2_n, ca_n, nbtF, pbfT, Bool.not_true, Bool.not_false, if_true, if_false, m_X7_together_b98, iz7, mr.1.pg, ixL202, c202, e2, h, fa_and, hh, go]
        exact q1
      | true =>
        rw [hg] at go
        have hE : (hasB s b && E2 f a b) = true := by
          show (hasB s b && (tT f a && (tT f b && gE f a b))) = true
          rw [hbs.1, ha, hbs.2, hg]
          rfl
        obtain ⟨n1, n2, n3⟩ := er_has s hs b (by omega) hbs.1
        have pos := Nat.two_pow_pos b
        have dn := hasB_dn hs (show b < 8 by omega) hbs.1
        have r1 : stM (Mt (E2 f) (szF f) a) (E2 f a) (hasB s) (b + 1) = max (M2 f a (s - 2 ^ b) + 1) (stM (Mt (E2 f) (szF f) a) (E2 f a) (hasB s) b) := by
          show (if (hasB s b && E2 f a b) = true then max (Mt (E2 f) (szF f) a (er (hasB s) b) + 1) (stM (Mt (E2 f) (szF f) a) (E2 f a) (hasB s) b) else _) = _
          rw [if_pos hE, ← dn]
        have r2 : stW (Wt (tT f) (E2 f) (szF f) a) (E2 f a) (hasB s) (b + 1) = stW (Wt (tT f) (E2 f) (szF f) a) (E2 f a) (hasB s) b + W2 f a (s - 2 ^ b) := by
          show (if (hasB s b && E2 f a b) = true then stW (Wt (tT f) (E2 f) (szF f) a) (E2 f a) (hasB s) b + Wt (tT f) (E2 f) (szF f) a (er (hasB s) b) else _) = _
          rw [if_pos hE, ← dn]
        have b1 : M2 f a (s - 2 ^ b) ≤ a := Mt_le a _
        have b2 := stM_b (E := E2 f) (n := szF f) (j := a) (b := b) (X := hasB s)
        have x1 : ix SH 8 428 (nI (s - 2 ^ b)) = true := ix_of (n := 256) rfl (by omega) (by decide)
        have x2 : ix SH 8 428 (nI s) = true := ix_of (n := 256) rfl hs (by decide)
        have x3 : ix SH 8 429 (nI (s - 2 ^ b)) = true := ix_of (n := 256) rfl (by omega) (by decide)
        have a1 := hA (s - 2 ^ b) (by omega)
        have a2 := hB (s - 2 ^ b) (by omega)
        have p24 := M_24 mr.1
        have p25 := M_25 mr.1
        have fin : ∀ v, v = nI (stM (Mt (E2 f) (szF f) a) (E2 f a) (hasB s) (b + 1)) → ∃ μ', m_X7_together_b188 SH k62 k79 (m_X7_together_h98 SH k62 k79 414 w (nI (tM f)) (nI a) (nI s) F) 414 w (nI (tM f)) (nI a) (nI s) (stW (Wt (tT f) (E2 f) (szF f) a) (E2 f a) (hasB s) b) (nI b) (nI (s - 2 ^ b)) v (nI s) 428 μ = m_X7_together_b207 SH k62 k79 414 w (nI (tM f)) (nI a) (nI s) (W2 f (a + 1) s) μ' ∧ SM μ0 μ' ∧ gI μ' 428 s = nI (M2 f (a + 1) s) ∧ (∀ u, u ≠ s → gI μ' 428 u = gI μ 428 u) ∧ ∀ u, gI μ' 429 u = gI μ 429 u := fun v hv => by
          obtain ⟨μ', q1, q2, q3, q4, q5⟩ := ih (b + 1) F (sI μ 428 s v) (by omega) (by omega) (hS.w (by decide)) (fun u hu => by rw [gI_k (by omega)]; exact hA u hu) (fun u hu => by rw [gI_o (by decide)]; exact hB u hu) (by rw [gI_w]; exact hv)
          rw [r2] at q1
          refine ⟨μ', ?_, q2, q3, fun u hu => by rw [q4 u hu, gI_k hu], fun u => by rw [q5 u, gI_o (by decide)]⟩
          simp only [bd_n, gd_n, ca2_n, ca_n, nbtF, pbfT, Bool.not_true, Bool.not_false, if_true, if_false, m_X7_together_b188, m_X7_together_b201, x2, nI_clamp (show s < 2 ^ 31 by omega), iz7, gR_sI, p25, x3, nI_clamp (show s - 2 ^ b < 2 ^ 31 by omega), gI_o (show 429 ≠ 428 by decide), a2, show nI b + 1 = nI (b + 1) from nI_add _ 1]
          exact q1
        by_cases le : M2 f a (s - 2 ^ b) + 1 ≤ stM (Mt (E2 f) (szF f) a) (E2 f a) (hasB s) b
        · have q : (nI (M2 f a (s - 2 ^ b) + 1) ≤ nI (stM (Mt (E2 f) (szF f) a) (E2 f a) (hasB s) b)) = True := eq_true (nI_le le (by omega))
          obtain ⟨μ', q1, q2⟩ := fin (nI (stM (Mt (E2 f) (szF f) a) (E2 f a) (hasB s) b)) (by rw [r1, Nat.max_eq_right le])
          refine ⟨μ', ?_, q2⟩
          simp only [bd_n, gd_n, ca2_n, ca_n, nbtF, pbfT, Bool.not_true, Bool.not_false, if_true, if_false, m_X7_together_b98, iz7, mr.1.pg, ixL202, c202, e2, h, fa_and, hh, go, n3, p24, x1, nI_clamp (show s - 2 ^ b < 2 ^ 31 by omega), a1, x2, nI_clamp (show s < 2 ^ 31 by omega), hc, show nI (M2 f a (s - 2 ^ b)) + 1 = nI (M2 f a (s - 2 ^ b) + 1) from nI_add _ 1, q]
          exact q1
        · have q : (nI (M2 f a (s - 2 ^ b) + 1) ≤ nI (stM (Mt (E2 f) (szF f) a) (E2 f a) (hasB s) b)) = False := eq_false (nI_ge (by omega) (by omega))
          obtain ⟨μ', q1, q2⟩ := fin (nI (M2 f a (s - 2 ^ b) + 1)) (by rw [r1, Nat.max_eq_left (by omega)])
          refine ⟨μ', ?_, q2⟩
          simp only [bd_n, gd_n, ca2_n, ca_n, nbtF, pbfT, Bool.not_true, Bool.not_false, if_true, if_false, m_X7_together_b98, iz7, mr.1.pg, ixL202, c202, e2, h, fa_and, hh, go, n3, p24, x1, nI_clamp (show s - 2 ^ b < 2 ^ 31 by omega), a1, x2, nI_clamp (show s < 2 ^ 31 by omega), hc, show nI (M2 f a (s - 2 ^ b)) + 1 = nI (M2 f a (s - 2 ^ b) + 1) from nI_add _ 1, q]
          exact q1

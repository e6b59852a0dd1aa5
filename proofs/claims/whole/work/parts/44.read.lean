/-! the reader, as a machine of states: 1 head, 2 walk, 3 part, 4 first, 5 every, 6 blinks -/
def updN (f : Nat → Nat) (k v : Nat) : Nat → Nat := fun i => if i = k then v else f i
theorem updN_s {f : Nat → Nat} {k v : Nat} : updN f k v k = v := by unfold updN; rw [if_pos rfl]
theorem updN_n {f : Nat → Nat} {k v j : Nat} (h : j ≠ k) : updN f k v j = f j := by unfold updN; rw [if_neg h]
def dW (D : Pl) (v : Nat) : Pl := (v, pB D, pP D, D.2.2.2.1, D.2.2.2.2.1, D.2.2.2.2.2)
def dB (D : Pl) : Pl := (pW D, pB D + 1, pP D, D.2.2.2.1, D.2.2.2.2.1, D.2.2.2.2.2)
def dP (D : Pl) : Pl := (pW D, pB D, pP D + 1, D.2.2.2.1, D.2.2.2.2.1, D.2.2.2.2.2)
def dF (D : Pl) (v : Nat) : Pl := (pW D, pB D, pP D, updN D.2.2.2.1 (pB D - 1) v, D.2.2.2.2.1, D.2.2.2.2.2)
def dE (D : Pl) (v : Nat) : Pl := (pW D, pB D, pP D, D.2.2.2.1, updN D.2.2.2.2.1 (pB D - 1) v, D.2.2.2.2.2)
def dT (D : Pl) (v : Nat) : Pl := (pW D, pB D, pP D, D.2.2.2.1, D.2.2.2.2.1, updN D.2.2.2.2.2 (pP D - 1) v)
def isD (x : Nat) : Bool := decide (48 ≤ x) && decide (x ≤ 57)
def stp (s : Nat) (D : Pl) (x : Nat) : Option (Nat × Pl) :=
  if s = 1 then (if x = 66 then some (2, D) else none)
  else if s = 3 then (if x = 83 ∧ pB D < 2 then some (4, dB D) else if x = 80 ∧ pP D < 5 then some (6, dP D) else none)
  else if isD x = true then (if s = 2 then some (3, dW D (x - 48)) else if s = 4 then some (5, dF D (x - 48)) else if s = 5 then (if x = 48 then none else some (3, dE D (x - 48))) else some (3, dT D (x - 48)))
  else none
def rdr (t : Nat → Nat) : Nat → Nat → Nat → Pl → Int32 × Pl
  | 0, i, s, D => (if s = 3 then -9 else nI i, D)
  | d + 1, i, s, D => match stp s D (t i) with
    | none => (nI i, D)
    | some q => rdr t d (i + 1) q.1 q.2
theorem rdr_n {t : Nat → Nat} {d i s : Nat} {D : Pl} (h : stp s D (t i) = none) : rdr t (d + 1) i s D = (nI i, D) := by
  show (match stp s D (t i) with | none => (nI i, D) | some q => rdr t d (i + 1) q.1 q.2) = _
  rw [h]
theorem rdr_s {t : Nat → Nat} {d i s s' : Nat} {D D' : Pl} (h : stp s D (t i) = some (s', D')) : rdr t (d + 1) i s D = rdr t d (i + 1) s' D' := by
  show (match stp s D (t i) with | none => (nI i, D) | some q => rdr t d (i + 1) q.1 q.2) = _
  rw [h]
def nF (s : Nat) (D : Pl) : Nat := if s = 4 then pB D - 1 else pB D
def nE (s : Nat) (D : Pl) : Nat := if s = 4 ∨ s = 5 then pB D - 1 else pB D
def nT (s : Nat) (D : Pl) : Nat := if s = 6 then pP D - 1 else pP D
def DV (s : Nat) (D : Pl) : Prop := (1 ≤ s ∧ s ≤ 6) ∧ pW D ≤ 9 ∧ pB D ≤ 2 ∧ pP D ≤ 5 ∧ (∀ b, b < nF s D → pF D b ≤ 9) ∧ (∀ b, b < nE s D → 1 ≤ pE D b ∧ pE D b ≤ 9) ∧ (∀ p, p < nT s D → pT D p ≤ 9) ∧ ((s = 4 ∨ s = 5) → 1 ≤ pB D) ∧ (s = 6 → 1 ≤ pP D)
theorem isD_t {x : Nat} (h : isD x = true) : 48 ≤ x ∧ x ≤ 57 := by
  unfold isD at h
  simp only [Bool.and_eq_true, decide_eq_true_eq] at h
  exact h
theorem stp_V {s s' x : Nat} {D D' : Pl} (h : DV s D) (e : stp s D x = some (s', D')) : DV s' D' := by
  obtain ⟨h0, h1, h2, h3, h4, h5, h6, h7, h8⟩ := h
  unfold stp at e
  by_cases c1 : s = 1
  · rw [if_pos c1] at e
    by_cases c : x = 66
    · rw [if_pos c] at e
      cases e
      subst c1
      exact ⟨by omega, h1, h2, h3, h4, h5, h6, by omega, by omega⟩
    · rw [if_neg c] at e; cases e
  rw [if_neg c1] at e
  by_cases c3 : s = 3
  · subst c3
    rw [if_pos rfl] at e
    by_cases c : x = 83 ∧ pB D < 2
    · rw [if_pos c] at e
      cases e
      exact ⟨by omega, h1, by show pB D + 1 ≤ 2; omega, h3, fun b hb => h4 b hb, fun b hb => h5 b hb, h6, fun _ => by show 1 ≤ pB D + 1; omega, by omega⟩
    · rw [if_neg c] at e
      by_cases c' : x = 80 ∧ pP D < 5
      · rw [if_pos c'] at e
        cases e
        exact ⟨by omega, h1, h2, by show pP D + 1 ≤ 5; omega, h4, h5, fun p hp => h6 p hp, by omega, fun _ => by show 1 ≤ pP D + 1; omega⟩
      · rw [if_neg c'] at e; cases e
  rw [if_neg c3] at e
  by_cases cd : isD x = true
  · have hd := isD_t cd
    rw [if_pos cd] at e
    by_cases c2 : s = 2
    · subst c2
      rw [if_pos rfl] at e
      cases e
      exact ⟨by omega, by show x - 48 ≤ 9; omega, h2, h3, h4, h5, h6, by omega, by omega⟩
    rw [if_neg c2] at e
    by_cases c4 : s = 4
    · subst c4
      rw [if_pos rfl] at e
      cases e
      have hB := h7 (Or.inl rfl)
      refine ⟨by omega, h1, h2, h3, fun b hb => ?_, fun b hb => h5 b hb, h6, fun _ => hB, by omega⟩
      have hb : b < pB D := hb
      show updN D.2.2.2.1 (pB D - 1) (x - 48) b ≤ 9
      by_cases e : b = pB D - 1
      · subst e; rw [updN_s]; omega
      · rw [updN_n e]; exact h4 b (by show b < pB D - 1; omega)
    rw [if_neg c4] at e
    by_cases c5 : s = 5
    · subst c5
      rw [if_pos rfl] at e
      by_cases cz : x = 48
      · rw [if_pos cz] at e; cases e
      · rw [if_neg cz] at e
        cases e
        refine ⟨by omega, h1, h2, h3, fun b hb => h4 b hb, fun b hb => ?_, h6, by omega, by omega⟩
        have hb : b < pB D := hb
        show 1 ≤ updN D.2.2.2.2.1 (pB D - 1) (x - 48) b ∧ updN D.2.2.2.2.1 (pB D - 1) (x - 48) b ≤ 9
        by_cases e : b = pB D - 1
        · subst e; rw [updN_s]; omega
        · rw [updN_n e]; exact h5 b (by show b < pB D - 1; omega)
    rw [if_neg c5] at e
    cases e
    have c6 : s = 6 := by omega
    subst c6
    refine ⟨by omega, h1, h2, h3, h4, h5, fun p hp => ?_, by omega, by omega⟩
    have hp : p < pP D := hp
    show updN D.2.2.2.2.2 (pP D - 1) (x - 48) p ≤ 9
    by_cases e : p = pP D - 1
    · subst e; rw [updN_s]; omega
    · rw [updN_n e]; exact h6 p (by show p < pP D - 1; omega)
  · rw [if_neg cd] at e; cases e
theorem rdr_V {t : Nat → Nat} : ∀ (d i s : Nat) (D : Pl), i + d < 2 ^ 31 → DV s D → (rdr t d i s D).1 = -9 → PV (rdr t d i s D).2
  | 0, i, s, D, hi, h, e => by
    have e : (if s = 3 then (-9 : Int32) else nI i) = -9 := e
    by_cases c : s = 3
    · subst c
      exact ⟨h.2.1, h.2.2.1, h.2.2.2.1, fun b hb => ⟨h.2.2.2.2.1 b hb, h.2.2.2.2.2.1 b hb⟩, fun p hp => h.2.2.2.2.2.2.1 p hp⟩
    · rw [if_neg c] at e
      exact absurd e (n9 (by omega))
  | d + 1, i, s, D, hi, h, e => by
    cases hq : stp s D (t i) with
    | none =>
      rw [rdr_n hq] at e
      exact absurd e (n9 (by omega))
    | some q =>
      obtain ⟨s', D'⟩ := q
      rw [rdr_s hq] at e ⊢
      exact rdr_V d (i + 1) s' D' (by omega) (stp_V h hq) e
def D0 : Pl := (0, 0, 0, fun _ => 0, fun _ => 0, fun _ => 0)
theorem D0_V : DV 1 D0 := ⟨by omega, Nat.zero_le _, Nat.zero_le _, Nat.zero_le _, fun b hb => absurd hb (by show ¬ b < 0; omega), fun b hb => absurd hb (by show ¬ b < 0; omega), fun b hb => absurd hb (by show ¬ b < 0; omega), by omega, by omega⟩
/-! the class reads into its draft -/
def DR (μ : Mu) (q s : Nat) (D : Pl) : Prop := Pp μ q ∧ gI μ q 0 = nI (pW D) ∧ gI μ q 1 = nI (pB D) ∧ gI μ q 2 = nI (pP D) ∧ (∀ b, b < nF s D → gI μ (q + 1) b = nI (pF D b)) ∧ (∀ b, b < nE s D → gI μ (q + 2) b = nI (pE D b)) ∧ ∀ p, p < nT s D → gI μ (q + 3) p = nI (pT D p)
theorem DR.hasB {μ : Mu} {q s : Nat} {D : Pl} (h : DR μ q s D) (h1 : 1 ≤ pB D) (h2 : pB D ≤ 2) : m_X2_hasBooth SH q (nI (pB D - 1)) μ = some (1, μ) := by
  unfold m_X2_hasBooth
  rw [gd_of h.1.iz, h.2.2.1, if_neg (nlt0 (by omega)), if_neg (nle_nI (by omega) (by omega)), if_neg (nleL 2 (by omega) (by decide))]
theorem DR.hasP {μ : Mu} {q s : Nat} {D : Pl} (h : DR μ q s D) (h1 : 1 ≤ pP D) (h2 : pP D ≤ 5) : m_X2_hasPerson SH q (nI (pP D - 1)) μ = some (1, μ) := by
  unfold m_X2_hasPerson
  rw [gd_of h.1.iz, h.2.2.2.1, if_neg (nlt0 (by omega)), if_neg (nle_nI (by omega) (by omega)), if_neg (nleL 5 (by omega) (by decide))]
theorem eqL {a b : Nat} (ha : a < 2 ^ 31) (hb : b < 2 ^ 31) : (nI a = nI b) = (a = b) := propext (nI_eq ha hb)
theorem sub48 {x : Nat} (h : 48 ≤ x) : nI x - 48 = nI (x - 48) := pk_sub (a := x) (b := 48) h
theorem figI {x : Nat} (hx : x < 256) : ((nI x - 48 < 0) = True ∧ isD x = false) ∨ ((nI x - 48 < 0) = False ∧ (nI x - 48 ≤ 9) = False ∧ isD x = false) ∨ ((nI x - 48 < 0) = False ∧ (nI x - 48 ≤ 9) = True ∧ isD x = true) := by
  have key : ∀ x, x < 256 → (decide (nI x - 48 < 0) = true ∧ isD x = false) ∨ (decide (nI x - 48 < 0) = false ∧ decide (nI x - 48 ≤ 9) = false ∧ isD x = false) ∨ (decide (nI x - 48 < 0) = false ∧ decide (nI x - 48 ≤ 9) = true ∧ isD x = true) := by decide +kernel
  rcases key x hx with ⟨a, b⟩ | ⟨a, b, c⟩ | ⟨a, b, c⟩
  · exact Or.inl ⟨eq_true (of_decide_eq_true a), b⟩
  · exact Or.inr (Or.inl ⟨eq_false (of_decide_eq_false a), eq_false (of_decide_eq_false b), c⟩)
  · exact Or.inr (Or.inr ⟨eq_false (of_decide_eq_false a), eq_true (of_decide_eq_true b), c⟩)
def Dok (μ μ' : Mu) (q : Nat) : Prop := (∀ x k, gR μ' x k = gR μ x k) ∧ (∀ x k, gJ μ' x k = gJ μ x k) ∧ ∀ x k, (x < q ∨ q + 4 ≤ x) → gI μ' x k = gI μ x k
theorem Dok.rf {μ : Mu} {q : Nat} : Dok μ μ q := ⟨fun _ _ => rfl, fun _ _ => rfl, fun _ _ _ => rfl⟩
theorem Dok.tr {μ μ1 μ2 : Mu} {q : Nat} (h : Dok μ μ1 q) (h2 : Dok μ1 μ2 q) : Dok μ μ2 q := ⟨fun x k => (h2.1 x k).trans (h.1 x k), fun x k => (h2.2.1 x k).trans (h.2.1 x k), fun x k hx => (h2.2.2 x k hx).trans (h.2.2 x k hx)⟩
theorem Dok.wr {μ : Mu} {q a k : Nat} {v : Int32} (h : q ≤ a ∧ a < q + 4) : Dok μ (sI μ a k v) q := ⟨fun _ _ => rfl, fun _ _ => rfl, fun x j hx => by rw [gI_sI, if_neg (by omega)]⟩
/-- one step -/
theorem x_due {μ : Mu} {q s x : Nat} {D : Pl} (h : DR μ q s D) (hV : DV s D) (hx : x < 256) : (stp s D x = none ∧ ∃ μ', m_X2_dueBehind SH q (nI s) (nI x) μ = some (0, μ') ∧ Dok μ μ' q) ∨ ∃ s' D' μ', stp s D x = some (s', D') ∧ m_X2_dueBehind SH q (nI s) (nI x) μ = some (nI s', μ') ∧ DR μ' q s' D' ∧ Dok μ μ' q := by
  obtain ⟨v0, v1, v2, v3, v4, v5, v6, v7, v8⟩ := id hV
  obtain ⟨w0, w1, w2, w3, w4, w5, w6⟩ := id h
  have L : ∀ k, k < 2 ^ 31 → (nI s = nI k) = (s = k) := fun k hk => eqL (by omega) hk
  have LX : ∀ k, k < 2 ^ 31 → (nI x = nI k) = (x = k) := fun k hk => eqL (by omega) hk
  have s1 : (nI s = 1) = (s = 1) := L 1 (by decide)
  have s2 : (nI s = 2) = (s = 2) := L 2 (by decide)
  have s3 : (nI s = 3) = (s = 3) := L 3 (by decide)
  have s4 : (nI s = 4) = (s = 4) := L 4 (by decide)
  have s5 : (nI s = 5) = (s = 5) := L 5 (by decide)
  have s6 : (nI s = 6) = (s = 6) := L 6 (by decide)
  have x66 : (nI x = 66) = (x = 66) := LX 66 (by decide)
  have x83 : (nI x = 83) = (x = 83) := LX 83 (by decide)
  have x80 : (nI x = 80) = (x = 80) := LX 80 (by decide)
  by_cases c1 : s = 1
  · subst c1
    by_cases c : x = 66
    · subst c
      exact Or.inr ⟨2, D, μ, by unfold stp; rw [if_pos rfl, if_pos rfl], rfl, ⟨w0, w1, w2, w3, w4, w5, w6⟩, Dok.rf⟩
    · refine Or.inl ⟨by unfold stp; rw [if_pos rfl, if_neg c], μ, ?_, Dok.rf⟩
      simp only [bd_n, gd_n, ca2_n, ca_n, nbtF, pbfT, Bool.not_true, Bool.not_false, if_true, if_false, m_X2_dueBehind, s1, x66, c]
  by_cases c3 : s = 3
  · subst c3
    have hB : ∀ z, z < 256 → (¬ (z = 83 ∧ pB D < 2) ∧ z = 83) → ((2 : Int32) ≤ nI (pB D)) = True := fun z _ hz => eq_true (leL 2 (by omega) (by omega))
    by_cases c : x = 83 ∧ pB D < 2
    · have u2 : ((2 : Int32) ≤ nI (pB D)) = False := eq_false (nleL 2 c.2 (by decide))
      refine Or.inr ⟨4, dB D, sI μ q 1 (nI (pB D + 1)), by unfold stp; rw [if_neg (by decide), if_pos rfl, if_pos c], ?_, ⟨w0.mono (fun _ => rfl), ?_, ?_, ?_, fun b hb => ?_, fun b hb => ?_, fun p hp => ?_⟩, Dok.wr (by omega)⟩
      · have x83t : (nI x = 83) = True := x83.trans (eq_true c.1)
        simp only [bd_n, gd_n, ca2_n, ca_n, nbtF, pbfT, Bool.not_true, Bool.not_false, if_true, if_false, m_X2_dueBehind, s1, s3, w0.iz, m_X2_beginPart, x83t, w2, u2, show nI (pB D) + 1 = nI (pB D + 1) from nI_add _ 1, show (3 = 1) = False from eq_false (by decide)]
        rfl
      · rw [gI_sI, if_pos rfl, if_neg (by decide)]; exact w1
      · rw [gI_sI, if_pos rfl, if_pos rfl]; rfl
      · rw [gI_sI, if_pos rfl, if_neg (by decide)]; exact w3
      · rw [gI_sI, if_neg (by omega)]; exact w4 b hb
      · rw [gI_sI, if_neg (by omega)]; exact w5 b hb
      · rw [gI_sI, if_neg (by omega)]; exact w6 p hp
    · have E : m_X2_dueBehind SH q (nI 3) (nI x) μ = ca2 (m_X2_beginPart_b26 SH q (nI x) μ) fun r10 μ11 => some (r10, μ11) := by
        by_cases e83 : x = 83
        · have u2 := hB x hx ⟨c, e83⟩
          have x83t : (nI x = 83) = True := x83.trans (eq_true e83)
          simp only [bd_n, gd_n, ca2_n, ca_n, nbtF, pbfT, Bool.not_true, Bool.not_false, if_true, if_false, m_X2_dueBehind, s1, s3, w0.iz, m_X2_beginPart, x83t, w2, u2, show (3 = 1) = False from eq_false (by decide)]
        · simp only [bd_n, gd_n, ca2_n, ca_n, nbtF, pbfT, Bool.not_true, Bool.not_false, if_true, if_false, m_X2_dueBehind, s1, s3, w0.iz, m_X2_beginPart, x83, e83, show (3 = 1) = False from eq_false (by decide)]
      rw [E]
      by_cases c' : x = 80 ∧ pP D < 5
      · have u5 : ((5 : Int32) ≤ nI (pP D)) = False := eq_false (nleL 5 c'.2 (by decide))
        refine Or.inr ⟨6, dP D, sI μ q 2 (nI (pP D + 1)), by unfold stp; rw [if_neg (by decide), if_pos rfl, if_neg c, if_pos c'], ?_, ⟨w0.mono (fun _ => rfl), ?_, ?_, ?_, fun b hb => ?_, fun b hb => ?_, fun p hp => ?_⟩, Dok.wr (by omega)⟩
        · have x80t : (nI x = 80) = True := x80.trans (eq_true c'.1)
          simp only [bd_n, gd_n, ca2_n, ca_n, nbtF, pbfT, Bool.not_true, Bool.not_false, if_true, if_false, m_X2_beginPart_b26, x80t, w0.iz, w3, u5, show nI (pP D) + 1 = nI (pP D + 1) from nI_add _ 1]
          rfl
        · rw [gI_sI, if_pos rfl, if_neg (by decide)]; exact w1
        · rw [gI_sI, if_pos rfl, if_neg (by decide)]; exact w2
        · rw [gI_sI, if_pos rfl, if_pos rfl]; rfl
        · rw [gI_sI, if_neg (by omega)]; exact w4 b hb
        · rw [gI_sI, if_neg (by omega)]; exact w5 b hb
        · rw [gI_sI, if_neg (by omega)]; exact w6 p hp
      · refine Or.inl ⟨by unfold stp; rw [if_neg (by decide), if_pos rfl, if_neg c, if_neg c'], μ, ?_, Dok.rf⟩
        by_cases e80 : x = 80
        · have u5 : ((5 : Int32) ≤ nI (pP D)) = True := eq_true (leL 5 (by omega) (by omega))
          have x80t : (nI x = 80) = True := x80.trans (eq_true e80)
          simp only [bd_n, gd_n, ca2_n, ca_n, nbtF, pbfT, Bool.not_true, Bool.not_false, if_true, if_false, m_X2_beginPart_b26, x80t, w0.iz, w3, u5]
        · simp only [bd_n, gd_n, ca2_n, ca_n, nbtF, pbfT, Bool.not_true, Bool.not_false, if_true, if_false, m_X2_beginPart_b26, x80, e80]
  rcases figI hx with ⟨f1, f2⟩ | ⟨f1, f2, f3⟩ | ⟨f1, f2, f3⟩
  · refine Or.inl ⟨by unfold stp; rw [if_neg c1, if_neg c3, f2, if_neg (by decide)], μ, ?_, Dok.rf⟩
    simp only [bd_n, gd_n, ca2_n, ca_n, nbtF, pbfT, Bool.not_true, Bool.not_false, if_true, if_false, m_X2_dueBehind, s1, s3, c1, c3, f1]
  · refine Or.inl ⟨by unfold stp; rw [if_neg c1, if_neg c3, f3, if_neg (by decide)], μ, ?_, Dok.rf⟩
    simp only [bd_n, gd_n, ca2_n, ca_n, nbtF, pbfT, Bool.not_true, Bool.not_false, if_true, if_false, m_X2_dueBehind, s1, s3, c1, c3, f1, f2]
  have hd := isD_t f3
  rw [sub48 hd.1] at f1 f2
  have E : m_X2_dueBehind SH q (nI s) (nI x) μ = ca2 (m_X2_takeFigure SH q (nI s) (nI (x - 48)) μ) fun r7 μ8 => some (r7, μ8) := by
    simp only [bd_n, gd_n, ca2_n, ca_n, nbtF, pbfT, Bool.not_true, Bool.not_false, if_true, if_false, m_X2_dueBehind, s1, s3, c1, c3, f1, f2, w0.iz, sub48 hd.1]
  rw [E]
  by_cases c2 : s = 2
  · subst c2
    refine Or.inr ⟨3, dW D (x - 48), sI μ q 0 (nI (x - 48)), by unfold stp; rw [if_neg (by decide), if_neg (by decide), if_pos f3, if_pos rfl], ?_, ⟨w0.mono (fun _ => rfl), ?_, ?_, ?_, fun b hb => ?_, fun b hb => ?_, fun p hp => ?_⟩, Dok.wr (by omega)⟩
    · simp only [bd_n, gd_n, ca2_n, ca_n, nbtF, pbfT, Bool.not_true, Bool.not_false, if_true, if_false, m_X2_takeFigure, s2, w0.iz]
      rfl
    · rw [gI_sI, if_pos rfl, if_pos rfl]; rfl
    · rw [gI_sI, if_pos rfl, if_neg (by decide)]; exact w2
    · rw [gI_sI, if_pos rfl, if_neg (by decide)]; exact w3
    · rw [gI_sI, if_neg (by omega)]; exact w4 b hb
    · rw [gI_sI, if_neg (by omega)]; exact w5 b hb
    · rw [gI_sI, if_neg (by omega)]; exact w6 p hp
  have one0 : ((1 : Int32) = 0) = False := eq_false (by decide)
  by_cases c4 : s = 4
  · subst c4
    have hB1 := v7 (Or.inl rfl)
    have u1 : nI (pB D) - 1 = nI (pB D - 1) := pk_sub (a := pB D) (b := 1) hB1
    have x1 : ix SH 8 (q + 1) (nI (pB D - 1)) = true := ix_of w0.sh1.1 (by omega) (by decide)
    have p1 : (nI (pB D - 1)).toNatClampNeg = pB D - 1 := nI_clamp (by omega)
    refine Or.inr ⟨5, dF D (x - 48), sI μ (q + 1) (pB D - 1) (nI (x - 48)), by unfold stp; rw [if_neg (by decide), if_neg (by decide), if_pos f3, if_neg (by decide), if_pos rfl], ?_, ⟨w0.mono (fun _ => rfl), ?_, ?_, ?_, fun b hb => ?_, fun b hb => ?_, fun p hp => ?_⟩, Dok.wr (by omega)⟩
    · simp only [bd_n, gd_n, ca2_n, ca_n, nbtF, pbfT, Bool.not_true, Bool.not_false, if_true, if_false, m_X2_takeFigure, s2, s4, c2, w0.iz, w2, u1, h.hasB hB1 v2, one0, w0.2.1, x1, p1]
      rfl
    · rw [gI_sI, if_neg (by omega)]; exact w1
    · rw [gI_sI, if_neg (by omega)]; exact w2
    · rw [gI_sI, if_neg (by omega)]; exact w3
    · have hb : b < pB D := hb
      show _ = nI (updN D.2.2.2.1 (pB D - 1) (x - 48) b)
      rw [gI_sI, if_pos rfl]
      by_cases e : b = pB D - 1
      · rw [if_pos e, e, updN_s]
      · rw [if_neg e, updN_n e]; exact w4 b (by show b < pB D - 1; omega)
    · rw [gI_sI, if_neg (by omega)]; exact w5 b hb
    · rw [gI_sI, if_neg (by omega)]; exact w6 p hp
  by_cases c5 : s = 5
  · subst c5
    have hB1 := v7 (Or.inr rfl)
    have u1 : nI (pB D) - 1 = nI (pB D - 1) := pk_sub (a := pB D) (b := 1) hB1
    have x1 : ix SH 8 (q + 2) (nI (pB D - 1)) = true := ix_of w0.sh1.2.1 (by omega) (by decide)
    have p1 : (nI (pB D - 1)).toNatClampNeg = pB D - 1 := nI_clamp (by omega)
    by_cases cz : x = 48
    · refine Or.inl ⟨by unfold stp; rw [if_neg (by decide), if_neg (by decide), if_pos f3, if_neg (by decide), if_neg (by decide), if_pos rfl, if_pos cz], μ, ?_, Dok.rf⟩
      have z0 : (nI (x - 48) ≤ 0) = True := by rw [cz]; exact eq_true (by decide)
      simp only [bd_n, gd_n, ca2_n, ca_n, nbtF, pbfT, Bool.not_true, Bool.not_false, if_true, if_false, m_X2_takeFigure, s2, s4, c2, c4, m_X2_takeFigure_b44, s5, w0.iz, w2, u1, h.hasB hB1 v2, one0, z0, m_X2_takeFigure_b80, s6, show (5 = 6) = False from eq_false (by decide)]
    · have z0 : (nI (x - 48) ≤ 0) = False := eq_false (nle_nI (n := x - 48) (i := 0) (by omega) (by omega))
      refine Or.inr ⟨3, dE D (x - 48), sI μ (q + 2) (pB D - 1) (nI (x - 48)), by unfold stp; rw [if_neg (by decide), if_neg (by decide), if_pos f3, if_neg (by decide), if_neg (by decide), if_pos rfl, if_neg cz], ?_, ⟨w0.mono (fun _ => rfl), ?_, ?_, ?_, fun b hb => ?_, fun b hb => ?_, fun p hp => ?_⟩, Dok.wr (by omega)⟩
      · simp only [bd_n, gd_n, ca2_n, ca_n, nbtF, pbfT, Bool.not_true, Bool.not_false, if_true, if_false, m_X2_takeFigure, s2, s4, c2, c4, m_X2_takeFigure_b44, s5, w0.iz, w2, u1, h.hasB hB1 v2, one0, z0, w0.2.2.1, x1, p1]
        rfl
      · rw [gI_sI, if_neg (by omega)]; exact w1
      · rw [gI_sI, if_neg (by omega)]; exact w2
      · rw [gI_sI, if_neg (by omega)]; exact w3
      · rw [gI_sI, if_neg (by omega)]; exact w4 b hb
      · have hb : b < pB D := hb
        show _ = nI (updN D.2.2.2.2.1 (pB D - 1) (x - 48) b)
        rw [gI_sI, if_pos rfl]
        by_cases e : b = pB D - 1
        · rw [if_pos e, e, updN_s]
        · rw [if_neg e, updN_n e]; exact w5 b (by show b < pB D - 1; omega)
      · rw [gI_sI, if_neg (by omega)]; exact w6 p hp
  have c6 : s = 6 := by omega
  subst c6
  have hP1 := v8 rfl
  have u1 : nI (pP D) - 1 = nI (pP D - 1) := pk_sub (a := pP D) (b := 1) hP1
  have x1 : ix SH 8 (q + 3) (nI (pP D - 1)) = true := ix_of w0.sh1.2.2 (by omega) (by decide)
  have p1 : (nI (pP D - 1)).toNatClampNeg = pP D - 1 := nI_clamp (by omega)
  refine Or.inr ⟨3, dT D (x - 48), sI μ (q + 3) (pP D - 1) (nI (x - 48)), by unfold stp; rw [if_neg (by decide), if_neg (by decide), if_pos f3, if_neg (by decide), if_neg (by decide), if_neg (by decide)], ?_, ⟨w0.mono (fun _ => rfl), ?_, ?_, ?_, fun b hb => ?_, fun b hb => ?_, fun p hp => ?_⟩, Dok.wr (by omega)⟩
  · simp only [bd_n, gd_n, ca2_n, ca_n, nbtF, pbfT, Bool.not_true, Bool.not_false, if_true, if_false, m_X2_takeFigure, s2, s4, c2, c4, m_X2_takeFigure_b44, s5, c5, m_X2_takeFigure_b80, s6, w0.iz, w3, u1, h.hasP hP1 v3, one0, w0.2.2.2, x1, p1]
    rfl
  · rw [gI_sI, if_neg (by omega)]; exact w1
  · rw [gI_sI, if_neg (by omega)]; exact w2
  · rw [gI_sI, if_neg (by omega)]; exact w3
  · rw [gI_sI, if_neg (by omega)]; exact w4 b hb
  · rw [gI_sI, if_neg (by omega)]; exact w5 b hb
  · have hp : p < pP D := hp
    show _ = nI (updN D.2.2.2.2.2 (pP D - 1) (x - 48) p)
    rw [gI_sI, if_pos rfl]
    by_cases e : p = pP D - 1
    · rw [if_pos e, e, updN_s]
    · rw [if_neg e, updN_n e]; exact w6 p (by show p < pP D - 1; omega)
theorem x_read {μ0 : Mu} {q L : Nat} {t : Nat → Nat} (hL : L ≤ 24) (ht : ∀ i, i < L → gI μ0 2 i = nI (t i) ∧ t i < 256) (hq : q = 3 ∨ q = 7) : ∀ (d i s F : Nat) (D : Pl) (μ : Mu), i + d = L → d < F → DR μ q s D → DV s D → Dok μ0 μ q → ∃ μ', m_X2_readFrom_h20 SH q 2 (nI L) F (nI s) (nI i) μ = some ((rdr t d i s D).1, μ') ∧ ((rdr t d i s D).1 = -9 → PR μ' q (rdr t d i s D).2) ∧ Dok μ0 μ' q := by
  intro d
  induction d with
  | zero =>
    intro i s F D μ hi hF h hV hk
    obtain ⟨F, rfl⟩ : ∃ g, F = g + 1 := ⟨F - 1, by omega⟩
    have e : i = L := by omega
    subst e
    have s3 : (nI s = 3) = (s = 3) := eqL (b := 3) (by have := hV.1; omega) (by decide)
    refine ⟨μ, ?_, fun e => ?_, hk⟩
    · show m_X2_readFrom_b20 SH (m_X2_readFrom_h20 SH q 2 (nI i) F) q 2 (nI i) (nI s) (nI i) μ = _
      simp only [bd_n, gd_n, ca2_n, ca_n, nbtF, pbfT, Bool.not_true, Bool.not_false, if_true, if_false, m_X2_readFrom_b20, show (nI i ≤ nI i) = True from eq_true (Int32.le_refl _), m_X2_readFrom_b56, s3]
      show _ = some (if s = 3 then -9 else nI i, μ)
      by_cases c : s = 3
      · rw [if_pos c, if_pos c]
      · rw [if_neg c, if_neg c]
    · have e : (if s = 3 then (-9 : Int32) else nI i) = -9 := e
      by_cases c : s = 3
      · subst c
        obtain ⟨w0, w1, w2, w3, w4, w5, w6⟩ := h
        exact ⟨w0, w1, w2, w3, fun b hb => ⟨w4 b hb, w5 b hb⟩, fun p hp => w6 p hp⟩
      · rw [if_neg c] at e
        exact absurd e (n9 (by omega))
  | succ d ih =>
    intro i s F D μ hi hF h hV hk
    obtain ⟨F, rfl⟩ : ∃ g, F = g + 1 := ⟨F - 1, by omega⟩
    have hti : gI μ 2 i = nI (t i) := by rw [hk.2.2 2 i (by omega)]; exact (ht i (by omega)).1
    have u1 : (nI L ≤ nI i) = False := eq_false (nle_nI (by omega) (by omega))
    have u2 : (nI (SH 2).2 ≤ nI i) = False := eq_false (nle_nI (n := 24) (by omega) (by decide))
    have x1 : ix SH 8 2 (nI i) = true := ix_of (n := 24) rfl (by omega) (by decide)
    have p1 : (nI i).toNatClampNeg = i := nI_clamp (by omega)
    show ∃ μ', m_X2_readFrom_b20 SH (m_X2_readFrom_h20 SH q 2 (nI L) F) q 2 (nI L) (nI s) (nI i) μ = _ ∧ _
    rcases x_due h hV (ht i (by omega)).2 with ⟨e1, μ1, e2, k1⟩ | ⟨s', D', μ1, e1, e2, h1, k1⟩
    · rw [rdr_n e1]
      refine ⟨μ1, ?_, fun e => absurd e (n9 (by omega)), hk.tr k1⟩
      simp only [bd_n, gd_n, ca2_n, ca_n, nbtF, pbfT, Bool.not_true, Bool.not_false, if_true, if_false, m_X2_readFrom_b20, u1, show iz SH 8 2 = true from rfl, u2, x1, p1, hti, h.1.iz, e2]
    · rw [rdr_s e1]
      have hV' := stp_V hV e1
      obtain ⟨μ', e', z⟩ := ih (i + 1) s' F D' μ1 (by omega) (by omega) h1 hV' (hk.tr k1)
      refine ⟨μ', ?_, z⟩
      rw [← e']
      have s0 : (nI s' = 0) = False := eq_false (fun e => by have := (nI_eq (b := 0) (by have := hV'.1; omega) (by decide)).mp e; have := hV'.1; omega)
      simp only [bd_n, gd_n, ca2_n, ca_n, nbtF, pbfT, Bool.not_true, Bool.not_false, if_true, if_false, m_X2_readFrom_b20, u1, show iz SH 8 2 = true from rfl, u2, x1, p1, hti, h.1.iz, e2, s0, show nI i + 1 = nI (i + 1) from nI_add _ 1]
theorem x_readFrom {μ : Mu} {q L : Nat} {t : Nat → Nat} (hL : L ≤ 24) (ht : ∀ i, i < L → gI μ 2 i = nI (t i) ∧ t i < 256) (hq : Pp μ q) : ∃ μ', m_X2_readFrom SH q 2 (nI L) μ = some ((rdr t L 0 1 D0).1, μ') ∧ ((rdr t L 0 1 D0).1 = -9 → PR μ' q (rdr t L 0 1 D0).2) ∧ Dok μ μ' q := by
  have k0 : Dok μ (sI (sI (sI μ q 0 0) q 1 0) q 2 0) q := (Dok.wr (by omega)).tr ((Dok.wr (by omega)).tr (Dok.wr (by omega)))
  have h0 : DR (sI (sI (sI μ q 0 0) q 1 0) q 2 0) q 1 D0 := by
    refine ⟨hq.mono (fun _ => rfl), ?_, ?_, ?_, fun b hb => absurd hb (by show ¬ b < 0; omega), fun b hb => absurd hb (by show ¬ b < 0; omega), fun b hb => absurd hb (by show ¬ b < 0; omega)⟩
    · rw [gI_sI, if_pos rfl, if_neg (by decide), gI_sI, if_pos rfl, if_neg (by decide), gI_sI, if_pos rfl, if_pos rfl]; rfl
    · rw [gI_sI, if_pos rfl, if_neg (by decide), gI_sI, if_pos rfl, if_pos rfl]; rfl
    · rw [gI_sI, if_pos rfl, if_pos rfl]; rfl
  obtain ⟨μ', e', z1, z2⟩ := x_read hL ht hq.1 L 0 1 FU D0 _ (by omega) (by rw [FU_eq]; omega) h0 D0_V k0
  refine ⟨μ', ?_, z1, z2⟩
  rw [show nI 0 = (0 : Int32) from rfl, show nI 1 = (1 : Int32) from rfl] at e'
  simp only [bd_n, gd_n, ca2_n, ca_n, nbtF, pbfT, Bool.not_true, Bool.not_false, if_true, if_false, m_X2_readFrom, hq.iz, e']

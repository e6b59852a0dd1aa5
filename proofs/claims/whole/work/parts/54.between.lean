/-! between -/
theorem elB_iff {f : Nat → Int32} {b a W p : Nat} : ∀ {N : Nat}, elB f b a W p N = true ↔ ∃ j, j < N ∧ nearB f b a W j = true ∧ hasB (sQ f j) p = true
  | 0 => ⟨(fun h => by cases h), fun ⟨j, hj, _⟩ => absurd hj (by omega)⟩
  | N + 1 => by
    have ih := elB_iff (f := f) (b := b) (a := a) (W := W) (p := p) (N := N)
    show (elB f b a W p N || (nearB f b a W N && hasB (sQ f N) p)) = true ↔ _
    rw [Bool.or_eq_true, Bool.and_eq_true, ih]
    constructor
    · rintro (⟨j, h1, h2⟩ | h)
      · exact ⟨j, by omega, h2⟩
      · exact ⟨N, by omega, h⟩
    · rintro ⟨j, h1, h2⟩
      by_cases e : j = N
      · subst e; exact Or.inr h2
      · exact Or.inl ⟨j, by omega, h2⟩
def hsB (r : Int32) (p : Nat) : Bool := !decide (r = -9) && hasB r.toNatClampNeg p
def onR (f : Nat → Int32) (m p : Nat) : Nat → Bool
  | 0 => false
  | b + 1 => onR f m p b || hsB (shL f b m (4 * szF f)) p
theorem onR_iff {f : Nat → Int32} {m p : Nat} : ∀ {B : Nat}, onR f m p B = true ↔ ∃ b, b < B ∧ hsB (shL f b m (4 * szF f)) p = true
  | 0 => ⟨(fun h => by cases h), fun ⟨j, hj, _⟩ => absurd hj (by omega)⟩
  | B + 1 => by
    have ih := onR_iff (f := f) (m := m) (p := p) (B := B)
    show (onR f m p B || hsB (shL f B m (4 * szF f)) p) = true ↔ _
    rw [Bool.or_eq_true, ih]
    constructor
    · rintro (⟨j, h1, h2⟩ | h)
      · exact ⟨j, by omega, h2⟩
      · exact ⟨B, by omega, h⟩
    · rintro ⟨j, h1, h2⟩
      by_cases e : j = B
      · subst e; exact Or.inr h2
      · exact Or.inl ⟨j, by omega, h2⟩
theorem dist0 {t a : Nat} : dist t a < max 1 0 ↔ t = a := by
  unfold dist
  split <;> omega
theorem on_eq {P : Pl} {c m p : Nat} {f : Nat → Int32} (g : GP P c f) (hv : PV P) (hc : c < 512) (hm : m < 1000) : (elB f 0 m 0 p (4 * szF f) || elB f 1 m 0 p (4 * szF f)) = onR f m p (pB P) := by
  have hL := g.lks hc
  have hB2 := hv.2.1
  have key : ∀ b, b < pB P → (elB f b m 0 p (4 * szF f) = true ↔ hsB (shL f b m (4 * szF f)) p = true) := by
    intro b hb
    rw [elB_iff]
    constructor
    · rintro ⟨j, hj, hn, hh⟩
      unfold nearB at hn
      rw [Bool.and_eq_true, decide_eq_true_eq, decide_eq_true_eq, dist0] at hn
      obtain ⟨v1, v2, v3, v4⟩ := hL j hj
      have lk : isLk f b m j = true := by
        unfold isLk
        rw [decide_eq_true hn.1, v1, hn.2]
        simp
      have e := shL_at lk hj (fun z h1 h2 => by
        cases hb : isLk f b m z with
        | false => rfl
        | true => have := g.one hj h2 lk hb; omega)
      rw [e, v3]
      unfold hsB
      rw [decide_eq_false (n9 (show sQ f j < 2 ^ 31 by omega)), nI_clamp (by omega), hh]
      rfl
    · intro h
      rcases shL_ok (b := b) (a := m) hL with q | ⟨j, h1, h2, h3, h4⟩
      · rw [q] at h
        cases h
      · rw [h3] at h
        unfold hsB at h
        rw [nI_clamp (by omega), Bool.and_eq_true] at h
        have := isLk_t h2
        obtain ⟨v1, v2, v3, v4⟩ := hL j h1
        refine ⟨j, h1, ?_, h.2⟩
        unfold nearB
        have em : mN f j = m := (nI_eq (by omega) (by omega)).mp (v1.symm.trans this.2)
        rw [Bool.and_eq_true, decide_eq_true_eq, decide_eq_true_eq, dist0]
        exact ⟨this.1, em⟩
  have no : ∀ b, b < 2 → ¬ b < pB P → elB f b m 0 p (4 * szF f) = false := by
    intro b hb2 hb
    cases he : elB f b m 0 p (4 * szF f) with
    | false => rfl
    | true =>
      obtain ⟨j, hj, hn, hh⟩ := elB_iff.mp he
      unfold nearB at hn
      rw [Bool.and_eq_true, decide_eq_true_eq] at hn
      obtain ⟨⟨b', h1, h2, h3⟩, _⟩ := g.2.2.2.2.2.1 (j / 4) (by omega)
      have : bo f j = nI b' := h3
      rw [hn.1] at this
      have := (nI_eq (by omega) (by omega)).mp this
      omega
  have e : ((elB f 0 m 0 p (4 * szF f) || elB f 1 m 0 p (4 * szF f)) = true) ↔ (onR f m p (pB P) = true) := by
    rw [Bool.or_eq_true, onR_iff]
    constructor
    · rintro (h | h)
      · by_cases hb : 0 < pB P
        · exact ⟨0, hb, (key 0 hb).mp h⟩
        · rw [no 0 (by omega) hb] at h; cases h
      · by_cases hb : 1 < pB P
        · exact ⟨1, hb, (key 1 hb).mp h⟩
        · rw [no 1 (by omega) hb] at h; cases h
    · rintro ⟨b, hb, h⟩
      have := (key b hb).mpr h
      rcases (show b = 0 ∨ b = 1 by omega) with rfl | rfl
      · exact Or.inl this
      · exact Or.inr this
  cases h1 : (elB f 0 m 0 p (4 * szF f) || elB f 1 m 0 p (4 * szF f)) <;> cases h2 : onR f m p (pB P) <;> simp_all
def hbB (P : Pl) (f : Nat → Int32) (m p b : Nat) : Bool := (decide (shL f b m (4 * szF f) = -9) || hsB (shL f b m (4 * szF f)) p) && !elB f (1 - b) m (pW P) p (4 * szF f)
def plI (P : Pl) (f : Nat → Int32) (m p : Nat) : Nat → Int32
  | 0 => 0
  | b + 1 => if hbB P f m p b = true then plI P f m p b ||| (1 <<< (nI b &&& 31)) else plI P f m p b
theorem x_beenIn {μ : Mu} {σ : Sg} {c b m p : Nat} (iX : InvX μ σ) (g : Good σ c) (hc : c < 512) (hb : b < pB (sP σ)) (hm : m < 1000) (hp : p < 5) : m_X6_canHaveBeenIn SH 1 (nI p) (nI b) (nI m) μ = some (bI (hbB (sP σ) (sN σ).1 m p b), μ) := by
  have hv := g.pv
  have hB2 := hv.2.1
  have hsz := g.gp.sz
  have hL := g.gp.lks hc
  have hsh := x_shown (b := b) (a := m) iX.sr hsz.1 hsz.2
  rw [g.gp.sh] at hsh
  have hsn := x_sn (b := 1 - b) (a := m) (W := pW (sP σ)) iX.sr hsz.1 hsz.2 hL (by omega) hv.1
  have hlt := snN_lt (b := 1 - b) (a := m) (W := pW (sP σ)) hL
  have hh := xs_has (s := snN (sN σ).1 (1 - b) m (pW (sP σ)) (4 * szF (sN σ).1)) (p := p) (μ := μ) (by omega) hp
  rw [sn_el hp hL] at hh
  have h27 : m_X6_canHaveBeenIn_b27 SH 1 (nI p) (nI b) (nI m) μ = some (bI (!elB (sN σ).1 (1 - b) m (pW (sP σ)) p (4 * szF (sN σ).1)), μ) := by
    cases he : elB (sN σ).1 (1 - b) m (pW (sP σ)) p (4 * szF (sN σ).1) with
    | true =>
      rw [he] at hh
      simp only [bd_n, gd_n, ca2_n, ca_n, nbtF, pbfT, Bool.not_true, Bool.not_false, if_true, if_false, m_X6_canHaveBeenIn_b27, iz6, iz411, iX.1.now, iX.pr.1.iz, iX.pr.2.1, one_sub (show b < 2 by omega), hsn, hh]
      rfl
    | false =>
      rw [he] at hh
      simp only [bd_n, gd_n, ca2_n, ca_n, nbtF, pbfT, Bool.not_true, Bool.not_false, if_true, if_false, m_X6_canHaveBeenIn_b27, iz6, iz411, iX.1.now, iX.pr.1.iz, iX.pr.2.1, one_sub (show b < 2 by omega), hsn, hh]
      rfl
  unfold hbB
  rcases shL_ok (b := b) (a := m) hL with q | ⟨j, h1, h2, h3, h4⟩
  · rw [decide_eq_true q, Bool.true_or, Bool.true_and, ← h27]
    simp only [bd_n, gd_n, ca2_n, ca_n, nbtF, pbfT, Bool.not_true, Bool.not_false, if_true, if_false, m_X6_canHaveBeenIn, iz6, iz411, iX.1.now, hsh, q]
  · have n1 : ¬ nI (sQ (sN σ).1 j) = -9 := n9 (by omega)
    rw [h3] at hsh ⊢
    rw [decide_eq_false n1, Bool.false_or]
    unfold hsB
    rw [decide_eq_false n1, nI_clamp (by omega), Bool.not_false, Bool.true_and]
    have hh2 := xs_has (s := sQ (sN σ).1 j) (p := p) (μ := μ) (by omega) hp
    cases h5 : hasB (sQ (sN σ).1 j) p with
    | true =>
      rw [h5] at hh2
      rw [Bool.true_and, ← h27]
      simp only [bd_n, gd_n, ca2_n, ca_n, nbtF, pbfT, Bool.not_true, Bool.not_false, if_true, if_false, m_X6_canHaveBeenIn, iz6, iz411, iX.1.now, hsh, n1, hh2]
    | false =>
      rw [h5] at hh2
      rw [Bool.false_and]
      simp only [bd_n, gd_n, ca2_n, ca_n, nbtF, pbfT, Bool.not_true, Bool.not_false, if_true, if_false, m_X6_canHaveBeenIn, iz6, iz411, iX.1.now, hsh, n1, hh2]
      rfl
theorem x_betw {μ : Mu} {σ : Sg} {c m p : Nat} (iX : InvX μ σ) (g : Good σ c) (hc : c < 512) (hm : m < 1000) (hp : p < 5) : ∀ (d b F : Nat), b + d = pB (sP σ) → d < F → m_X6_between_h28 SH 1 (nI p) (nI m) F (plI (sP σ) (sN σ).1 m p b) (nI b) μ = some (if onR (sN σ).1 m p (pB (sP σ)) = true then plI (sP σ) (sN σ).1 m p (pB (sP σ)) else plI (sP σ) (sN σ).1 m p (pB (sP σ)) ||| 4, μ) := by
  have hv := g.pv
  have hB2 := hv.2.1
  have hsz := g.gp.sz
  have hL := g.gp.lks hc
  intro d
  induction d with
  | zero =>
    intro b F hi hF
    obtain ⟨F, rfl⟩ : ∃ g, F = g + 1 := ⟨F - 1, by omega⟩
    have e : b = pB (sP σ) := by omega
    subst e
    show m_X6_between_b28 SH (m_X6_between_h28 SH 1 (nI p) (nI m) F) 1 (nI p) (nI m) (plI (sP σ) (sN σ).1 m p (pB (sP σ))) (nI (pB (sP σ))) μ = _
    have s0 : m_X4_seenNear SH 11 0 (nI m) 0 μ = _ := x_sn (b := 0) (a := m) (W := 0) iX.sr hsz.1 hsz.2 hL (by omega) (by omega)
    have s1 : m_X4_seenNear SH 11 1 (nI m) 0 μ = _ := x_sn (b := 1) (a := m) (W := 0) iX.sr hsz.1 hsz.2 hL (by omega) (by omega)
    have l0 := snN_lt (b := 0) (a := m) (W := 0) hL
    have l1 := snN_lt (b := 1) (a := m) (W := 0) hL
    have hor : snN (sN σ).1 0 m 0 (4 * szF (sN σ).1) ||| snN (sN σ).1 1 m 0 (4 * szF (sN σ).1) < 32 := Nat.or_lt_two_pow (n := 5) l0 l1
    have hh := xs_has (s := snN (sN σ).1 0 m 0 (4 * szF (sN σ).1) ||| snN (sN σ).1 1 m 0 (4 * szF (sN σ).1)) (p := p) (μ := μ) (by omega) hp
    rw [hasB_or _ l0 _ l1 p hp, sn_el hp hL, sn_el hp hL, on_eq g.gp hv hc hm] at hh
    cases ho : onR (sN σ).1 m p (pB (sP σ)) with
    | true =>
      rw [ho] at hh
      rw [if_pos rfl]
      simp only [bd_n, gd_n, ca2_n, ca_n, nbtF, pbfT, Bool.not_true, Bool.not_false, if_true, if_false, m_X6_between_b28, iz6, iX.pr.1.iz, iX.pr.2.2.1, show (nI (pB (sP σ)) ≤ nI (pB (sP σ))) = True from eq_true (Int32.le_refl _), m_X6_between_b64, iz411, iX.1.now, s0, s1, fa_or, hh]
    | false =>
      rw [ho] at hh
      rw [if_neg (by decide)]
      simp only [bd_n, gd_n, ca2_n, ca_n, nbtF, pbfT, Bool.not_true, Bool.not_false, if_true, if_false, m_X6_between_b28, iz6, iX.pr.1.iz, iX.pr.2.2.1, show (nI (pB (sP σ)) ≤ nI (pB (sP σ))) = True from eq_true (Int32.le_refl _), m_X6_between_b64, iz411, iX.1.now, s0, s1, fa_or, hh]
  | succ d ih =>
    intro b F hi hF
    obtain ⟨F, rfl⟩ : ∃ g, F = g + 1 := ⟨F - 1, by omega⟩
    show m_X6_between_b28 SH (m_X6_between_h28 SH 1 (nI p) (nI m) F) 1 (nI p) (nI m) (plI (sP σ) (sN σ).1 m p b) (nI b) μ = _
    rw [← ih (b + 1) F (by omega) (by omega)]
    have u1 : (nI (pB (sP σ)) ≤ nI b) = False := eq_false (nle_nI (by omega) (by omega))
    have hbi := x_beenIn iX g hc (show b < pB (sP σ) by omega) hm hp
    have st : plI (sP σ) (sN σ).1 m p (b + 1) = if hbB (sP σ) (sN σ).1 m p b = true then plI (sP σ) (sN σ).1 m p b ||| (1 <<< (nI b &&& 31)) else plI (sP σ) (sN σ).1 m p b := rfl
    rw [st]
    cases hh : hbB (sP σ) (sN σ).1 m p b with
    | true =>
      rw [hh] at hbi
      rw [if_pos rfl]
      simp only [bd_n, gd_n, ca2_n, ca_n, nbtF, pbfT, Bool.not_true, Bool.not_false, if_true, if_false, m_X6_between_b28, iz6, iX.pr.1.iz, iX.pr.2.2.1, u1, hbi, m_X6_between_b58, show nI b + 1 = nI (b + 1) from nI_add _ 1]
    | false =>
      rw [hh] at hbi
      rw [if_neg (by decide)]
      simp only [bd_n, gd_n, ca2_n, ca_n, nbtF, pbfT, Bool.not_true, Bool.not_false, if_true, if_false, m_X6_between_b28, iz6, iX.pr.1.iz, iX.pr.2.2.1, u1, hbi, m_X6_between_b58, show nI b + 1 = nI (b + 1) from nI_add _ 1]
theorem y_betw {μ : Mu} {σ : Sg} {c m p : Nat} (iM : InvM μ σ) (g : Good σ c) (hc : c < 512) (hm : m < 1000) (hp : p < 5) : ∀ (d b F : Nat), b + d = pB (sP σ) → d < F → m_X7_between_h38 SH 414 (nI p) (nI m) F (plI (sP σ) (sN σ).1 m p b) (bI (onR (sN σ).1 m p b)) (nI b) μ = some (if onR (sN σ).1 m p (pB (sP σ)) = true then plI (sP σ) (sN σ).1 m p (pB (sP σ)) else plI (sP σ) (sN σ).1 m p (pB (sP σ)) ||| 4, μ) := by
  have hv := g.pv
  have hB2 := hv.2.1
  have hsz := g.gp.sz
  have hL := g.gp.lks hc
  have h5 : gI μ 414 5 = nI (pB (sP σ)) := iM.2.2.2.1.2.1
  intro d
  induction d with
  | zero =>
    intro b F hi hF
    obtain ⟨F, rfl⟩ : ∃ g, F = g + 1 := ⟨F - 1, by omega⟩
    have e : b = pB (sP σ) := by omega
    subst e
    show m_X7_between_b38 SH (m_X7_between_h38 SH 414 (nI p) (nI m) F) 414 (nI p) (nI m) (plI (sP σ) (sN σ).1 m p (pB (sP σ))) (bI (onR (sN σ).1 m p (pB (sP σ)))) (nI (pB (sP σ))) μ = _
    cases ho : onR (sN σ).1 m p (pB (sP σ)) with
    | true =>
      rw [if_pos rfl]
      simp only [bd_n, gd_n, ca2_n, ca_n, nbtF, pbfT, Bool.not_true, Bool.not_false, if_true, if_false, m_X7_between_b38, iz7, h5, show (nI (pB (sP σ)) ≤ nI (pB (sP σ))) = True from eq_true (Int32.le_refl _), m_X7_between_b130]
    | false =>
      rw [if_neg (by decide)]
      simp only [bd_n, gd_n, ca2_n, ca_n, nbtF, pbfT, Bool.not_true, Bool.not_false, if_true, if_false, m_X7_between_b38, iz7, h5, show (nI (pB (sP σ)) ≤ nI (pB (sP σ))) = True from eq_true (Int32.le_refl _), m_X7_between_b130]
  | succ d ih =>
    intro b F hi hF
    obtain ⟨F, rfl⟩ : ∃ g, F = g + 1 := ⟨F - 1, by omega⟩
    show m_X7_between_b38 SH (m_X7_between_h38 SH 414 (nI p) (nI m) F) 414 (nI p) (nI m) (plI (sP σ) (sN σ).1 m p b) (bI (onR (sN σ).1 m p b)) (nI b) μ = _
    rw [← ih (b + 1) F (by omega) (by omega)]
    have u1 : (nI (pB (sP σ)) ≤ nI b) = False := eq_false (nle_nI (by omega) (by omega))
    have hsh := y_shown (b := b) (a := m) iM.1 hsz.1 hsz.2
    have hel := y_el (b := 1 - b) (a := m) (W := pW (sP σ)) (p := p) iM.1 hsz.1 hsz.2 hL (by omega) hv.1 iM.2.2.2.1.1 hp
    have so : onR (sN σ).1 m p (b + 1) = (onR (sN σ).1 m p b || hsB (shL (sN σ).1 b m (4 * szF (sN σ).1)) p) := rfl
    have sp : plI (sP σ) (sN σ).1 m p (b + 1) = if hbB (sP σ) (sN σ).1 m p b = true then plI (sP σ) (sN σ).1 m p b ||| (1 <<< (nI b &&& 31)) else plI (sP σ) (sN σ).1 m p b := rfl
    obtain ⟨V, hV⟩ : ∃ V, V = plI (sP σ) (sN σ).1 m p b := ⟨_, rfl⟩
    obtain ⟨O, hO⟩ : ∃ O, O = onR (sN σ).1 m p b := ⟨_, rfl⟩
    have h101 : ∀ w : Int32, m_X7_between_b101 SH (m_X7_between_h38 SH 414 (nI p) (nI m) F) 414 (nI p) (nI m) w (nI b) V μ = m_X7_between_h38 SH 414 (nI p) (nI m) F (if elB (sN σ).1 (1 - b) m (pW (sP σ)) p (4 * szF (sN σ).1) = true then V else V ||| (1 <<< (nI b &&& 31))) w (nI (b + 1)) μ := by
      intro w
      cases he : elB (sN σ).1 (1 - b) m (pW (sP σ)) p (4 * szF (sN σ).1) with
      | true =>
        rw [he] at hel
        rw [if_pos rfl]
        simp only [bd_n, gd_n, ca2_n, ca_n, nbtF, pbfT, Bool.not_true, Bool.not_false, if_true, if_false, m_X7_between_b101, iz7, one_sub (show b < 2 by omega), hel, m_X7_between_b121, m_X7_between_b122, Int32.or_zero, show nI b + 1 = nI (b + 1) from nI_add _ 1]
      | false =>
        rw [he] at hel
        rw [if_neg (by decide)]
        simp only [bd_n, gd_n, ca2_n, ca_n, nbtF, pbfT, Bool.not_true, Bool.not_false, if_true, if_false, m_X7_between_b101, iz7, one_sub (show b < 2 by omega), hel, m_X7_between_b122, show nI b + 1 = nI (b + 1) from nI_add _ 1]
    rw [sp, so, ← hV, ← hO]
    unfold hbB
    rcases shL_ok (b := b) (a := m) hL with q | ⟨j, h1, h2, h3, h4⟩
    · have hs0 : hsB (shL (sN σ).1 b m (4 * szF (sN σ).1)) p = false := by rw [q]; rfl
      rw [hs0, decide_eq_true q, Bool.true_or, Bool.true_and, Bool.or_false]
      have fin : m_X7_between_b82 SH (m_X7_between_h38 SH 414 (nI p) (nI m) F) 414 (nI p) (nI m) V (nI b) (-9) (bI O) μ = m_X7_between_h38 SH 414 (nI p) (nI m) F (if (!elB (sN σ).1 (1 - b) m (pW (sP σ)) p (4 * szF (sN σ).1)) = true then V ||| (1 <<< (nI b &&& 31)) else V) (bI O) (nI (b + 1)) μ := by
        unfold m_X7_between_b82
        rw [if_pos rfl, h101]
        cases elB (sN σ).1 (1 - b) m (pW (sP σ)) p (4 * szF (sN σ).1) <;> rfl
      rw [← fin]
      cases O with
      | true => simp only [bd_n, gd_n, ca2_n, ca_n, nbtF, pbfT, Bool.not_true, Bool.not_false, if_true, if_false, m_X7_between_b38, iz7, h5, u1, hsh, q, m_X7_between_b77]; rfl
      | false => simp only [bd_n, gd_n, ca2_n, ca_n, nbtF, pbfT, Bool.not_true, Bool.not_false, if_true, if_false, m_X7_between_b38, iz7, h5, u1, hsh, q, m_X7_between_b81]; rfl
    · have n1 : ¬ nI (sQ (sN σ).1 j) = -9 := n9 (by omega)
      rw [h3] at hsh ⊢
      have hh2 := ys_has (s := sQ (sN σ).1 j) (p := p) (μ := μ) (by omega) (by omega)
      have hs1 : hsB (nI (sQ (sN σ).1 j)) p = hasB (sQ (sN σ).1 j) p := by
        unfold hsB
        rw [decide_eq_false n1, nI_clamp (by omega), Bool.not_false, Bool.true_and]
      rw [hs1, decide_eq_false n1, Bool.false_or]
      have fin : ∀ O2 : Bool, m_X7_between_b82 SH (m_X7_between_h38 SH 414 (nI p) (nI m) F) 414 (nI p) (nI m) V (nI b) (nI (sQ (sN σ).1 j)) (bI O2) μ = m_X7_between_h38 SH 414 (nI p) (nI m) F (if (hasB (sQ (sN σ).1 j) p && !elB (sN σ).1 (1 - b) m (pW (sP σ)) p (4 * szF (sN σ).1)) = true then V ||| (1 <<< (nI b &&& 31)) else V) (bI O2) (nI (b + 1)) μ := by
        intro O2
        cases h5 : hasB (sQ (sN σ).1 j) p with
        | true =>
          rw [h5] at hh2
          simp only [bd_n, gd_n, ca2_n, ca_n, nbtF, pbfT, Bool.not_true, Bool.not_false, if_true, if_false, m_X7_between_b82, n1, hh2]
          rw [h101, Bool.true_and]
          cases elB (sN σ).1 (1 - b) m (pW (sP σ)) p (4 * szF (sN σ).1) <;> rfl
        | false =>
          rw [h5] at hh2
          rw [Bool.false_and, if_neg (by decide)]
          simp only [bd_n, gd_n, ca2_n, ca_n, nbtF, pbfT, Bool.not_true, Bool.not_false, if_true, if_false, m_X7_between_b82, n1, hh2, m_X7_between_b121, m_X7_between_b122, Int32.or_zero, show nI b + 1 = nI (b + 1) from nI_add _ 1]
      rw [← fin]
      cases O with
      | true =>
        rw [Bool.true_or]
        simp only [bd_n, gd_n, ca2_n, ca_n, nbtF, pbfT, Bool.not_true, Bool.not_false, if_true, if_false, m_X7_between_b38, iz7, h5, u1, hsh, m_X7_between_b77]
        rfl
      | false =>
        rw [Bool.false_or]
        cases h5' : hasB (sQ (sN σ).1 j) p with
        | true =>
          rw [h5'] at hh2
          simp only [bd_n, gd_n, ca2_n, ca_n, nbtF, pbfT, Bool.not_true, Bool.not_false, if_true, if_false, m_X7_between_b38, iz7, h5, u1, hsh, n1, hh2, m_X7_between_b77]
          rfl
        | false =>
          rw [h5'] at hh2
          simp only [bd_n, gd_n, ca2_n, ca_n, nbtF, pbfT, Bool.not_true, Bool.not_false, if_true, if_false, m_X7_between_b38, iz7, h5, u1, hsh, n1, hh2, m_X7_between_b81]
          rfl
theorem op_between (v w : Int32) : OpI (m_X6_between SH 1 v w) (m_X7_between SH 414 v w) := by
  intro μ σ c iX iM g hc
  have iM' := iM.thr 0
  have hv := g.pv
  have hP5 := hv.2.2.1
  have hB2 := hv.2.1
  cases hp : isIn v (pP (sP σ)) with
  | false =>
    refine fin_ro (r := -1) iX iM g ?_ ?_
    · simp only [bd_n, gd_n, ca2_n, ca_n, nbtF, pbfT, Bool.not_true, Bool.not_false, if_true, if_false, m_X6_between, iz6, iX.pr.1.iz, x_hasPerson iX.pr hv, hp]
    · simp only [bd_n, gd_n, ca2_n, ca_n, nbtF, pbfT, Bool.not_true, Bool.not_false, if_true, if_false, m_X7_between, iz7, y_noOne iM'.2.2.2.1 hv, hp]
  | true =>
  obtain ⟨p, hpp, ep⟩ := isIn_t hp (by omega)
  subst ep
  cases hm : isIn w 1000 with
  | false =>
    refine fin_ro (r := -2) iX iM g ?_ ?_
    · simp only [bd_n, gd_n, ca2_n, ca_n, nbtF, pbfT, Bool.not_true, Bool.not_false, if_true, if_false, m_X6_between, iz6, iX.pr.1.iz, x_hasPerson iX.pr hv, hp, x_isAsked, hm]
    · simp only [bd_n, gd_n, ca2_n, ca_n, nbtF, pbfT, Bool.not_true, Bool.not_false, if_true, if_false, m_X7_between, iz7, y_noOne iM'.2.2.2.1 hv, hp, y_asked, hm]
  | true =>
  obtain ⟨m, hmm, em⟩ := isIn_t hm (by decide)
  subst em
  have e1 := x_betw iX g hc hmm (show p < 5 by omega) (pB (sP σ)) 0 FU (by omega) (by rw [FU_eq]; omega)
  have e2 := y_betw iM' g hc hmm (show p < 5 by omega) (pB (sP σ)) 0 FU (by omega) (by rw [FU_eq]; omega)
  rw [show nI 0 = (0 : Int32) from rfl, show plI (sP σ) (sN σ).1 m p 0 = 0 from rfl] at e1 e2
  rw [show bI (onR (sN σ).1 m p 0) = 0 from rfl] at e2
  refine fin_ro (r := if onR (sN σ).1 m p (pB (sP σ)) = true then plI (sP σ) (sN σ).1 m p (pB (sP σ)) else plI (sP σ) (sN σ).1 m p (pB (sP σ)) ||| 4) iX iM g ?_ ?_
  · simp only [bd_n, gd_n, ca2_n, ca_n, nbtF, pbfT, Bool.not_true, Bool.not_false, if_true, if_false, m_X6_between, iz6, iX.pr.1.iz, x_hasPerson iX.pr hv, hp, x_isAsked, hm, e1]
  · simp only [bd_n, gd_n, ca2_n, ca_n, nbtF, pbfT, Bool.not_true, Bool.not_false, if_true, if_false, m_X7_between, iz7, y_noOne iM'.2.2.2.1 hv, hp, y_asked, hm, e2]

/-! pages: what a scene is, as the reference's page of 205 ints; and how the class's scene holds it -/
def szF (f : Nat → Int32) : Nat := (f 202).toNatClampNeg
def lkF (f : Nat → Int32) (b : Nat) : Nat := (f (16 + 17 * b)).toNatClampNeg
def Sp (μ : Mu) (a : Nat) : Prop := scB a = true ∧ gR μ a 5 = a + 1 ∧ gR μ a 6 = a + 2 ∧ gR μ a 7 = a + 3 ∧ gR μ a 8 = a + 4 ∧ gR μ a 9 = a + 5 ∧ (∀ i, i < 2 → gR μ (a + 2) i = a + 22 + 2 * i) ∧ (∀ i, i < 8 → ∃ j, j < 8 ∧ gR μ (a + 1) i = a + 6 + 2 * j) ∧ (∀ i j, i < 8 → j < 8 → gR μ (a + 1) i = gR μ (a + 1) j → i = j) ∧ (∀ j, j < 10 → gR μ (a + 6 + 2 * j) 4 = a + 7 + 2 * j)
def stripR (μ : Mu) (t : Nat) (f : Nat → Int32) (i : Nat) : Prop := gI μ t 0 = f (50 + 19 * i) ∧ gI μ t 2 = f (50 + 19 * i + 1) ∧ gI μ t 3 = f (50 + 19 * i + 2) ∧ ∀ k, k < 16 → gI μ (t + 1) k = f (50 + 19 * i + 3 + k)
def begR (μ : Mu) (t : Nat) (f : Nat → Int32) (b : Nat) : Prop := gI μ t 0 = nI b ∧ gI μ t 1 = f (16 + 17 * b) ∧ gI μ t 2 = 0 ∧ gI μ t 3 = 0 ∧ ∀ k, k < 4 * lkF f b → gI μ (t + 1) k = f (16 + 17 * b + 1 + k)
def SR (μ : Mu) (a : Nat) (f : Nat → Int32) : Prop := Sp μ a ∧ gI μ a 1 = f 203 ∧ gI μ a 2 = f 204 ∧ gI μ a 3 = f 15 ∧ gI μ a 4 = f 202 ∧ (∀ p, p < 5 → gI μ (a + 3) p = f p ∧ gI μ (a + 4) p = f (5 + p) ∧ gI μ (a + 5) p = f (10 + p)) ∧ (∀ i, i < szF f → stripR μ (gR μ (a + 1) i) f i) ∧ (∀ b, b < 2 → begR μ (a + 22 + 2 * b) f b)
theorem Sp.mono {μ μ' : Mu} {a : Nat} (h : Sp μ a) (hs : same (fun b => a ≤ b ∧ b < a + 26) μ μ') : Sp μ' a := by
  obtain ⟨h0, h1, h2, h3, h4, h5, h6, h7, h8, h9⟩ := h
  have e : ∀ d, d < 26 → ∀ k, gR μ' (a + d) k = gR μ (a + d) k := fun d hd k => hs.R (by omega) k
  have e0 : ∀ k, gR μ' a k = gR μ a k := e 0 (by omega)
  refine ⟨h0, by rw [e0]; exact h1, by rw [e0]; exact h2, by rw [e0]; exact h3, by rw [e0]; exact h4, by rw [e0]; exact h5, fun i hi => by rw [e 2 (by omega)]; exact h6 i hi, fun i hi => by rw [e 1 (by omega)]; exact h7 i hi, fun i j hi hj => by rw [e 1 (by omega), e 1 (by omega)]; exact h8 i j hi hj, fun j hj => ?_⟩
  rw [show a + 6 + 2 * j = a + (6 + 2 * j) by omega, e (6 + 2 * j) (by omega), ← Nat.add_assoc]
  exact h9 j hj
theorem Sp.st {μ : Mu} {a i : Nat} (h : Sp μ a) (hi : i < 8) : ∃ j, j < 8 ∧ gR μ (a + 1) i = a + 6 + 2 * j := h.2.2.2.2.2.2.2.1 i hi
theorem SR.mono {μ μ' : Mu} {a : Nat} {f : Nat → Int32} (h : SR μ a f) (hz : szF f ≤ 8) (hs : same (fun b => a ≤ b ∧ b < a + 26) μ μ') : SR μ' a f := by
  obtain ⟨h0, h1, h2, h3, h4, h5, h6, h7⟩ := h
  have e : ∀ d, d < 26 → ∀ k, gI μ' (a + d) k = gI μ (a + d) k := fun d hd k => hs.I (by omega) k
  have e0 : ∀ k, gI μ' a k = gI μ a k := e 0 (by omega)
  refine ⟨h0.mono hs, by rw [e0]; exact h1, by rw [e0]; exact h2, by rw [e0]; exact h3, by rw [e0]; exact h4, fun p hp => by rw [e 3 (by omega), e 4 (by omega), e 5 (by omega)]; exact h5 p hp, fun i hi => ?_, fun b hb => ?_⟩
  · obtain ⟨j, hj, ej⟩ := h0.st (i := i) (by omega)
    have er : gR μ' (a + 1) i = gR μ (a + 1) i := hs.R (by omega) i
    have h := h6 i hi
    rw [er]
    rw [ej] at h ⊢
    unfold stripR at h ⊢
    rw [show a + 6 + 2 * j + 1 = a + (7 + 2 * j) by omega, show a + 6 + 2 * j = a + (6 + 2 * j) by omega] at h ⊢
    rw [e _ (by omega), e _ (by omega), e _ (by omega)]
    exact ⟨h.1, h.2.1, h.2.2.1, fun k hk => by rw [e _ (by omega)]; exact h.2.2.2 k hk⟩
  · have h := h7 b hb
    unfold begR at h ⊢
    rw [show a + 22 + 2 * b + 1 = a + (23 + 2 * b) by omega, show a + 22 + 2 * b = a + (22 + 2 * b) by omega] at h ⊢
    rw [e _ (by omega), e _ (by omega), e _ (by omega), e _ (by omega)]
    exact ⟨h.1, h.2.1, h.2.2.1, h.2.2.2.1, fun k hk => by rw [e _ (by omega)]; exact h.2.2.2.2 k hk⟩
/-! the plan -/
/-- walk, booths, people, firsts, everies, tenths -/
abbrev Pl : Type := Nat × Nat × Nat × (Nat → Nat) × (Nat → Nat) × (Nat → Nat)
def pW (P : Pl) : Nat := P.1
def pB (P : Pl) : Nat := P.2.1
def pP (P : Pl) : Nat := P.2.2.1
def pF (P : Pl) (b : Nat) : Nat := P.2.2.2.1 b
def pE (P : Pl) (b : Nat) : Nat := P.2.2.2.2.1 b
def pT (P : Pl) (p : Nat) : Nat := P.2.2.2.2.2 p
def PV (P : Pl) : Prop := pW P ≤ 9 ∧ pB P ≤ 2 ∧ pP P ≤ 5 ∧ (∀ b, b < pB P → pF P b ≤ 9 ∧ 1 ≤ pE P b ∧ pE P b ≤ 9) ∧ ∀ p, p < pP P → pT P p ≤ 9
/-- a plan object with its three rows, at q = 3 or 7 -/
def Pp (μ : Mu) (q : Nat) : Prop := (q = 3 ∨ q = 7) ∧ gR μ q 3 = q + 1 ∧ gR μ q 4 = q + 2 ∧ gR μ q 5 = q + 3
def PR (μ : Mu) (q : Nat) (P : Pl) : Prop := Pp μ q ∧ gI μ q 0 = nI (pW P) ∧ gI μ q 1 = nI (pB P) ∧ gI μ q 2 = nI (pP P) ∧ (∀ b, b < pB P → gI μ (q + 1) b = nI (pF P b) ∧ gI μ (q + 2) b = nI (pE P b)) ∧ ∀ p, p < pP P → gI μ (q + 3) p = nI (pT P p)
theorem Pp.iz {μ : Mu} {q : Nat} (h : Pp μ q) : iz SH 2 q = true := by rcases h.1 with rfl | rfl <;> rfl
theorem Pp.sh1 {μ : Mu} {q : Nat} (h : Pp μ q) : SH (q + 1) = (8, 2) ∧ SH (q + 2) = (8, 2) ∧ SH (q + 3) = (8, 5) := by rcases h.1 with rfl | rfl <;> exact ⟨rfl, rfl, rfl⟩
theorem PR.mono {μ μ' : Mu} {q : Nat} {P : Pl} (h : PR μ q P) (hs : same (fun b => q ≤ b ∧ b < q + 4) μ μ') : PR μ' q P := by
  obtain ⟨⟨h0, h1, h2, h3⟩, h4, h5, h6, h7, h8⟩ := h
  have e : ∀ d, d < 4 → ∀ k, gI μ' (q + d) k = gI μ (q + d) k := fun d hd k => hs.I (by omega) k
  have e0 : ∀ k, gI μ' q k = gI μ q k := e 0 (by omega)
  have r0 : ∀ k, gR μ' q k = gR μ q k := fun k => hs.R (by omega) k
  exact ⟨⟨h0, by rw [r0]; exact h1, by rw [r0]; exact h2, by rw [r0]; exact h3⟩, by rw [e0]; exact h4, by rw [e0]; exact h5, by rw [e0]; exact h6, fun b hb => by rw [e 1 (by omega), e 2 (by omega)]; exact h7 b hb, fun p hp => by rw [e 3 (by omega)]; exact h8 p hp⟩
/-! the plan's getters -/
theorem inI_cases (v : Int32) {n : Nat} (hn : n < 2 ^ 31) : (∃ i, i < n ∧ v = nI i) ∨ (v < 0 ∨ nI n ≤ v) := by
  by_cases h0 : v < 0
  · exact Or.inr (Or.inl h0)
  · by_cases h1 : nI n ≤ v
    · exact Or.inr (Or.inr h1)
    · exact Or.inl (nI_inR h0 h1 hn)
theorem nlt0 {i : Nat} (h : i < 2 ^ 31) : ¬ nI i < 0 := nI_pos h
theorem nle_nI {i n : Nat} (h : i < n) (hn : n < 2 ^ 31) : ¬ nI n ≤ nI i := nI_ge h hn
/-- is it among the first n? -/
def isIn (v : Int32) (n : Nat) : Bool := !(decide (v < 0)) && !(decide (nI n ≤ v))
theorem isIn_nI {i n : Nat} (h : i < n) (hn : n < 2 ^ 31) : isIn (nI i) n = true := by simp [isIn, nlt0 (show i < 2 ^ 31 by omega), nle_nI h hn]
theorem isIn_t {v : Int32} {n : Nat} (h : isIn v n = true) (hn : n < 2 ^ 31) : ∃ i, i < n ∧ v = nI i := by
  simp only [isIn, Bool.and_eq_true, Bool.not_eq_true', decide_eq_false_iff_not] at h
  exact nI_inR h.1 h.2 hn
theorem isIn_f {v : Int32} {n : Nat} (h : isIn v n = false) : v < 0 ∨ nI n ≤ v := by
  simp only [isIn, Bool.and_eq_false_iff, Bool.not_eq_false', decide_eq_true_eq] at h
  exact h
def bI (b : Bool) : Int32 := if b then 1 else 0
theorem bI_t : bI true = 1 := rfl
theorem bI_f : bI false = 0 := rfl
theorem has_gen {v : Int32} {n m : Nat} (hn : n ≤ m) (hm : m < 2 ^ 31) {α : Type} {A B : α} : (if v < 0 then B else if nI n ≤ v then B else if nI m ≤ v then B else A) = if isIn v n = true then A else B := by
  by_cases h0 : v < 0
  · rw [if_pos h0, if_neg]
    simp [isIn, h0]
  · rw [if_neg h0]
    by_cases h1 : nI n ≤ v
    · rw [if_pos h1, if_neg]
      simp [isIn, h1]
    · rw [if_neg h1]
      obtain ⟨i, hi, rfl⟩ := nI_inR h0 h1 (by omega)
      rw [if_neg (nle_nI (by omega) hm), if_pos (isIn_nI hi (by omega))]
theorem x_hasBooth {μ : Mu} {q : Nat} {P : Pl} (h : PR μ q P) (hv : PV P) (v : Int32) : m_X2_hasBooth SH q v μ = some (bI (isIn v (pB P)), μ) := by
  unfold m_X2_hasBooth
  rw [gd_of h.1.iz, h.2.2.1]
  have e := has_gen (v := v) (n := pB P) (m := 2) hv.2.1 (by decide) (A := some ((1 : Int32), μ)) (B := some ((0 : Int32), μ))
  refine Eq.trans e ?_
  cases isIn v (pB P) <;> rfl
theorem x_hasPerson {μ : Mu} {q : Nat} {P : Pl} (h : PR μ q P) (hv : PV P) (v : Int32) : m_X2_hasPerson SH q v μ = some (bI (isIn v (pP P)), μ) := by
  unfold m_X2_hasPerson
  rw [gd_of h.1.iz, h.2.2.2.1]
  have e := has_gen (v := v) (n := pP P) (m := 5) hv.2.2.1 (by decide) (A := some ((1 : Int32), μ)) (B := some ((0 : Int32), μ))
  refine Eq.trans e ?_
  cases isIn v (pP P) <;> rfl
theorem x_firstOf {μ : Mu} {q b : Nat} {P : Pl} (h : PR μ q P) (hv : PV P) (hb : b < pB P) : m_X2_firstOf SH q (nI b) μ = some (nI (pF P b), μ) := by
  have hb2 := hv.2.1
  unfold m_X2_firstOf
  rw [gd_of h.1.iz, x_hasBooth h hv, isIn_nI hb (by omega)]
  simp only [ca2, bI_t, bd, h.1.2.1]
  rw [if_neg (by decide), gd_of (ix_of h.1.sh1.1 (by omega) (by decide)), nI_clamp (by omega), (h.2.2.2.2.1 b hb).1]
theorem x_everyOf {μ : Mu} {q b : Nat} {P : Pl} (h : PR μ q P) (hv : PV P) (hb : b < pB P) : m_X2_everyOf SH q (nI b) μ = some (nI (pE P b), μ) := by
  have hb2 := hv.2.1
  have hE := hv.2.2.2.1 b hb
  unfold m_X2_everyOf
  rw [gd_of h.1.iz, x_hasBooth h hv, isIn_nI hb (by omega)]
  simp only [ca2, bI_t, bd, h.1.2.2.1]
  rw [if_neg (by decide), gd_of (ix_of h.1.sh1.2.1 (by omega) (by decide)), nI_clamp (by omega), (h.2.2.2.2.1 b hb).2]
  unfold m_J9_max_7cf53
  by_cases h1 : (1 : Int32) < nI (pE P b)
  · rw [if_pos h1]
  · rw [if_neg h1]
    have : pE P b = 1 := by
      rcases Nat.lt_or_ge 1 (pE P b) with q | q
      · exact absurd (nI_lt q (by omega)) h1
      · omega
    rw [this]
    rfl
theorem x_tenthsOf {μ : Mu} {q p : Nat} {P : Pl} (h : PR μ q P) (hv : PV P) (hp : p < pP P) : m_X2_tenthsOf SH q (nI p) μ = some (nI (pT P p), μ) := by
  have hb2 := hv.2.2.1
  unfold m_X2_tenthsOf
  rw [gd_of h.1.iz, x_hasPerson h hv, isIn_nI hp (by omega)]
  simp only [ca2, bI_t, bd, h.1.2.2.2]
  rw [if_neg (by decide), gd_of (ix_of h.1.sh1.2.2 (by omega) (by decide)), nI_clamp (by omega), h.2.2.2.2.2 p hp]
theorem x_tenthsOf0 {μ : Mu} {q : Nat} {P : Pl} (h : PR μ q P) (hv : PV P) {v : Int32} (hp : isIn v (pP P) = false) : m_X2_tenthsOf SH q v μ = some (0, μ) := by
  unfold m_X2_tenthsOf
  rw [gd_of h.1.iz, x_hasPerson h hv, hp]
  simp only [ca2, bI_f, if_true]

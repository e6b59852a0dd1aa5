/-! the abstract state: text, plan, the scene as page and seed, the acts, the slots -/
abbrev Pg : Type := (Nat → Int32) × Int64
abbrev Sg : Type := Nat × (Nat → Int32) × Pl × Pg × List Pg × (Nat → Option Pg)
def sL (σ : Sg) : Nat := σ.1
def sT (σ : Sg) : Nat → Int32 := σ.2.1
def sP (σ : Sg) : Pl := σ.2.2.1
def sN (σ : Sg) : Pg := σ.2.2.2.1
def sA (σ : Sg) : List Pg := σ.2.2.2.2.1
def sK (σ : Sg) : Nat → Option Pg := σ.2.2.2.2.2
def cI (f : Nat → Int32) (i l w : Nat) : Int32 := f (50 + 19 * i + 3 + (4 * l + w))
def gB_ (f : Nat → Int32) (b l w : Nat) : Int32 := f (16 + 17 * b + 1 + (4 * l + w))
/-- a look as it can be, before the minute m -/
def LV (m : Nat) (g : Nat → Int32) : Prop := (∃ t, t < m ∧ g 0 = nI t) ∧ (∃ s, s < 32 ∧ g 1 = nI s) ∧ (g 2 = -9 ∨ ∃ p, p < 5 ∧ g 2 = nI p) ∧ ∃ s, s < 32 ∧ g 3 = nI s
def GP (P : Pl) (c : Nat) (f : Nat → Int32) : Prop :=
  (∃ k, k ≤ 8 ∧ f 202 = nI k) ∧
  (∃ m, m ≤ c ∧ f 203 = nI m ∧ (∀ i, i < szF f → ∀ l, l < 4 → LV m (cI f i l)) ∧ ∀ b, b < 2 → ∀ l, l < lkF f b → LV m (gB_ f b l)) ∧
  (f 15 = -9 ∨ ∃ p, p < 5 ∧ f 15 = nI p) ∧
  (∀ p, p < 5 → f p = -9 ∨ (p < pP P ∧ ∃ b, b < pB P ∧ f p = nI b)) ∧
  (∀ p, p < 5 → f (5 + p) = -9 ∨ ∃ b, b < 2 ∧ f (5 + p) = nI b) ∧
  (∀ i, i < szF f → (∃ b, b < 2 ∧ b < pB P ∧ f (50 + 19 * i) = nI b) ∧ (∃ t, t ≤ 3 ∧ f (50 + 19 * i + 1) = nI t) ∧ ∃ d, d ≤ 9 ∧ f (50 + 19 * i + 2) = nI d) ∧
  (∀ b, b < 2 → ∃ k, k ≤ 3 ∧ f (16 + 17 * b) = nI k) ∧
  (∀ i j l k, i < szF f → j < szF f → l < 4 → k < 4 → f (50 + 19 * i) = f (50 + 19 * j) → cI f i l 0 = cI f j k 0 → i = j ∧ l = k) ∧
  (∀ b i l k, b < 2 → i < szF f → l < 4 → k < lkF f b → f (50 + 19 * i) = nI b → cI f i l 0 ≠ gB_ f b k 0) ∧
  (∀ b l k, b < 2 → l < lkF f b → k < lkF f b → gB_ f b l 0 = gB_ f b k 0 → l = k)
def Good (σ : Sg) (c : Nat) : Prop := sL σ ≤ 24 ∧ (∀ i, i < sL σ → ∃ n, n < 256 ∧ sT σ i = nI n) ∧ PV (sP σ) ∧ GP (sP σ) c (sN σ).1 ∧ (sA σ).length ≤ 12 ∧ (∀ g ∈ sA σ, GP (sP σ) c g.1) ∧ ∀ s g, s < 2 → sK σ s = some g → GP (sP σ) c g.1
theorem GP.sz {P : Pl} {c : Nat} {f : Nat → Int32} (h : GP P c f) : f 202 = nI (szF f) ∧ szF f ≤ 8 := by
  obtain ⟨k, hk, e⟩ := h.1
  have : szF f = k := by rw [szF, e, nI_clamp (by omega)]
  rw [this]
  exact ⟨e, hk⟩
theorem GP.lk {P : Pl} {c : Nat} {f : Nat → Int32} {b : Nat} (h : GP P c f) (hb : b < 2) : f (16 + 17 * b) = nI (lkF f b) ∧ lkF f b ≤ 3 := by
  obtain ⟨k, hk, e⟩ := h.2.2.2.2.2.2.1 b hb
  have : lkF f b = k := by rw [lkF, e, nI_clamp (by omega)]
  rw [this]
  exact ⟨e, hk⟩
theorem GP.more {P : Pl} {c d : Nat} {f : Nat → Int32} (h : GP P c f) (hc : c ≤ d) : GP P d f := by
  obtain ⟨h1, ⟨m, h2, h3⟩, h4⟩ := h
  exact ⟨h1, ⟨m, by omega, h3⟩, h4⟩
theorem GP.torn {P : Pl} {c : Nat} {f : Nat → Int32} (h : GP P c f) : ∀ i, i < szF f → ∃ t, t ≤ 3 ∧ f (50 + 19 * i + 1) = nI t := fun i hi => (h.2.2.2.2.2.1 i hi).2.1
/-- the class's pointers -/
def Xp (μ : Mu) : Prop := gR μ 1 0 = 2 ∧ (gR μ 1 2 = 3 ∧ gR μ 1 3 = 7 ∨ gR μ 1 2 = 7 ∧ gR μ 1 3 = 3) ∧ gR μ 1 4 = 11 ∧ gR μ 1 5 = 37 ∧ gR μ 1 6 = 351 ∧ gR μ 1 7 = 352 ∧ gR μ 1 8 = 353 ∧ gR μ 1 9 = 357 ∧ gR μ 37 2 = 38 ∧ (∀ i, i < 12 → gR μ 38 i = 39 + 26 * i) ∧ gR μ 351 0 = 362 ∧ gR μ 351 1 = 388 ∧ (gR μ 353 1 = 354 ∧ gR μ 353 2 = 355 ∧ gR μ 353 3 = 356) ∧ (gR μ 357 1 = 358 ∧ gR μ 357 2 = 359 ∧ gR μ 357 3 = 360 ∧ gR μ 357 4 = 361) ∧ Pp μ 3 ∧ Pp μ 7 ∧ Sp μ 11 ∧ (∀ i, i < 12 → Sp μ (39 + 26 * i)) ∧ Sp μ 362 ∧ Sp μ 388
def PastX (μ : Mu) (A : List Pg) : Prop := gI μ 37 0 = nI A.length ∧ ∃ r, r < 12 ∧ gI μ 37 1 = nI r ∧ ∀ i g, A[i]? = some g → SR μ (39 + 26 * ((r + i) % 12)) g.1 ∧ gJ μ (39 + 26 * ((r + i) % 12)) 0 = g.2
def KeptX (μ : Mu) (K : Nat → Option Pg) : Prop := ∀ s, s < 2 → (K s = none → gI μ 352 s = 0) ∧ ∀ g, K s = some g → gI μ 352 s = 1 ∧ SR μ (362 + 26 * s) g.1 ∧ gJ μ (362 + 26 * s) 0 = g.2
def InvX (μ : Mu) (σ : Sg) : Prop := Xp μ ∧ gI μ 1 1 = nI (sL σ) ∧ (∀ i, i < sL σ → gI μ 2 i = sT σ i) ∧ PR μ (gR μ 1 2) (sP σ) ∧ (SR μ 11 (sN σ).1 ∧ gJ μ 11 0 = (sN σ).2) ∧ PastX μ (sA σ) ∧ KeptX μ (sK σ)
def PastM (μ : Mu) (A : List Pg) : Prop := gI μ 414 20 = nI A.length ∧ ∀ i g, A[i]? = some g → (∀ k, k < 205 → gI μ 423 (205 * i + k) = g.1 k) ∧ gJ μ 424 i = g.2
def KeptM (μ : Mu) (K : Nat → Option Pg) : Prop := ∀ s, s < 2 → (K s = none → gI μ 427 s = 0) ∧ ∀ g, K s = some g → gI μ 427 s = 1 ∧ (∀ k, k < 205 → gI μ 425 (205 * s + k) = g.1 k) ∧ gJ μ 426 s = g.2
def InvM (μ : Mu) (σ : Sg) : Prop := MR μ (sN σ).1 ∧ gI μ 414 2 = nI (sL σ) ∧ (∀ i, i < sL σ → gI μ 415 i = sT σ i) ∧ MPl μ (sP σ) ∧ gJ μ 414 17 = (sN σ).2 ∧ PastM μ (sA σ) ∧ KeptM μ (sK σ)
theorem Xp.pl {μ : Mu} (h : Xp μ) : gR μ 1 2 = 3 ∨ gR μ 1 2 = 7 := h.2.1.elim (fun q => Or.inl q.1) (fun q => Or.inr q.1)
theorem InvM.mono {μ μ' : Mu} {σ : Sg} (h : InvM μ σ) (hs : same (fun b => 414 ≤ b) μ μ') : InvM μ' σ := by
  obtain ⟨⟨h0, h1⟩, h2, h3, h4, h5, h6, h7⟩ := h
  have I : ∀ b k, 414 ≤ b → gI μ' b k = gI μ b k := fun b k hb => hs.I hb k
  have J : ∀ b k, 414 ≤ b → gJ μ' b k = gJ μ b k := fun b k hb => hs.J hb k
  refine ⟨⟨h0.mono (fun k => hs.R (b := 414) (by decide) k), fun k hk => by rw [I _ _ (by decide)]; exact h1 k hk⟩, by rw [I _ _ (by decide)]; exact h2, fun i hi => by rw [I _ _ (by decide)]; exact h3 i hi, ?_, by rw [J _ _ (by decide)]; exact h5, ?_, ?_⟩
  · obtain ⟨a1, a2, a3, a4, a5⟩ := h4
    exact ⟨by rw [I _ _ (by decide)]; exact a1, by rw [I _ _ (by decide)]; exact a2, by rw [I _ _ (by decide)]; exact a3, fun b hb => by rw [I _ _ (by decide), I _ _ (by decide)]; exact a4 b hb, fun p hp => by rw [I _ _ (by decide)]; exact a5 p hp⟩
  · exact ⟨by rw [I _ _ (by decide)]; exact h6.1, fun i g hg => ⟨fun k hk => by rw [I _ _ (by decide)]; exact (h6.2 i g hg).1 k hk, by rw [J _ _ (by decide)]; exact (h6.2 i g hg).2⟩⟩
  · exact fun s hs2 => ⟨fun e => by rw [I _ _ (by decide)]; exact (h7 s hs2).1 e, fun g e => ⟨by rw [I _ _ (by decide)]; exact ((h7 s hs2).2 g e).1, fun k hk => by rw [I _ _ (by decide)]; exact ((h7 s hs2).2 g e).2.1 k hk, by rw [J _ _ (by decide)]; exact ((h7 s hs2).2 g e).2.2⟩⟩
theorem Pp.mono {μ μ' : Mu} {q : Nat} (h : Pp μ q) (hs : ∀ k, gR μ' q k = gR μ q k) : Pp μ' q := by
  unfold Pp at h ⊢
  simp only [hs]
  exact h
theorem Xp.mono {μ μ' : Mu} (h : Xp μ) (hs : ∀ b k, b < 414 → gR μ' b k = gR μ b k) : Xp μ' := by
  obtain ⟨h1, h2, h3, h4, h5, h6, h7, h8, h9, h10, h11, h12, h13, h14, h15, h16, h17, h18, h19, h20⟩ := h
  have sp : ∀ a, Sp μ a → Sp μ' a := fun a ha => by
    have hb := scB_le ha.1
    obtain ⟨k0, k1, k2, k3, k4, k5, k6, k7, k8, k9⟩ := ha
    refine ⟨k0, ?_, ?_, ?_, ?_, ?_, fun i hi => ?_, fun i hi => ?_, fun i j hi hj => ?_, fun j hj => ?_⟩
    · rw [hs _ _ (by omega)]; exact k1
    · rw [hs _ _ (by omega)]; exact k2
    · rw [hs _ _ (by omega)]; exact k3
    · rw [hs _ _ (by omega)]; exact k4
    · rw [hs _ _ (by omega)]; exact k5
    · rw [hs _ _ (by omega)]; exact k6 i hi
    · rw [hs _ _ (by omega)]; exact k7 i hi
    · rw [hs _ _ (by omega), hs _ _ (by omega)]; exact k8 i j hi hj
    · rw [hs _ _ (by omega)]; exact k9 j hj
  refine ⟨by rw [hs _ _ (by decide)]; exact h1, by rw [hs _ _ (by decide), hs _ _ (by decide)]; exact h2, by rw [hs _ _ (by decide)]; exact h3, by rw [hs _ _ (by decide)]; exact h4, by rw [hs _ _ (by decide)]; exact h5, by rw [hs _ _ (by decide)]; exact h6, by rw [hs _ _ (by decide)]; exact h7, by rw [hs _ _ (by decide)]; exact h8, by rw [hs _ _ (by decide)]; exact h9, fun i hi => by rw [hs _ _ (by decide)]; exact h10 i hi, by rw [hs _ _ (by decide)]; exact h11, by rw [hs _ _ (by decide)]; exact h12, ?_, ?_, h15.mono (fun k => hs _ _ (by decide)), h16.mono (fun k => hs _ _ (by decide)), sp _ h17, fun i hi => sp _ (h18 i hi), sp _ h19, sp _ h20⟩
  · rw [hs _ _ (by decide), hs _ _ (by decide), hs _ _ (by decide)]; exact h13
  · rw [hs _ _ (by decide), hs _ _ (by decide), hs _ _ (by decide), hs _ _ (by decide)]; exact h14
theorem InvX.mono {μ μ' : Mu} {σ : Sg} {c : Nat} (h : InvX μ σ) (hg : Good σ c) (hs : same (fun b => b < 414) μ μ') : InvX μ' σ := by
  obtain ⟨h0, h1, h2, h3, h4, h5, h6⟩ := h
  obtain ⟨g1, g2, g3, g4, g5, g6, g7⟩ := hg
  have hpl := h0.pl
  have R12 : gR μ' 1 2 = gR μ 1 2 := hs.R (b := 1) (by decide) 2
  refine ⟨h0.mono (fun b k hb => hs.R hb k), by rw [hs.I (b := 1) (by decide)]; exact h1, fun i hi => by rw [hs.I (b := 2) (by decide)]; exact h2 i hi, ?_, ⟨h4.1.mono g4.sz.2 (hs.mono (fun b hb => by omega)), by rw [hs.J (b := 11) (by decide)]; exact h4.2⟩, ?_, ?_⟩
  · rw [R12]
    exact h3.mono (hs.mono (fun b hb => by omega))
  · obtain ⟨a1, r, hr, a2, a3⟩ := h5
    refine ⟨by rw [hs.I (b := 37) (by decide)]; exact a1, r, hr, by rw [hs.I (b := 37) (by decide)]; exact a2, fun i g hi => ?_⟩
    have hm := Nat.mod_lt (r + i) (show 12 > 0 by decide)
    exact ⟨(a3 i g hi).1.mono (g6 g (List.mem_of_getElem? hi)).sz.2 (hs.mono (fun b hb => by omega)), by rw [hs.J (b := 39 + 26 * ((r + i) % 12)) (by omega)]; exact (a3 i g hi).2⟩
  · exact fun s hs2 => ⟨fun e => by rw [hs.I (b := 352) (by decide)]; exact (h6 s hs2).1 e, fun g e => ⟨by rw [hs.I (b := 352) (by decide)]; exact ((h6 s hs2).2 g e).1, ((h6 s hs2).2 g e).2.1.mono (g7 s g hs2 e).sz.2 (hs.mono (fun b hb => by omega)), by rw [hs.J (b := 362 + 26 * s) (by omega)]; exact ((h6 s hs2).2 g e).2.2⟩⟩
/-- thrown is no part of it -/
theorem InvM.thr {μ : Mu} {σ : Sg} (h : InvM μ σ) (v : Int32) : InvM (sI μ 414 0 v) σ := by
  have I : ∀ b k, (b ≠ 414 ∨ k ≠ 0) → gI (sI μ 414 0 v) b k = gI μ b k := fun b k hb => by
    rw [gI_sI]
    rcases hb with hb | hb
    · rw [if_neg hb]
    · by_cases h : b = 414
      · rw [if_pos h, if_neg hb]
      · rw [if_neg h]
  obtain ⟨⟨h0, h1⟩, h2, h3, h4, h5, h6, h7⟩ := h
  refine ⟨⟨h0.mono (fun k => rfl), fun k hk => by rw [I _ _ (by omega)]; exact h1 k hk⟩, by rw [I _ _ (by omega)]; exact h2, fun i hi => by rw [I _ _ (by omega)]; exact h3 i hi, ?_, h5, ?_, ?_⟩
  · obtain ⟨a1, a2, a3, a4, a5⟩ := h4
    exact ⟨by rw [I _ _ (by omega)]; exact a1, by rw [I _ _ (by omega)]; exact a2, by rw [I _ _ (by omega)]; exact a3, fun b hb => by rw [I _ _ (by omega), I _ _ (by omega)]; exact a4 b hb, fun p hp => by rw [I _ _ (by omega)]; exact a5 p hp⟩
  · exact ⟨by rw [I _ _ (by omega)]; exact h6.1, fun i g hg => ⟨fun k hk => by rw [I _ _ (by omega)]; exact (h6.2 i g hg).1 k hk, (h6.2 i g hg).2⟩⟩
  · exact fun s hs2 => ⟨fun e => by rw [I _ _ (by omega)]; exact (h7 s hs2).1 e, fun g e => ⟨by rw [I _ _ (by omega)]; exact ((h7 s hs2).2 g e).1, fun k hk => by rw [I _ _ (by omega)]; exact ((h7 s hs2).2 g e).2.1 k hk, ((h7 s hs2).2 g e).2.2⟩⟩
theorem thr_same {μ : Mu} {v : Int32} : same (fun b => b < 414) μ (sI μ 414 0 v) := same_sI (by decide)
theorem iz6 : iz SH 6 1 = true := rfl

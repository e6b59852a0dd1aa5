/-! together: the class gathers -/
theorem InvX.scr {μ μ' : Mu} {σ : Sg} {c : Nat} (h : InvX μ σ) (hg : Good σ c) (hs : same (fun b => b < 353 ∨ (361 < b ∧ b < 414)) μ μ') (hR : ∀ b k, gR μ' b k = gR μ b k) : InvX μ' σ := by
  obtain ⟨h0, h1, h2, h3, h4, h5, h6⟩ := h
  obtain ⟨g1, g2, g3, g4, g5, g6, g7⟩ := hg
  have hpl := h0.pl
  refine ⟨h0.mono (fun b k _ => hR b k), by rw [hs.I (b := 1) (by omega)]; exact h1, fun i hi => by rw [hs.I (b := 2) (by omega)]; exact h2 i hi, ?_, ⟨h4.1.mono g4.sz.2 (hs.mono (fun b hb => by omega)), by rw [hs.J (b := 11) (by omega)]; exact h4.2⟩, ?_, ?_⟩
  · rw [hR]
    exact h3.mono (hs.mono (fun b hb => by omega))
  · obtain ⟨a1, r, hr, a2, a3⟩ := h5
    refine ⟨by rw [hs.I (b := 37) (by omega)]; exact a1, r, hr, by rw [hs.I (b := 37) (by omega)]; exact a2, fun i g hi => ?_⟩
    have hm := Nat.mod_lt (r + i) (show 12 > 0 by decide)
    exact ⟨(a3 i g hi).1.mono (g6 g (List.mem_of_getElem? hi)).sz.2 (hs.mono (fun b hb => by omega)), by rw [hs.J (b := 39 + 26 * ((r + i) % 12)) (by omega)]; exact (a3 i g hi).2⟩
  · exact fun s hs2 => ⟨fun e => by rw [hs.I (b := 352) (by omega)]; exact (h6 s hs2).1 e, fun g e => ⟨by rw [hs.I (b := 352) (by omega)]; exact ((h6 s hs2).2 g e).1, ((h6 s hs2).2 g e).2.1.mono (g7 s g hs2 e).sz.2 (hs.mono (fun b hb => by omega)), by rw [hs.J (b := 362 + 26 * s) (by omega)]; exact ((h6 s hs2).2 g e).2.2⟩⟩
def SC (μ0 μ : Mu) : Prop := same (fun b => b < 353 ∨ 361 < b) μ0 μ ∧ ∀ b k, gR μ b k = gR μ0 b k
theorem SC.rf {μ : Mu} : SC μ μ := ⟨same.rf, fun _ _ => rfl⟩
theorem SC.w {μ0 μ : Mu} {a k : Nat} {v : Int32} (h : SC μ0 μ) (ha : 353 ≤ a ∧ a ≤ 361) : SC μ0 (sI μ a k v) := ⟨h.1.trans (same_sI (by omega)), fun b j => h.2 b j⟩
theorem SC.sr {μ0 μ : Mu} {a : Nat} {f : Nat → Int32} (h : SC μ0 μ) (hs : SR μ0 a f) (hz : szF f ≤ 8) (ha : a + 26 ≤ 353) : SR μ a f := hs.mono hz (h.1.mono (fun b hb => by omega))
def hOK (x y : Int32) : Bool := decide (x = -9) || (decide (y = -9) || decide (x = y))
theorem x_hat {x y : Int32} {μ : Mu} : m_X6_hatGoesOn SH x y μ = some (bI (hOK x y), μ) := by
  unfold hOK m_X6_hatGoesOn m_X6_hatGoesOn_b17
  by_cases h1 : x = -9
  · rw [if_pos h1, decide_eq_true h1, Bool.true_or]; rfl
  · rw [if_neg h1, decide_eq_false h1, Bool.false_or]
    by_cases h2 : y = -9
    · rw [if_pos h2, decide_eq_true h2, Bool.true_or]; rfl
    · rw [if_neg h2, decide_eq_false h2, Bool.false_or]
      by_cases h3 : x = y
      · rw [if_pos h3, decide_eq_true h3]; rfl
      · rw [if_neg h3, decide_eq_false h3]; rfl
def tnN (f : Nat → Int32) (a : Nat) : Nat := (f (50 + 19 * a + 1)).toNatClampNeg
def tT (f : Nat → Int32) (b : Nat) : Bool := decide (b < szF f) && !decide (tnN f b = 0)
def gE (f : Nat → Int32) (a b : Nat) : Bool := decide (tnN f a = tnN f b) && hOK (cI f a (tnN f a - 1) 2) (cI f b (tnN f b) 2)
theorem GP.tn {P : Pl} {c : Nat} {f : Nat → Int32} (h : GP P c f) {i : Nat} (hi : i < szF f) : f (50 + 19 * i + 1) = nI (tnN f i) ∧ tnN f i ≤ 3 := by
  obtain ⟨t, ht, e⟩ := h.torn i hi
  have : tnN f i = t := by unfold tnN; rw [e, nI_clamp (by omega)]
  rw [this]
  exact ⟨e, ht⟩
theorem tT_out {f : Nat → Int32} {b : Nat} (h : szF f ≤ b) : tT f b = false := by
  unfold tT
  rw [decide_eq_false (by omega), Bool.false_and]
theorem tT_in {f : Nat → Int32} {b : Nat} (h : tT f b = true) : b < szF f ∧ 1 ≤ tnN f b := by
  unfold tT at h
  rw [Bool.and_eq_true, decide_eq_true_eq, Bool.not_eq_true', decide_eq_false_iff_not] at h
  exact ⟨h.1, by omega⟩

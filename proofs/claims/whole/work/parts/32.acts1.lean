/-! acts: how an op ends -/
theorem fin_ro {X M : Mu → Option (Int32 × Mu)} {μ : Mu} {σ : Sg} {c : Nat} {r : Int32} (iX : InvX μ σ) (iM : InvM μ σ) (g : Good σ c) (hX : X μ = some (r, μ)) (hM : M μ = some (r, sI μ 414 0 0)) : ∃ r μ1 μ2 σ', X μ = some (r, μ1) ∧ M μ1 = some (r, μ2) ∧ InvX μ2 σ' ∧ InvM μ2 σ' ∧ Good σ' (c + 1) :=
  ⟨r, μ, _, σ, hX, hM, iX.mono g thr_same, iM.thr 0, g.more (by omega)⟩
theorem fin_rw {X M : Mu → Option (Int32 × Mu)} {μ : Mu} {σ σ' : Sg} {c : Nat} {r : Int32} (iM : InvM μ σ) (g : Good σ' (c + 1)) (hX : ∃ μ', X μ = some (r, μ') ∧ InvX μ' σ' ∧ same (fun b => 414 ≤ b) μ μ') (hM : ∀ μ, InvM μ σ → ∃ μ', M μ = some (r, μ') ∧ InvM μ' σ' ∧ same (fun b => b < 414) μ μ') : ∃ r μ1 μ2 σ', X μ = some (r, μ1) ∧ M μ1 = some (r, μ2) ∧ InvX μ2 σ' ∧ InvM μ2 σ' ∧ Good σ' (c + 1) := by
  obtain ⟨μ1, e1, i1, s1⟩ := hX
  obtain ⟨μ2, e2, i2, s2⟩ := hM μ1 (iM.mono s1)
  exact ⟨r, μ1, μ2, σ', e1, e2, i1.mono g s2, i2, g⟩
theorem SR.head {μ μ' : Mu} {a : Nat} {f f' : Nat → Int32} (h : SR μ a f) (hz : szF f ≤ 8) (hlk : ∀ q, q < 2 → lkF f q ≤ 4) (hR : ∀ b k, gR μ' b k = gR μ b k) (hs : same (fun b => a + 6 ≤ b ∧ b < a + 26) μ μ') (h1 : gI μ' a 1 = f' 203) (h2 : gI μ' a 2 = f' 204) (h3 : gI μ' a 3 = f' 15) (h4 : gI μ' a 4 = f' 202) (hp : ∀ p, p < 5 → gI μ' (a + 3) p = f' p ∧ gI μ' (a + 4) p = f' (5 + p) ∧ gI μ' (a + 5) p = f' (10 + p)) (hf : ∀ k, 16 ≤ k → k < 203 → f' k = f k) : SR μ' a f' := by
  obtain ⟨k0, k1, k2, k3, k4, k5, k6, k7⟩ := h
  have ez : szF f' = szF f := by unfold szF; rw [hf _ (by decide) (by decide)]
  have el : ∀ q, q < 2 → lkF f' q = lkF f q := fun q hq => by unfold lkF; rw [hf _ (by omega) (by omega)]
  refine ⟨k0.cps hR, h1, h2, h3, h4, hp, fun i hi => ?_, fun b hb => ?_⟩
  · rw [ez] at hi
    obtain ⟨j, hj, ej⟩ := k0.st (i := i) (by omega)
    obtain ⟨w1, w2, w3, w4⟩ := k6 i hi
    rw [hR]
    refine ⟨?_, ?_, ?_, fun k hk => ?_⟩
    · rw [hs.I (by omega), hf _ (by omega) (by omega)]; exact w1
    · rw [hs.I (by omega), hf _ (by omega) (by omega)]; exact w2
    · rw [hs.I (by omega), hf _ (by omega) (by omega)]; exact w3
    · rw [hs.I (by omega), hf _ (by omega) (by omega)]; exact w4 k hk
  · obtain ⟨w1, w2, w3, w4, w5⟩ := k7 b hb
    have := hlk b hb
    refine ⟨?_, ?_, ?_, ?_, fun k hk => ?_⟩
    · rw [hs.I (by omega)]; exact w1
    · rw [hs.I (by omega), hf _ (by omega) (by omega)]; exact w2
    · rw [hs.I (by omega)]; exact w3
    · rw [hs.I (by omega)]; exact w4
    · rw [el b hb] at hk
      rw [hs.I (by omega), hf _ (by omega) (by omega)]; exact w5 k hk
theorem LV.cg {m : Nat} {g g' : Nat → Int32} (h : LV m g) (e : ∀ w, w < 4 → g' w = g w) : LV m g' := by
  unfold LV at h ⊢
  rw [e 0 (by decide), e 1 (by decide), e 2 (by decide), e 3 (by decide)]
  exact h
theorem GP.cg {P : Pl} {c : Nat} {f f' : Nat → Int32} (π : Nat → Nat) (h : GP P c f) (e2 : f' 202 = f 202) (e3 : f' 203 = f 203) (eb : ∀ k, 16 ≤ k → k < 50 → f' k = f k) (hπ : ∀ i, i < szF f → π i < szF f) (hi : ∀ i j, i < szF f → j < szF f → π i = π j → i = j) (es : ∀ i, i < szF f → f' (50 + 19 * i) = f (50 + 19 * π i) ∧ ∀ k, k < 16 → f' (50 + 19 * i + 3 + k) = f (50 + 19 * π i + 3 + k)) (et : ∀ i, i < szF f → (∃ t, t ≤ 3 ∧ f' (50 + 19 * i + 1) = nI t) ∧ ∃ d, d ≤ 9 ∧ f' (50 + 19 * i + 2) = nI d) (h15 : f' 15 = -9 ∨ ∃ p, p < 5 ∧ f' 15 = nI p) (hp : ∀ p, p < 5 → f' p = -9 ∨ (p < pP P ∧ ∃ b, b < pB P ∧ f' p = nI b)) (h5 : ∀ p, p < 5 → f' (5 + p) = -9 ∨ ∃ b, b < 2 ∧ f' (5 + p) = nI b) : GP P c f' := by
  obtain ⟨k1, ⟨m, hm, k2, k3, k4⟩, k5, k6, k7, k8, k9, k10, k11, k12⟩ := id h
  have ez : szF f' = szF f := by unfold szF; rw [e2]
  have el : ∀ q, q < 2 → lkF f' q = lkF f q := fun q hq => by unfold lkF; rw [eb _ (by omega) (by omega)]
  have ec : ∀ i l w, i < szF f → l < 4 → w < 4 → cI f' i l w = cI f (π i) l w := fun i l w h1 h2 h3 => (es i h1).2 (4 * l + w) (by omega)
  have eg : ∀ b l w, b < 2 → l < lkF f b → w < 4 → gB_ f' b l w = gB_ f b l w := fun b l w h1 h2 h3 => by
    have := (h.lk h1).2
    exact eb _ (by omega) (by omega)
  refine ⟨by rw [e2]; exact k1, ⟨m, hm, by rw [e3]; exact k2, fun i hi l hl => ?_, fun b hb l hl => ?_⟩, h15, hp, h5, fun i hi => ?_, fun b hb => by rw [eb _ (by omega) (by omega)]; exact k9 b hb, fun i j l k h1 h2 h3 h4 h5 h6 => ?_, fun b i l k h1 h2 h3 h4 h5 => ?_, fun b l k h1 h2 h3 h4 => ?_⟩
  · rw [ez] at hi
    exact (k3 (π i) (hπ i hi) l hl).cg (fun w hw => ec i l w hi hl hw)
  · rw [el b hb] at hl
    exact (k4 b hb l hl).cg (fun w hw => eg b l w hb hl hw)
  · rw [ez] at hi
    refine ⟨?_, et i hi⟩
    rw [(es i hi).1]
    exact (k8 (π i) (hπ i hi)).1
  · rw [ez] at h1 h2
    rw [(es i h1).1, (es j h2).1] at h5
    rw [ec i l 0 h1 h3 (by decide), ec j k 0 h2 h4 (by decide)] at h6
    have := k10 (π i) (π j) l k (hπ i h1) (hπ j h2) h3 h4 h5 h6
    exact ⟨hi i j h1 h2 this.1, this.2⟩
  · rw [ez] at h2
    rw [el b h1] at h4
    rw [(es i h2).1] at h5
    rw [ec i l 0 h2 h3 (by decide), eg b k 0 h1 h4 (by decide)]
    exact k11 b (π i) l k h1 (hπ i h2) h3 h4 h5
  · rw [el b h1] at h2 h3
    rw [eg b l 0 h1 h2 (by decide), eg b k 0 h1 h3 (by decide)] at h4
    exact k12 b l k h1 h2 h3 h4
/-- only the head of the page changed -/
theorem GP.hd {P : Pl} {c : Nat} {f f' : Nat → Int32} (h : GP P c f) (hf : ∀ k, 16 ≤ k → k < 204 → f' k = f k) (h15 : f' 15 = -9 ∨ ∃ p, p < 5 ∧ f' 15 = nI p) (hp : ∀ p, p < 5 → f' p = -9 ∨ (p < pP P ∧ ∃ b, b < pB P ∧ f' p = nI b)) (h5 : ∀ p, p < 5 → f' (5 + p) = -9 ∨ ∃ b, b < 2 ∧ f' (5 + p) = nI b) : GP P c f' := by
  have hz := h.sz.2
  refine GP.cg id h (hf _ (by decide) (by decide)) (hf _ (by decide) (by decide)) (fun k h1 h2 => hf k h1 (by omega)) (fun i hi => hi) (fun i j _ _ e => e) (fun i hi => ⟨hf _ (by omega) (by omega), fun k hk => hf _ (by omega) (by omega)⟩) (fun i hi => ?_) h15 hp h5
  rw [hf _ (by omega) (by omega), hf _ (by omega) (by omega)]
  exact (h.2.2.2.2.2.1 i hi).2
theorem upd_s {f : Nat → Int32} {k : Nat} {v : Int32} : upd f k v k = v := by unfold upd; rw [if_pos rfl]
theorem upd_n {f : Nat → Int32} {k j : Nat} {v : Int32} (h : j ≠ k) : upd f k v j = f j := by unfold upd; rw [if_neg h]
theorem n9 {b : Nat} (h : b < 2 ^ 31) : ¬ nI b = -9 := fun e => by
  have := nlt0 h
  rw [e] at this
  exact this (by decide)
theorem InvM.wr {μ : Mu} {σ : Sg} {k : Nat} {v : Int32} (h : InvM μ σ) : InvM (sI μ 422 k v) (wN σ (upd (sN σ).1 k v, (sN σ).2)) := by
  refine h.toN (fun b j h1 h2 => by rw [gI_sI, if_neg h2]) (fun _ _ => rfl) (fun _ _ _ => rfl) (fun j hj => ?_) h.2.2.2.2.1
  rw [gI_sI, if_pos rfl]
  by_cases e : j = k
  · rw [if_pos e, e]; exact upd_s.symm
  · rw [if_neg e]; exact (h.1.2 j hj).trans (upd_n e).symm
/-! enter -/
def soon (f : Nat → Int32) (W p b : Nat) : Bool := decide (f (5 + p) = nI (1 - b)) && !decide (nI W ≤ f 203 - f (10 + p))
theorem x_soon {μ : Mu} {a p b W : Nat} {f : Nat → Int32} (h : SR μ a f) (hp : p < 5) (hb : b < 2) (hl : f (5 + p) = -9 ∨ ∃ b, b < 2 ∧ f (5 + p) = nI b) : m_X4_comesTooSoon SH a (nI p) (nI b) (nI W) μ = some (bI (soon f W p b), μ) := by
  have hpp := h.2.2.2.2.2.1 p hp
  unfold m_X4_comesTooSoon
  rw [gd_of h.1.iz, x_leftOf h.1 hp, ca2_s, hpp.2.1]
  rcases hl with e | ⟨q, hq, e⟩
  · rw [if_pos e]
    unfold soon
    rw [e, show decide ((-9 : Int32) = nI (1 - b)) = false from decide_eq_false (fun q => n9 (show 1 - b < 2 ^ 31 by omega) q.symm)]
    rfl
  · rw [e, if_neg (n9 (by omega)), x_leftAt h.1 hp, ca2_s, h.2.1, hpp.2.2]
    unfold soon
    rw [e]
    by_cases eq : q = b
    · rw [if_pos (by rw [eq]), show decide (nI q = nI (1 - b)) = false from decide_eq_false (fun w => by have := (nI_eq (by omega) (by omega)).mp w; omega)]
      rfl
    · rw [if_neg (fun w => eq ((nI_eq (by omega) (by omega)).mp w)), show decide (nI q = nI (1 - b)) = true from decide_eq_true (by rw [show 1 - b = q by omega])]
      by_cases hw : nI W ≤ f 203 - f (10 + p)
      · rw [if_pos hw, decide_eq_true hw]; rfl
      · rw [if_neg hw, decide_eq_false hw]; rfl
/-- five answers as a set -/
def bn (b : Bool) : Nat := if b then 1 else 0
def s5 (t : Nat → Bool) : Nat := bn (t 0) + 2 * bn (t 1) + 4 * bn (t 2) + 8 * bn (t 3) + 16 * bn (t 4)
def inB (t : Nat → Bool) : Nat → Int32
  | 0 => 0
  | p + 1 => if t p = true then inB t p ||| (1 <<< (nI p &&& 31)) else inB t p
theorem inG_B (f : Nat → Int32) (b : Int32) : ∀ N, inG f b N = inB (fun p => decide (f p = b)) N
  | 0 => rfl
  | p + 1 => by
    unfold inG inB
    rw [inG_B f b p]
    simp only [decide_eq_true_eq]
theorem inB_5 (t : Nat → Bool) : inB t 5 = nI (s5 t) := by
  have key : ∀ b0 b1 b2 b3 b4 : Bool, (if b4 = true then (if b3 = true then (if b2 = true then (if b1 = true then (if b0 = true then (0 : Int32) ||| (1 <<< (nI 0 &&& 31)) else 0) ||| (1 <<< (nI 1 &&& 31)) else (if b0 = true then (0 : Int32) ||| (1 <<< (nI 0 &&& 31)) else 0)) ||| (1 <<< (nI 2 &&& 31)) else (if b1 = true then (if b0 = true then (0 : Int32) ||| (1 <<< (nI 0 &&& 31)) else 0) ||| (1 <<< (nI 1 &&& 31)) else (if b0 = true then (0 : Int32) ||| (1 <<< (nI 0 &&& 31)) else 0))) ||| (1 <<< (nI 3 &&& 31)) else (if b2 = true then (if b1 = true then (if b0 = true then (0 : Int32) ||| (1 <<< (nI 0 &&& 31)) else 0) ||| (1 <<< (nI 1 &&& 31)) else (if b0 = true then (0 : Int32) ||| (1 <<< (nI 0 &&& 31)) else 0)) ||| (1 <<< (nI 2 &&& 31)) else (if b1 = true then (if b0 = true then (0 : Int32) ||| (1 <<< (nI 0 &&& 31)) else 0) ||| (1 <<< (nI 1 &&& 31)) else (if b0 = true then (0 : Int32) ||| (1 <<< (nI 0 &&& 31)) else 0)))) ||| (1 <<< (nI 4 &&& 31)) else (if b3 = true then (if b2 = true then (if b1 = true then (if b0 = true then (0 : Int32) ||| (1 <<< (nI 0 &&& 31)) else 0) ||| (1 <<< (nI 1 &&& 31)) else (if b0 = true then (0 : Int32) ||| (1 <<< (nI 0 &&& 31)) else 0)) ||| (1 <<< (nI 2 &&& 31)) else (if b1 = true then (if b0 = true then (0 : Int32) ||| (1 <<< (nI 0 &&& 31)) else 0) ||| (1 <<< (nI 1 &&& 31)) else (if b0 = true then (0 : Int32) ||| (1 <<< (nI 0 &&& 31)) else 0))) ||| (1 <<< (nI 3 &&& 31)) else (if b2 = true then (if b1 = true then (if b0 = true then (0 : Int32) ||| (1 <<< (nI 0 &&& 31)) else 0) ||| (1 <<< (nI 1 &&& 31)) else (if b0 = true then (0 : Int32) ||| (1 <<< (nI 0 &&& 31)) else 0)) ||| (1 <<< (nI 2 &&& 31)) else (if b1 = true then (if b0 = true then (0 : Int32) ||| (1 <<< (nI 0 &&& 31)) else 0) ||| (1 <<< (nI 1 &&& 31)) else (if b0 = true then (0 : Int32) ||| (1 <<< (nI 0 &&& 31)) else 0))))) = nI (bn b0 + 2 * bn b1 + 4 * bn b2 + 8 * bn b3 + 16 * bn b4) := by decide +kernel
  exact key (t 0) (t 1) (t 2) (t 3) (t 4)
def inS (f : Nat → Int32) (b : Nat) : Nat := s5 (fun p => decide (f p = nI b))
theorem inG_S (f : Nat → Int32) (b : Nat) : inG f (nI b) 5 = nI (inS f b) := (inG_B f _ 5).trans (inB_5 _)
theorem s5_lt (t : Nat → Bool) : s5 t < 32 := by
  have key : ∀ b0 b1 b2 b3 b4 : Bool, bn b0 + 2 * bn b1 + 4 * bn b2 + 8 * bn b3 + 16 * bn b4 < 32 := by decide
  exact key _ _ _ _ _
theorem s5_pop {t : Nat → Bool} {p : Nat} (hp : p < 5) (h : t p = false) : popc (s5 t) ≤ 4 := by
  have key : ∀ b0 b1 b2 b3 b4 : Bool, (b0 = false ∨ b1 = false ∨ b2 = false ∨ b3 = false ∨ b4 = false) → popc (bn b0 + 2 * bn b1 + 4 * bn b2 + 8 * bn b3 + 16 * bn b4) ≤ 4 := by decide +kernel
  refine key _ _ _ _ _ ?_
  rcases (show p = 0 ∨ p = 1 ∨ p = 2 ∨ p = 3 ∨ p = 4 by omega) with rfl | rfl | rfl | rfl | rfl
  · exact Or.inl h
  · exact Or.inr (Or.inl h)
  · exact Or.inr (Or.inr (Or.inl h))
  · exact Or.inr (Or.inr (Or.inr (Or.inl h)))
  · exact Or.inr (Or.inr (Or.inr (Or.inr h)))
/-- the bit of one -/
def hasB (s p : Nat) : Bool := s / 2 ^ p % 2 == 1
theorem hasI : ∀ s, s < 256 → ∀ p, p < 8 → decide ((nI s >>> (nI p &&& 31)) &&& 1 = 1) = hasB s p := by decide +kernel
theorem s5_bit {t : Nat → Bool} {p : Nat} (hp : p < 5) : hasB (s5 t) p = t p := by
  have key : ∀ p, p < 5 → ∀ b0 b1 b2 b3 b4 : Bool, hasB (bn b0 + 2 * bn b1 + 4 * bn b2 + 8 * bn b3 + 16 * bn b4) p = if p = 0 then b0 else if p = 1 then b1 else if p = 2 then b2 else if p = 3 then b3 else b4 := by decide +kernel
  refine (key p hp _ _ _ _ _).trans ?_
  rcases (show p = 0 ∨ p = 1 ∨ p = 2 ∨ p = 3 ∨ p = 4 by omega) with rfl | rfl | rfl | rfl | rfl <;> rfl
theorem inS_lt (f : Nat → Int32) (b : Nat) : inS f b < 32 := s5_lt _
theorem inS_bit {f : Nat → Int32} {b p : Nat} (hp : p < 5) : hasB (inS f b) p = decide (f p = nI b) := s5_bit hp

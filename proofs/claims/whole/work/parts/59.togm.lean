/-! parts together: the reference's counts and the class's -/
def stW (f : (Nat → Bool) → Int32) (E X : Nat → Bool) : Nat → Int32
  | 0 => 0
  | b + 1 => if (X b && E b) = true then stW f E X b + f (er X b) else stW f E X b
theorem stW_sz (f : (Nat → Bool) → Int32) (E X : Nat → Bool) : ∀ n, stW f E X n = sz (fun b => if (X b && E b) = true then f (er X b) else 0) n
  | 0 => rfl
  | n + 1 => by
    show (if (X n && E n) = true then stW f E X n + f (er X n) else stW f E X n) = sz (fun b => if (X b && E b) = true then f (er X b) else 0) n + (if (X n && E n) = true then f (er X n) else 0)
    rw [stW_sz f E X n]
    split
    · rfl
    · rw [Int32.add_zero]
def Wt (T : Nat → Bool) (E : Nat → Nat → Bool) (n : Nat) : Nat → (Nat → Bool) → Int32
  | 0 => fun X => if cn X 8 = 0 then 1 else 0
  | a + 1 => fun X => if T a = true then stW (Wt T E n a) (E a) X n else Wt T E n a X
theorem Wt_t {T : Nat → Bool} {E : Nat → Nat → Bool} {n a : Nat} {X : Nat → Bool} (h : T a = true) : Wt T E n (a + 1) X = stW (Wt T E n a) (E a) X n := by
  show (if T a = true then stW (Wt T E n a) (E a) X n else Wt T E n a X) = _
  rw [if_pos h]
theorem Wt_f {T : Nat → Bool} {E : Nat → Nat → Bool} {n a : Nat} {X : Nat → Bool} (h : T a = false) : Wt T E n (a + 1) X = Wt T E n a X := by
  show (if T a = true then stW (Wt T E n a) (E a) X n else Wt T E n a X) = _
  rw [h, if_neg (by decide)]
def E1 (T : Nat → Bool) (E : Nat → Nat → Bool) (a b : Nat) : Bool := T a && (T b && E a b)
def eh (T X : Nat → Bool) : Nat → Bool := fun b => T b && X (cn T b)
def Ec (T : Nat → Bool) (E : Nat → Nat → Bool) (n i j : Nat) : Bool := E (el T n i) (el T n j)
theorem eh_er {T X : Nat → Bool} {n i : Nat} (hT : ∀ b, n ≤ b → T b = false) (hi : i < cn T n) : er (eh T X) (el T n i) = eh T (er X i) := by
  have q := el_in hi
  funext b
  show (T b && X (cn T b) && !decide (b = el T n i)) = (T b && (X (cn T b) && !decide (cn T b = i)))
  cases hb : T b with
  | false => rfl
  | true =>
    have hbn : b < n := Nat.lt_of_not_le (fun h => by rw [hT b h] at hb; cases hb)
    have e : decide (b = el T n i) = decide (cn T b = i) := by
      by_cases c : cn T b = i
      · rw [decide_eq_true c, decide_eq_true]
        rw [← c, el_rk hb hbn]
      · rw [decide_eq_false c, decide_eq_false]
        intro c2
        rw [c2] at c
        exact c q.2.2
    rw [e, Bool.true_and, Bool.true_and]
theorem wt_br {T : Nat → Bool} {E : Nat → Nat → Bool} {n : Nat} (hn : n ≤ 8) (hT : ∀ b, n ≤ b → T b = false) : ∀ a, a ≤ n → ∀ X, (∀ i, cn T n ≤ i → X i = false) → Wt T (E1 T E) n a (eh T X) = Wt (fun _ => true) (Ec T E n) (cn T n) (cn T a) X
  | 0, _, X, hX => by
    show (if cn (eh T X) 8 = 0 then (1 : Int32) else 0) = if cn X 8 = 0 then 1 else 0
    have m8 : cn T n ≤ 8 := Nat.le_trans (cn_le T n) hn
    have e1 : cn (eh T X) 8 = cn X (cn T 8) := by
      unfold eh
      rw [cn_tr (T := T) (p := fun b => X (cn T b)) 8]
      exact cn_cg (fun i hi => by rw [(el_in hi).2.2])
    have e2 : cn T 8 = cn T n := by rw [show 8 = n + (8 - n) by omega, cn_out hT]
    have e3 : cn X 8 = cn X (cn T n) := by
      have := cn_out hX (8 - cn T n)
      rw [show cn T n + (8 - cn T n) = 8 by omega] at this
      exact this
    rw [e1, e2, e3]
  | a + 1, ha, X, hX => by
    have ih := wt_br (E := E) hn hT a (by omega)
    show (if T a = true then stW (Wt T (E1 T E) n a) (E1 T E a) (eh T X) n else Wt T (E1 T E) n a (eh T X)) = _
    cases hTa : T a with
    | false =>
      rw [cn_f hTa, if_neg (by decide)]
      exact ih X hX
    | true =>
      rw [cn_t hTa, if_pos rfl]
      have r : Wt (fun _ => true) (Ec T E n) (cn T n) (cn T a + 1) X = stW (Wt (fun _ => true) (Ec T E n) (cn T n) (cn T a)) (Ec T E n (cn T a)) X (cn T n) := Wt_t rfl
      rw [r, stW_sz, stW_sz]
      have e1 : sz (fun b => if (eh T X b && E1 T E a b) = true then Wt T (E1 T E) n a (er (eh T X) b) else 0) n = sz (fun b => if T b = true then (if (X (cn T b) && E a b) = true then Wt T (E1 T E) n a (er (eh T X) b) else 0) else 0) n := sz_cg (fun b hb => by
        unfold eh E1
        rw [hTa]
        cases T b with
        | false => rfl
        | true => simp only [Bool.true_and, if_true])
      rw [e1, sz_tr (T := T) (F := fun b => if (X (cn T b) && E a b) = true then Wt T (E1 T E) n a (er (eh T X) b) else 0) n]
      refine sz_cg (fun i hi => ?_)
      have q := el_in hi
      show (if (X (cn T (el T n i)) && E a (el T n i)) = true then Wt T (E1 T E) n a (er (eh T X) (el T n i)) else 0) = if (X i && E (el T n (cn T a)) (el T n i)) = true then _ else 0
      rw [q.2.2, el_rk hTa (by omega), eh_er hT hi, ih (er X i) (fun j hj => by
        cases h : er X i j with
        | false => rfl
        | true => exact absurd (er_le h) (by rw [hX j hj]; decide))]
def NBm (T : Nat → Bool) (E : Nat → Nat → Bool) (n s : Nat) : Nat := mk (fun j => nb (Ec T E n) (hasB s) j (cn T n)) (cn T n)
theorem bn_t (t p : Bool) : bn (!t || p) + bn t = 1 + bn (t && p) := by cases t <;> cases p <;> rfl
theorem cn_not (T p : Nat → Bool) : ∀ n, cn (fun a => !T a || p a) n + cn T n = n + cn (fun a => T a && p a) n
  | 0 => rfl
  | n + 1 => by
    have ih := cn_not T p n
    have b := bn_t (T n) (p n)
    show (cn (fun a => !T a || p a) n + bn (!T n || p n)) + (cn T n + bn (T n)) = n + 1 + (cn (fun a => T a && p a) n + bn (T n && p n))
    omega
theorem mo_weak {T : Nat → Bool} {E : Nat → Nat → Bool} {n s : Nat} (hn : n ≤ 8) (hs : s < 2 ^ cn T n) : Mt (E1 T E) n n T + popc s ≤ cn T n + popc (NBm T E n s) := by
  have m8 : cn T n ≤ 8 := Nat.le_trans (cn_le T n) hn
  have w := m_weak (E := E1 T E) (n := n) n T (fun a => !T a || hasB s (cn T a))
  have c := cn_not T (fun a => hasB s (cn T a)) n
  have e1 : cn (fun a => T a && hasB s (cn T a)) n = popc s := by
    rw [cn_tr (T := T) (p := fun b => hasB s (cn T b)) n, pop_m m8 hs]
    exact cn_cg (fun i hi => by rw [(el_in hi).2.2])
  have e2 : nS (E1 T E) n T (fun a => !T a || hasB s (cn T a)) n ≤ popc (NBm T E n s) := by
    unfold nS NBm
    rw [pop_mk m8, cn_tr (T := T) (p := fun b => nb (E1 T E) (fun a => !T a || hasB s (cn T a)) b n) n]
    refine cn_mono (fun i hi h => ?_)
    rw [nb_iff] at h ⊢
    obtain ⟨a, h1, h2, h3⟩ := h
    unfold E1 at h3
    rw [Bool.and_eq_true, Bool.and_eq_true] at h3
    rw [h3.1, Bool.not_true, Bool.false_or] at h2
    refine ⟨cn T a, cn_at h1 h3.1, h2, ?_⟩
    unfold Ec
    rw [el_rk h3.1 h1]
    exact h3.2.2
  rw [e1] at c
  omega
theorem mo_strong {T : Nat → Bool} {E : Nat → Nat → Bool} {n : Nat} (hn : n ≤ 8) : ∃ s, s < 2 ^ cn T n ∧ cn T n + popc (NBm T E n s) ≤ Mt (E1 T E) n n T + popc s := by
  have m8 : cn T n ≤ 8 := Nat.le_trans (cn_le T n) hn
  obtain ⟨X, hX⟩ := m_strong (E := E1 T E) (n := n) n T
  refine ⟨mk (fun i => X (el T n i)) (cn T n), mk_lt _ _, ?_⟩
  have e1 : popc (mk (fun i => X (el T n i)) (cn T n)) = cn (fun a => T a && X a) n := by
    rw [pop_mk m8, cn_tr (T := T) (p := X) n]
  have c := cn_not T X n
  have c2 : cn X n ≤ cn (fun a => !T a || X a) n := cn_mono (fun i _ h => by rw [h, Bool.or_true])
  have e2 : popc (NBm T E n (mk (fun i => X (el T n i)) (cn T n))) ≤ nS (E1 T E) n T X n := by
    unfold nS NBm
    rw [pop_mk m8, cn_tr (T := T) (p := fun b => nb (E1 T E) X b n) n]
    refine cn_mono (fun i hi h => ?_)
    rw [nb_iff] at h ⊢
    obtain ⟨a, h1, h2, h3⟩ := h
    rw [mk_bit, Bool.and_eq_true] at h2
    have qa := el_in h1
    have qi := el_in hi
    refine ⟨el T n a, qa.1, h2.2, ?_⟩
    unfold E1
    rw [qa.2.1, qi.2.1]
    exact h3
  rw [e1]
  omega
theorem nbm_0 {T : Nat → Bool} {E : Nat → Nat → Bool} {n : Nat} : NBm T E n 0 = 0 := hasB_ext (fun i => by
  rw [hasB_lt (Nat.two_pow_pos i)]
  unfold NBm
  rw [mk_bit]
  cases h : nb (Ec T E n) (hasB 0) i (cn T n) with
  | false => rw [Bool.and_false]
  | true =>
    obtain ⟨a, h1, h2, h3⟩ := nb_iff.mp h
    rw [hasB_lt (Nat.two_pow_pos a)] at h2
    cases h2)
theorem nbm_st {T : Nat → Bool} {E : Nat → Nat → Bool} {n s l : Nat} (hs : s < 256) (hl : l < cn T n) (l8 : l < 8) (hb : hasB s l = true) : NBm T E n (s - 2 ^ l) ||| mk (Ec T E n l) (cn T n) = NBm T E n s := by
  unfold NBm
  rw [mk_or, hasB_dn hs l8 hb]
  refine mk_cg (fun j hj => ?_)
  rw [Bool.eq_iff_iff, Bool.or_eq_true, nb_iff, nb_iff]
  constructor
  · rintro (⟨a, h1, h2, h3⟩ | h)
    · exact ⟨a, h1, er_le h2, h3⟩
    · exact ⟨l, hl, hb, h⟩
  · rintro ⟨a, h1, h2, h3⟩
    by_cases e : a = l
    · subst e; exact Or.inr h3
    · exact Or.inl ⟨a, h1, by rw [er_n e]; exact h2, h3⟩
def mnD (D : Nat → Nat) (m : Nat) : Nat → Nat
  | 0 => m
  | k + 1 => min (mnD D m k) (D k)
theorem mnD_ge {D : Nat → Nat} {m M : Nat} (h0 : M ≤ m) : ∀ {k : Nat}, (∀ s, s < k → M ≤ D s) → M ≤ mnD D m k
  | 0, _ => h0
  | k + 1, h => by
    have a := mnD_ge (D := D) h0 (k := k) (fun s hs => h s (by omega))
    have b := h k (by omega)
    show M ≤ min (mnD D m k) (D k)
    omega
theorem mnD_le {D : Nat → Nat} {m s : Nat} : ∀ {k : Nat}, s < k → mnD D m k ≤ D s
  | 0, h => absurd h (by omega)
  | k + 1, h => by
    show min (mnD D m k) (D k) ≤ D s
    by_cases e : s = k
    · subst e; omega
    · have := mnD_le (D := D) (m := m) (s := s) (k := k) (by omega)
      omega
def Dm (T : Nat → Bool) (E : Nat → Nat → Bool) (n s : Nat) : Nat := cn T n + popc (NBm T E n s) - popc s
theorem mo_eq {T : Nat → Bool} {E : Nat → Nat → Bool} {n : Nat} (hn : n ≤ 8) : mnD (Dm T E n) (cn T n) (2 ^ cn T n) = Mt (E1 T E) n n T := by
  have w := fun s (hs : s < 2 ^ cn T n) => mo_weak (E := E) hn hs
  have hm : Mt (E1 T E) n n T ≤ cn T n := by
    have := w 0 (Nat.two_pow_pos _)
    rw [nbm_0] at this
    exact this
  obtain ⟨s, hs, h⟩ := mo_strong (T := T) (E := E) hn
  have a : Mt (E1 T E) n n T ≤ mnD (Dm T E n) (cn T n) (2 ^ cn T n) := mnD_ge hm (fun s hs => by have := w s hs; unfold Dm; omega)
  have b : mnD (Dm T E n) (cn T n) (2 ^ cn T n) ≤ Dm T E n s := mnD_le hs
  have d : Dm T E n s = cn T n + popc (NBm T E n s) - popc s := rfl
  omega
/-! the class's table of ways, forward -/
def gW (C : Nat → Nat → Bool) (m u : Nat) : Int32 := Wt (fun _ => true) C m (popc u) (hasB u)
def tW (C : Nat → Nat → Bool) (m k l u j : Nat) : Int32 := if (hasB u j && ((decide (u - 2 ^ j < k) || (decide (u - 2 ^ j = k) && decide (j < l))) && C (popc u - 1) j)) = true then gW C m (u - 2 ^ j) else 0
def pW_ (C : Nat → Nat → Bool) (m k l u : Nat) : Int32 := sz (tW C m k l u) m + (if u = 0 then 1 else 0)
theorem pW_0 {C : Nat → Nat → Bool} {m u : Nat} : pW_ C m 0 0 u = if u = 0 then 1 else 0 := by
  unfold pW_
  rw [sz_0 (fun j _ => ?_), Int32.zero_add]
  unfold tW
  rw [decide_eq_false (show ¬ u - 2 ^ j < 0 by omega), decide_eq_false (show ¬ j < 0 by omega), Bool.and_false, Bool.or_false, Bool.false_and, Bool.and_false, if_neg (by decide)]
theorem pW_nx {C : Nat → Nat → Bool} {m k u : Nat} : pW_ C m k m u = pW_ C m (k + 1) 0 u := by
  unfold pW_
  rw [sz_cg (fun j hj => ?_)]
  unfold tW
  rw [decide_eq_true hj, Bool.and_true, decide_eq_false (show ¬ j < 0 by omega), Bool.and_false, Bool.or_false]
  have e : (decide (u - 2 ^ j < k) || decide (u - 2 ^ j = k)) = decide (u - 2 ^ j < k + 1) := by
    by_cases a : u - 2 ^ j < k
    · rw [decide_eq_true a, decide_eq_true (show u - 2 ^ j < k + 1 by omega), Bool.true_or]
    · by_cases b : u - 2 ^ j = k
      · rw [decide_eq_true b, decide_eq_true (show u - 2 ^ j < k + 1 by omega), Bool.or_true]
      · rw [decide_eq_false a, decide_eq_false b, decide_eq_false (show ¬ u - 2 ^ j < k + 1 by omega)]; rfl
  rw [e]
theorem pW_G {C : Nat → Nat → Bool} {m k l u : Nat} (hm : m ≤ 8) (hu : u < 2 ^ m) (hk : u ≤ k) : pW_ C m k l u = gW C m u := by
  have u8 : u < 256 := Nat.lt_of_lt_of_le hu (Nat.pow_le_pow_right (by decide) hm)
  unfold pW_
  by_cases h0 : u = 0
  · subst h0
    rw [if_pos rfl, sz_0 (fun j _ => ?_)]
    · rfl
    · unfold tW
      rw [hasB_lt (Nat.two_pow_pos j), Bool.false_and, if_neg (by decide)]
  · rw [if_neg h0, Int32.add_zero]
    have hp : popc u ≠ 0 := by
      have : ∀ u, u < 256 → u ≠ 0 → popc u ≠ 0 := by decide +kernel
      exact this u u8 h0
    unfold gW
    obtain ⟨p, ep⟩ : ∃ p, popc u = p + 1 := ⟨popc u - 1, by omega⟩
    rw [ep]
    have r : Wt (fun _ => true) C m (p + 1) (hasB u) = stW (Wt (fun _ => true) C m p) (C p) (hasB u) m := Wt_t rfl
    rw [r, stW_sz]
    refine sz_cg (fun j hj => ?_)
    unfold tW
    rw [ep, show p + 1 - 1 = p by omega]
    cases hb : hasB u j with
    | false => rfl
    | true =>
      obtain ⟨q1, q2, q3⟩ := er_has u u8 j (by omega) hb
      have pos := Nat.two_pow_pos j
      rw [decide_eq_true (show u - 2 ^ j < k by omega), Bool.true_or, Bool.true_and, Bool.true_and]
      unfold gW
      rw [show popc (u - 2 ^ j) = p by omega, hasB_dn u8 (by omega) hb]
theorem tW_same {C : Nat → Nat → Bool} {m k l u j : Nat} (h : ¬ (j = l ∧ u - 2 ^ j = k)) : tW C m k (l + 1) u j = tW C m k l u j := by
  unfold tW
  by_cases e : u - 2 ^ j = k
  · have hj : j ≠ l := fun q => h ⟨q, e⟩
    have : decide (j < l + 1) = decide (j < l) := by
      by_cases q : j < l
      · rw [decide_eq_true q, decide_eq_true (by omega)]
      · rw [decide_eq_false q, decide_eq_false (by omega)]
    rw [this]
  · rw [decide_eq_false e, Bool.false_and, Bool.false_and]
theorem pW_st {C : Nat → Nat → Bool} {m k l u : Nat} (hl : l < m) (h8 : m ≤ 8) (hk : k < 256) : pW_ C m k (l + 1) u = if (!hasB k l && C (popc k) l) = true ∧ u = k + 2 ^ l then pW_ C m k l u + gW C m k else pW_ C m k l u := by
  by_cases hc : (!hasB k l && C (popc k) l) = true ∧ u = k + 2 ^ l
  · rw [if_pos hc]
    obtain ⟨h1, rfl⟩ := hc
    rw [Bool.and_eq_true, Bool.not_eq_true'] at h1
    obtain ⟨o1, o2, o3⟩ := or_new k hk l (by omega) h1.1
    unfold pW_
    rw [sz_one (F := tW C m k l (k + 2 ^ l)) (G := tW C m k (l + 1) (k + 2 ^ l)) (l := l) (x := gW C m k) ?_ ?_ (fun i hi => tW_same (fun q => hi q.1)) hl]
    · rw [Int32.add_assoc, Int32.add_assoc, Int32.add_comm (gW C m k)]
    · unfold tW
      rw [show k + 2 ^ l - 2 ^ l = k by omega, decide_eq_false (show ¬ k < k by omega), decide_eq_false (show ¬ l < l by omega), Bool.and_false, Bool.or_false, Bool.false_and, Bool.and_false, if_neg (by decide)]
    · unfold tW
      rw [show k + 2 ^ l - 2 ^ l = k by omega, o2, o3, show popc k + 1 - 1 = popc k by omega, h1.2, decide_eq_true rfl, decide_eq_true (show l < l + 1 by omega), Bool.and_true, Bool.and_true, Bool.or_true, Bool.and_true, if_pos rfl]
  · rw [if_neg hc]
    unfold pW_
    rw [sz_cg (fun j hj => ?_)]
    by_cases q : j = l ∧ u - 2 ^ j = k
    · obtain ⟨rfl, q2⟩ := q
      unfold tW
      cases hb : hasB u j with
      | false => rw [Bool.false_and, Bool.false_and]
      | true =>
        by_cases u0 : u < 2 ^ j
        · rw [hasB_lt u0] at hb; cases hb
        · have eu : u = k + 2 ^ j := by omega
          cases hkb : hasB k j with
          | true =>
            have kk : hasB (k + 2 ^ j) j = false := by
              have : ∀ k, k < 256 → ∀ j, j < 8 → hasB k j = true → hasB (k + 2 ^ j) j = false := by decide +kernel
              exact this k hk j (by omega) hkb
            rw [eu, kk] at hb
            cases hb
          | false =>
            obtain ⟨o1, o2, o3⟩ := or_new k hk j (by omega) hkb
            have cf : C (popc k) j = false := by
              cases h : C (popc k) j with
              | false => rfl
              | true => exact absurd ⟨by rw [hkb, h]; rfl, eu⟩ hc
            rw [eu, o3, show popc k + 1 - 1 = popc k by omega, cf]
            simp only [Bool.and_false]
    · exact tW_same q

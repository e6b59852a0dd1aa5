/-! matchings: as many as are left by the set that most lacks -/
def cn (X : Nat → Bool) : Nat → Nat
  | 0 => 0
  | n + 1 => cn X n + bn (X n)
theorem bn_le (b : Bool) : bn b ≤ 1 := by cases b <;> decide
theorem cn_le (X : Nat → Bool) : ∀ n, cn X n ≤ n
  | 0 => Nat.le_refl 0
  | n + 1 => by have := cn_le X n; have := bn_le (X n); show cn X n + bn (X n) ≤ n + 1; omega
theorem cn_cg {X Y : Nat → Bool} : ∀ {n : Nat}, (∀ i, i < n → X i = Y i) → cn X n = cn Y n
  | 0, _ => rfl
  | n + 1, h => by
    show cn X n + bn (X n) = cn Y n + bn (Y n)
    rw [cn_cg (fun i hi => h i (by omega)), h n (by omega)]
theorem bn_mono {a b : Bool} (h : a = true → b = true) : bn a ≤ bn b := by
  cases a with
  | false => exact Nat.zero_le _
  | true => rw [h rfl]; exact Nat.le_refl _
theorem cn_mono {X Y : Nat → Bool} : ∀ {n : Nat}, (∀ i, i < n → X i = true → Y i = true) → cn X n ≤ cn Y n
  | 0, _ => Nat.le_refl 0
  | n + 1, h => by
    have a := cn_mono (X := X) (Y := Y) (n := n) (fun i hi => h i (by omega))
    have b := bn_mono (h n (by omega))
    show cn X n + bn (X n) ≤ cn Y n + bn (Y n)
    omega
theorem bn_un (a b : Bool) : bn (a || b) + bn (a && b) = bn a + bn b := by cases a <;> cases b <;> rfl
theorem cn_un (X Y : Nat → Bool) : ∀ n, cn (fun i => X i || Y i) n + cn (fun i => X i && Y i) n = cn X n + cn Y n
  | 0 => rfl
  | n + 1 => by
    have a := cn_un X Y n
    have b := bn_un (X n) (Y n)
    show (cn (fun i => X i || Y i) n + bn (X n || Y n)) + (cn (fun i => X i && Y i) n + bn (X n && Y n)) = (cn X n + bn (X n)) + (cn Y n + bn (Y n))
    omega
def er (X : Nat → Bool) (j : Nat) : Nat → Bool := fun i => X i && !decide (i = j)
theorem er_n {X : Nat → Bool} {i j : Nat} (h : i ≠ j) : er X j i = X i := by
  unfold er
  rw [decide_eq_false h, Bool.not_false, Bool.and_true]
theorem er_s {X : Nat → Bool} {j : Nat} : er X j j = false := by
  unfold er
  rw [decide_eq_true rfl, Bool.not_true, Bool.and_false]
theorem er_le {X : Nat → Bool} {i j : Nat} (h : er X j i = true) : X i = true := by
  unfold er at h
  rw [Bool.and_eq_true] at h
  exact h.1
theorem cn_er_o {X : Nat → Bool} {j : Nat} : ∀ {n : Nat}, n ≤ j → cn (er X j) n = cn X n := fun h => cn_cg (fun i hi => er_n (by omega))
theorem cn_er {X : Nat → Bool} {j : Nat} (hX : X j = true) : ∀ {n : Nat}, j < n → cn (er X j) n + 1 = cn X n
  | 0, h => absurd h (by omega)
  | n + 1, h => by
    show cn (er X j) n + bn (er X j n) + 1 = cn X n + bn (X n)
    by_cases e : n = j
    · subst e
      rw [er_s, hX, cn_er_o (Nat.le_refl _)]
      rfl
    · have := cn_er hX (n := n) (by omega)
      rw [er_n e]
      omega
def nb (E : Nat → Nat → Bool) (X : Nat → Bool) (b : Nat) : Nat → Bool
  | 0 => false
  | a + 1 => nb E X b a || (X a && E a b)
theorem nb_iff {E : Nat → Nat → Bool} {X : Nat → Bool} {b : Nat} : ∀ {j : Nat}, nb E X b j = true ↔ ∃ a, a < j ∧ X a = true ∧ E a b = true
  | 0 => ⟨(fun h => by cases h), fun ⟨a, h, _⟩ => absurd h (by omega)⟩
  | j + 1 => by
    have ih := nb_iff (E := E) (X := X) (b := b) (j := j)
    show (nb E X b j || (X j && E j b)) = true ↔ _
    rw [Bool.or_eq_true, Bool.and_eq_true, ih]
    constructor
    · rintro (⟨a, h1, h2⟩ | h)
      · exact ⟨a, by omega, h2⟩
      · exact ⟨j, by omega, h⟩
    · rintro ⟨a, h1, h2⟩
      by_cases e : a = j
      · subst e; exact Or.inr h2
      · exact Or.inl ⟨a, by omega, h2⟩
def stM (f : (Nat → Bool) → Nat) (E : Nat → Bool) (X : Nat → Bool) : Nat → Nat
  | 0 => f X
  | b + 1 => if (X b && E b) = true then max (f (er X b) + 1) (stM f E X b) else stM f E X b
theorem stM_ge {f : (Nat → Bool) → Nat} {E X : Nat → Bool} : ∀ n, f X ≤ stM f E X n
  | 0 => Nat.le_refl _
  | n + 1 => by
    have := stM_ge (f := f) (E := E) (X := X) n
    show f X ≤ if (X n && E n) = true then max (f (er X n) + 1) (stM f E X n) else stM f E X n
    split <;> omega
theorem stM_el {f : (Nat → Bool) → Nat} {E X : Nat → Bool} {c : Nat} (h1 : X c = true) (h2 : E c = true) : ∀ {n}, c < n → f (er X c) + 1 ≤ stM f E X n
  | 0, h => absurd h (by omega)
  | n + 1, h => by
    show f (er X c) + 1 ≤ if (X n && E n) = true then max (f (er X n) + 1) (stM f E X n) else stM f E X n
    by_cases e : c = n
    · subst e
      rw [h1, h2, if_pos (show (true && true) = true from rfl)]
      omega
    · have := stM_el h1 h2 (f := f) (n := n) (by omega)
      split <;> omega
theorem stM_cs {f : (Nat → Bool) → Nat} {E X : Nat → Bool} : ∀ n, stM f E X n = f X ∨ ∃ c, c < n ∧ X c = true ∧ E c = true ∧ stM f E X n = f (er X c) + 1
  | 0 => Or.inl rfl
  | n + 1 => by
    have ih := stM_cs (f := f) (E := E) (X := X) n
    have ee : stM f E X (n + 1) = if (X n && E n) = true then max (f (er X n) + 1) (stM f E X n) else stM f E X n := rfl
    by_cases hc : (X n && E n) = true
    · rw [if_pos hc] at ee
      rw [Bool.and_eq_true] at hc
      rcases Nat.le_total (stM f E X n) (f (er X n) + 1) with q | q
      · rw [Nat.max_eq_left q] at ee
        exact Or.inr ⟨n, by omega, hc.1, hc.2, ee⟩
      · rw [Nat.max_eq_right q] at ee
        rw [ee]
        rcases ih with h | ⟨c, h1, h2⟩
        · exact Or.inl h
        · exact Or.inr ⟨c, by omega, h2⟩
    · rw [if_neg hc] at ee
      rw [ee]
      rcases ih with h | ⟨c, h1, h2⟩
      · exact Or.inl h
      · exact Or.inr ⟨c, by omega, h2⟩
def Mt (E : Nat → Nat → Bool) (n : Nat) : Nat → (Nat → Bool) → Nat
  | 0 => fun _ => 0
  | a + 1 => fun X => stM (Mt E n a) (E a) X n
/-- how many of S the set X knows -/
def nS (E : Nat → Nat → Bool) (n : Nat) (S X : Nat → Bool) (j : Nat) : Nat := cn (fun b => S b && nb E X b j) n
theorem nb_up {E : Nat → Nat → Bool} {X : Nat → Bool} {b j : Nat} (h : nb E X b j = true) : nb E X b (j + 1) = true := by
  show (nb E X b j || (X j && E j b)) = true
  rw [h]
  rfl
theorem nS_up {E : Nat → Nat → Bool} {n : Nat} {S X : Nat → Bool} {j : Nat} : nS E n S X j ≤ nS E n S X (j + 1) := cn_mono (fun i _ h => by
  rw [Bool.and_eq_true] at h ⊢
  exact ⟨h.1, nb_up h.2⟩)
theorem nS_er {E : Nat → Nat → Bool} {n : Nat} {S X : Nat → Bool} {j c : Nat} : nS E n (er S c) X j ≤ nS E n S X j := cn_mono (fun i _ h => by
  rw [Bool.and_eq_true] at h ⊢
  exact ⟨er_le h.1, h.2⟩)
theorem nS_er1 {E : Nat → Nat → Bool} {n : Nat} {S X : Nat → Bool} {j c : Nat} (hc : c < n) (hS : S c = true) (hN : nb E X c j = true) : nS E n (er S c) X j + 1 = nS E n S X j := by
  unfold nS
  rw [← cn_er (X := fun b => S b && nb E X b j) (j := c) (by show (S c && nb E X c j) = true; rw [hS, hN]; rfl) hc]
  refine congrArg (· + 1) (cn_cg (fun i _ => ?_))
  show (S i && !decide (i = c) && nb E X i j) = (S i && nb E X i j && !decide (i = c))
  cases S i <;> cases nb E X i j <;> cases decide (i = c) <;> rfl
theorem nS_er0 {E : Nat → Nat → Bool} {n : Nat} {S X : Nat → Bool} {j c : Nat} (hN : nb E X c j = false) : nS E n (er S c) X j = nS E n S X j := by
  refine cn_cg (fun i _ => ?_)
  show (er S c i && nb E X i j) = (S i && nb E X i j)
  by_cases e : i = c
  · subst e; rw [hN, Bool.and_false, Bool.and_false]
  · rw [er_n e]
theorem m_weak {E : Nat → Nat → Bool} {n : Nat} : ∀ (j : Nat) (S X : Nat → Bool), Mt E n j S + cn X j ≤ j + nS E n S X j
  | 0, S, X => Nat.zero_le _
  | j + 1, S, X => by
    have hb := bn_le (X j)
    have e : cn X (j + 1) = cn X j + bn (X j) := rfl
    have up := nS_up (E := E) (n := n) (S := S) (X := X) (j := j)
    rcases stM_cs (f := Mt E n j) (E := E j) (X := S) n with h | ⟨c, h1, h2, h3, h⟩
    · have ih := m_weak (E := E) (n := n) j S X
      have h' : Mt E n (j + 1) S = Mt E n j S := h
      omega
    · have ih := m_weak (E := E) (n := n) j (er S c) X
      have h' : Mt E n (j + 1) S = Mt E n j (er S c) + 1 := h
      have le := nS_er (E := E) (n := n) (S := S) (X := X) (j := j) (c := c)
      cases hX : X j with
      | false => rw [hX] at e; have : bn false = 0 := rfl; omega
      | true =>
        have q := nS_er1 (E := E) (X := X) (j := j + 1) h1 h2 (by show (nb E X c j || (X j && E j c)) = true; rw [hX, h3, Bool.true_and, Bool.or_true])
        have up2 := nS_up (E := E) (n := n) (S := er S c) (X := X) (j := j)
        omega
theorem nS_sub {E : Nat → Nat → Bool} {n : Nat} {S X Y : Nat → Bool} {j : Nat} : nS E n S (fun i => X i || Y i) j + nS E n S (fun i => X i && Y i) j ≤ nS E n S X j + nS E n S Y j := by
  have u := cn_un (fun b => S b && nb E X b j) (fun b => S b && nb E Y b j) n
  have a : nS E n S (fun i => X i || Y i) j ≤ cn (fun i => (S i && nb E X i j) || (S i && nb E Y i j)) n := cn_mono (fun i _ h => by
    rw [Bool.and_eq_true, nb_iff] at h
    obtain ⟨h0, a, h1, h2, h3⟩ := h
    rw [Bool.or_eq_true] at h2
    rw [Bool.or_eq_true, Bool.and_eq_true, Bool.and_eq_true, nb_iff, nb_iff]
    rcases h2 with h2 | h2
    · exact Or.inl ⟨h0, a, h1, h2, h3⟩
    · exact Or.inr ⟨h0, a, h1, h2, h3⟩)
  have b : nS E n S (fun i => X i && Y i) j ≤ cn (fun i => (S i && nb E X i j) && (S i && nb E Y i j)) n := cn_mono (fun i _ h => by
    rw [Bool.and_eq_true, nb_iff] at h
    obtain ⟨h0, a, h1, h2, h3⟩ := h
    rw [Bool.and_eq_true] at h2
    rw [Bool.and_eq_true, Bool.and_eq_true, Bool.and_eq_true, nb_iff, nb_iff]
    exact ⟨⟨h0, a, h1, h2.1, h3⟩, h0, a, h1, h2.2, h3⟩)
  show _ ≤ cn (fun b => S b && nb E X b j) n + cn (fun b => S b && nb E Y b j) n
  omega
theorem m_strong {E : Nat → Nat → Bool} {n : Nat} : ∀ (j : Nat) (S : Nat → Bool), ∃ X, j + nS E n S X j ≤ Mt E n j S + cn X j
  | 0, S => ⟨fun _ => false, by
    have : nS E n S (fun _ => false) 0 ≤ cn (fun _ => false) n := cn_mono (fun i _ h => by
      rw [Bool.and_eq_true] at h
      exact absurd h.2 (by show ¬ false = true; decide))
    have z : ∀ n, cn (fun _ => false) n = 0 := fun n => by
      induction n with
      | zero => rfl
      | succ n ih => show cn (fun _ => false) n + 0 = 0; omega
    rw [z] at this
    show 0 + nS E n S (fun _ => false) 0 ≤ 0 + 0
    omega⟩
  | j + 1, S => by
    obtain ⟨X0, hX0⟩ := m_strong (E := E) (n := n) j S
    by_cases hA : ∃ c, c < n ∧ S c = true ∧ E j c = true ∧ Mt E n j S ≤ Mt E n j (er S c)
    · obtain ⟨c, h1, h2, h3, h4⟩ := hA
      have h5 : Mt E n j (er S c) + 1 ≤ Mt E n (j + 1) S := stM_el h2 h3 h1
      refine ⟨er X0 j, ?_⟩
      have e1 : cn (er X0 j) (j + 1) = cn X0 j := by
        show cn (er X0 j) j + bn (er X0 j j) = cn X0 j
        rw [er_s, cn_er_o (Nat.le_refl _)]
        rfl
      have e2 : nS E n S (er X0 j) (j + 1) ≤ nS E n S X0 j := cn_mono (fun i _ h => by
        rw [Bool.and_eq_true, nb_iff] at h
        obtain ⟨q0, a, q1, q2, q3⟩ := h
        rw [Bool.and_eq_true, nb_iff]
        by_cases ea : a = j
        · subst ea; rw [er_s] at q2; cases q2
        · rw [er_n ea] at q2
          exact ⟨q0, a, by omega, q2, q3⟩)
      omega
    · have hN : ∀ c, c < n → S c = true → E j c = true → ∃ Y, j + nS E n S Y j ≤ Mt E n j S + cn Y j ∧ nb E Y c j = true := fun c h1 h2 h3 => by
        have lt : Mt E n j (er S c) < Mt E n j S := Nat.lt_of_not_le (fun h => hA ⟨c, h1, h2, h3, h⟩)
        obtain ⟨Y, hY⟩ := m_strong (E := E) (n := n) j (er S c)
        have w := m_weak (E := E) (n := n) j S Y
        cases hb : nb E Y c j with
        | false => rw [nS_er0 hb] at hY; omega
        | true =>
          have q := nS_er1 (E := E) (X := Y) (j := j) h1 h2 hb
          exact ⟨Y, by omega, hb⟩
      have hU : ∀ m, m ≤ n → ∃ X, j + nS E n S X j ≤ Mt E n j S + cn X j ∧ ∀ c, c < m → S c = true → E j c = true → nb E X c j = true := by
        intro m
        induction m with
        | zero => exact fun _ => ⟨X0, hX0, fun c hc => absurd hc (by omega)⟩
        | succ m ih =>
          intro hm
          obtain ⟨X, hX, hc⟩ := ih (by omega)
          by_cases q : S m = true ∧ E j m = true
          · obtain ⟨Y, hY, hm2⟩ := hN m (by omega) q.1 q.2
            refine ⟨fun i => X i || Y i, ?_, fun c h1 h2 h3 => ?_⟩
            · have s := nS_sub (E := E) (n := n) (S := S) (X := X) (Y := Y) (j := j)
              have u := cn_un X Y j
              have w := m_weak (E := E) (n := n) j S (fun i => X i && Y i)
              omega
            · rw [nb_iff]
              by_cases e : c = m
              · subst e
                obtain ⟨a, k1, k2, k3⟩ := nb_iff.mp hm2
                exact ⟨a, k1, by rw [k2, Bool.or_true], k3⟩
              · obtain ⟨a, k1, k2, k3⟩ := nb_iff.mp (hc c (by omega) h2 h3)
                exact ⟨a, k1, by rw [k2, Bool.true_or], k3⟩
          · refine ⟨X, hX, fun c h1 h2 h3 => ?_⟩
            by_cases e : c = m
            · subst e; exact absurd ⟨h2, h3⟩ q
            · exact hc c (by omega) h2 h3
      obtain ⟨X, hX, hc⟩ := hU n (Nat.le_refl n)
      have hge : Mt E n j S ≤ Mt E n (j + 1) S := stM_ge n
      refine ⟨fun i => X i || decide (i = j), ?_⟩
      have e1 : cn (fun i => X i || decide (i = j)) (j + 1) = cn X j + 1 := by
        show cn (fun i => X i || decide (i = j)) j + bn (X j || decide (j = j)) = _
        rw [decide_eq_true rfl, Bool.or_true, cn_cg (Y := X) (fun i hi => by rw [decide_eq_false (by omega), Bool.or_false])]
        rfl
      have e2 : nS E n S (fun i => X i || decide (i = j)) (j + 1) ≤ nS E n S X j := cn_mono (fun i hi h => by
        rw [Bool.and_eq_true, nb_iff] at h
        obtain ⟨q0, a, q1, q2, q3⟩ := h
        rw [Bool.and_eq_true]
        refine ⟨q0, ?_⟩
        by_cases ea : a = j
        · subst ea; exact hc i hi q0 q3
        · rw [decide_eq_false ea, Bool.or_false] at q2
          rw [nb_iff]
          exact ⟨a, by omega, q2, q3⟩)
      omega

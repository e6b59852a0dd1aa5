/-! masks, ranks, and what the class sees of them -/
theorem hasB_tb (s p : Nat) : hasB s p = s.testBit p := by
  rw [Nat.testBit_eq_decide_div_mod_eq]
  rfl
def mk (t : Nat → Bool) : Nat → Nat
  | 0 => 0
  | n + 1 => mk t n + bn (t n) * 2 ^ n
theorem mk_lt (t : Nat → Bool) : ∀ n, mk t n < 2 ^ n
  | 0 => Nat.lt_succ_self 0
  | n + 1 => by
    have h := mk_lt t n
    have e : mk t (n + 1) = mk t n + bn (t n) * 2 ^ n := rfl
    rw [e, Nat.pow_succ]
    cases t n with
    | false => show mk t n + 0 * 2 ^ n < _; omega
    | true => show mk t n + 1 * 2 ^ n < _; omega
theorem hasB_lt {s i : Nat} (h : s < 2 ^ i) : hasB s i = false := by
  rw [hasB_tb]
  exact Nat.testBit_lt_two_pow h
theorem hasB_ge {s m i : Nat} (h : s < 2 ^ m) (hi : m ≤ i) : hasB s i = false := hasB_lt (Nat.lt_of_lt_of_le h (Nat.pow_le_pow_right (by decide) hi))
theorem hasB_up {s n i : Nat} (h : s < 2 ^ n) : hasB (s + 2 ^ n) i = (hasB s i || decide (i = n)) := by
  rw [hasB_tb, hasB_tb, Nat.add_comm, show 2 ^ n + s = 2 ^ n * 1 + s by omega, Nat.testBit_two_pow_mul_add _ h]
  by_cases hi : i < n
  · rw [if_pos hi, decide_eq_false (show ¬ i = n by omega), Bool.or_false]
  · rw [if_neg hi, Nat.testBit_lt_two_pow (Nat.lt_of_lt_of_le h (Nat.pow_le_pow_right (by decide) (by omega))), Bool.false_or]
    by_cases e : i = n
    · subst e; rw [Nat.sub_self, decide_eq_true rfl]; rfl
    · rw [decide_eq_false e]
      exact Nat.testBit_lt_two_pow (Nat.lt_of_lt_of_le (show 1 < 2 ^ 1 by decide) (Nat.pow_le_pow_right (by decide) (by omega)))
theorem mk_bit (t : Nat → Bool) : ∀ {n i : Nat}, hasB (mk t n) i = (decide (i < n) && t i)
  | 0, i => by
    rw [decide_eq_false (by omega), Bool.false_and]
    exact hasB_lt (Nat.two_pow_pos i)
  | n + 1, i => by
    have ih := mk_bit t (n := n) (i := i)
    have e : mk t (n + 1) = mk t n + bn (t n) * 2 ^ n := rfl
    rw [e]
    cases ht : t n with
    | false =>
      rw [show mk t n + bn false * 2 ^ n = mk t n by show mk t n + 0 * 2 ^ n = _; omega, ih]
      by_cases q : i = n
      · subst q; rw [ht, Bool.and_false, Bool.and_false]
      · by_cases h : i < n
        · rw [decide_eq_true h, decide_eq_true (by omega)]
        · rw [decide_eq_false h, decide_eq_false (by omega)]
    | true =>
      rw [show mk t n + bn true * 2 ^ n = mk t n + 2 ^ n by show mk t n + 1 * 2 ^ n = _; omega, hasB_up (mk_lt t n), ih]
      by_cases q : i = n
      · subst q; rw [ht, decide_eq_true rfl, Bool.or_true, decide_eq_true (by omega)]; rfl
      · rw [decide_eq_false q, Bool.or_false]
        by_cases h : i < n
        · rw [decide_eq_true h, decide_eq_true (by omega)]
        · rw [decide_eq_false h, decide_eq_false (by omega)]
theorem hasB_ext {a b : Nat} (h : ∀ i, hasB a i = hasB b i) : a = b := Nat.eq_of_testBit_eq (fun i => by rw [← hasB_tb, ← hasB_tb]; exact h i)
theorem mk_has {s n : Nat} (h : s < 2 ^ n) : mk (hasB s) n = s := hasB_ext (fun i => by
  rw [mk_bit]
  by_cases q : i < n
  · rw [decide_eq_true q, Bool.true_and]
  · rw [decide_eq_false q, Bool.false_and, hasB_ge h (by omega)])
theorem mk_cg {t u : Nat → Bool} : ∀ {n : Nat}, (∀ i, i < n → t i = u i) → mk t n = mk u n
  | 0, _ => rfl
  | n + 1, h => by
    show mk t n + bn (t n) * 2 ^ n = mk u n + bn (u n) * 2 ^ n
    rw [mk_cg (fun i hi => h i (by omega)), h n (by omega)]
theorem mk_or (t u : Nat → Bool) (n : Nat) : mk t n ||| mk u n = mk (fun i => t i || u i) n := hasB_ext (fun i => by
  rw [hasB_tb, Nat.testBit_or, ← hasB_tb, ← hasB_tb, mk_bit, mk_bit, mk_bit, Bool.and_or_distrib_left])
theorem pop_cn : ∀ s, s < 256 → popc s = cn (hasB s) 8 := by decide +kernel
theorem cn_out {X : Nat → Bool} {m : Nat} (h : ∀ i, m ≤ i → X i = false) : ∀ d, cn X (m + d) = cn X m
  | 0 => rfl
  | d + 1 => by
    show cn X (m + d) + bn (X (m + d)) = cn X m
    rw [cn_out h d, h (m + d) (by omega)]
    rfl
theorem pop_m {s m : Nat} (hm : m ≤ 8) (h : s < 2 ^ m) : popc s = cn (hasB s) m := by
  have h8 : s < 256 := Nat.lt_of_lt_of_le h (Nat.pow_le_pow_right (by decide) hm)
  rw [pop_cn s h8, show 8 = m + (8 - m) by omega, cn_out (fun i hi => hasB_ge h hi)]
theorem pop_mk {t : Nat → Bool} {m : Nat} (hm : m ≤ 8) : popc (mk t m) = cn t m := by
  rw [pop_m hm (mk_lt t m)]
  exact cn_cg (fun i hi => by rw [mk_bit, decide_eq_true hi, Bool.true_and])
theorem er_has : ∀ s, s < 256 → ∀ j, j < 8 → hasB s j = true → 2 ^ j ≤ s ∧ popc (s - 2 ^ j) + 1 = popc s ∧ nI s &&& ((1 <<< (nI j &&& 31)) ^^^ (-1)) = nI (s - 2 ^ j) := by decide +kernel
theorem hasB_dn {s j : Nat} (h : s < 256) (hj : j < 8) (hb : hasB s j = true) : hasB (s - 2 ^ j) = er (hasB s) j := by
  have key : ∀ s, s < 256 → ∀ j, j < 8 → hasB s j = true → ∀ i, i < 8 → hasB (s - 2 ^ j) i = (hasB s i && !decide (i = j)) := by decide +kernel
  funext i
  by_cases hi : i < 8
  · exact key s h j hj hb i hi
  · have a : hasB s i = false := hasB_ge (m := 8) h (by omega)
    have b : hasB (s - 2 ^ j) i = false := hasB_ge (m := 8) (Nat.lt_of_le_of_lt (Nat.sub_le _ _) h) (by omega)
    unfold er
    rw [a, b, Bool.false_and]
theorem or_bit : ∀ n, n < 8 → ∀ s, s < 2 ^ n → nI s ||| (1 <<< (nI n &&& 31)) = nI (s + 2 ^ n) := by decide +kernel
theorem or_new : ∀ s, s < 256 → ∀ j, j < 8 → hasB s j = false → nI s ||| (1 <<< (nI j &&& 31)) = nI (s + 2 ^ j) ∧ hasB (s + 2 ^ j) j = true ∧ popc (s + 2 ^ j) = popc s + 1 := by decide +kernel
/-- the i-th that is -/
def el (T : Nat → Bool) : Nat → Nat → Nat
  | 0 => fun _ => 0
  | n + 1 => fun i => if (T n && decide (i = cn T n)) = true then n else el T n i
theorem el_st {T : Nat → Bool} {n i : Nat} (h : i < cn T n) : el T (n + 1) i = el T n i := by
  show (if (T n && decide (i = cn T n)) = true then n else el T n i) = _
  rw [decide_eq_false (show ¬ i = cn T n by omega), Bool.and_false, if_neg (by decide)]
theorem el_nw {T : Nat → Bool} {n : Nat} (h : T n = true) : el T (n + 1) (cn T n) = n := by
  show (if (T n && decide (cn T n = cn T n)) = true then n else el T n (cn T n)) = _
  rw [h, decide_eq_true rfl, if_pos (show (true && true) = true from rfl)]
theorem el_no {T : Nat → Bool} {n i : Nat} (h : T n = false) : el T (n + 1) i = el T n i := by
  show (if (T n && decide (i = cn T n)) = true then n else el T n i) = _
  rw [h, Bool.false_and, if_neg (by decide)]
theorem cn_t {T : Nat → Bool} {n : Nat} (h : T n = true) : cn T (n + 1) = cn T n + 1 := by
  show cn T n + bn (T n) = _
  rw [h]
  rfl
theorem cn_f {T : Nat → Bool} {n : Nat} (h : T n = false) : cn T (n + 1) = cn T n := by
  show cn T n + bn (T n) = _
  rw [h]
  rfl
theorem cn_up {T : Nat → Bool} {a n : Nat} (h : a ≤ n) : cn T a ≤ cn T n := by
  obtain ⟨d, rfl⟩ : ∃ d, n = a + d := ⟨n - a, by omega⟩
  induction d with
  | zero => exact Nat.le_refl _
  | succ d ih => have := ih (by omega); show _ ≤ cn T (a + d) + bn (T (a + d)); omega
theorem cn_at {T : Nat → Bool} {a n : Nat} (h : a < n) (hT : T a = true) : cn T a < cn T n := by
  have := cn_up (T := T) (show a + 1 ≤ n by omega)
  rw [cn_t hT] at this
  omega
theorem el_rk {T : Nat → Bool} {b : Nat} (hT : T b = true) : ∀ {n : Nat}, b < n → el T n (cn T b) = b
  | 0, h => absurd h (by omega)
  | n + 1, h => by
    by_cases e : b = n
    · subst e; exact el_nw hT
    · rw [el_st (cn_at (by omega) hT)]
      exact el_rk hT (by omega)
theorem el_in {T : Nat → Bool} : ∀ {n i : Nat}, i < cn T n → el T n i < n ∧ T (el T n i) = true ∧ cn T (el T n i) = i
  | 0, i, h => absurd h (by show ¬ i < 0; omega)
  | n + 1, i, h => by
    by_cases q : i < cn T n
    · rw [el_st q]
      have := el_in (n := n) q
      exact ⟨by omega, this.2⟩
    · cases hT : T n with
      | false => rw [cn_f hT] at h; omega
      | true =>
        rw [cn_t hT] at h
        have e : i = cn T n := by omega
        subst e
        rw [el_nw hT]
        exact ⟨by omega, hT, rfl⟩
theorem cn_tr {T p : Nat → Bool} : ∀ n, cn (fun b => T b && p b) n = cn (fun i => p (el T n i)) (cn T n)
  | 0 => rfl
  | n + 1 => by
    have ih := cn_tr (T := T) (p := p) n
    show cn (fun b => T b && p b) n + bn (T n && p n) = _
    cases hT : T n with
    | false =>
      rw [cn_f hT, ih, Bool.false_and]
      exact cn_cg (fun i hi => by rw [el_st hi])
    | true =>
      rw [cn_t hT, ih, Bool.true_and]
      show _ = cn (fun i => p (el T (n + 1) i)) (cn T n) + bn (p (el T (n + 1) (cn T n)))
      rw [el_nw hT, cn_cg (X := fun i => p (el T (n + 1) i)) (Y := fun i => p (el T n i)) (fun i hi => by rw [el_st hi])]
def sz (F : Nat → Int32) : Nat → Int32
  | 0 => 0
  | n + 1 => sz F n + F n
theorem sz_cg {F G : Nat → Int32} : ∀ {n : Nat}, (∀ i, i < n → F i = G i) → sz F n = sz G n
  | 0, _ => rfl
  | n + 1, h => by
    show sz F n + F n = sz G n + G n
    rw [sz_cg (fun i hi => h i (by omega)), h n (by omega)]
theorem sz_0 {F : Nat → Int32} : ∀ {n : Nat}, (∀ i, i < n → F i = 0) → sz F n = 0
  | 0, _ => rfl
  | n + 1, h => by
    show sz F n + F n = 0
    rw [sz_0 (fun i hi => h i (by omega)), h n (by omega)]
    rfl
theorem sz_one {F G : Nat → Int32} {l : Nat} {x : Int32} (hF : F l = 0) (hG : G l = x) (h : ∀ i, i ≠ l → G i = F i) : ∀ {n : Nat}, l < n → sz G n = sz F n + x
  | 0, q => absurd q (by omega)
  | n + 1, q => by
    show sz G n + G n = sz F n + F n + x
    by_cases e : l = n
    · subst e
      rw [hF, hG, Int32.add_zero, sz_cg (F := G) (G := F) (fun i hi => h i (by omega))]
    · rw [sz_one hF hG h (n := n) (by omega), h n (by omega), Int32.add_assoc, Int32.add_assoc, Int32.add_comm x]
theorem sz_tr {T : Nat → Bool} {F : Nat → Int32} : ∀ n, sz (fun b => if T b = true then F b else 0) n = sz (fun i => F (el T n i)) (cn T n)
  | 0 => rfl
  | n + 1 => by
    have ih := sz_tr (T := T) (F := F) n
    show sz (fun b => if T b = true then F b else 0) n + (if T n = true then F n else 0) = _
    cases hT : T n with
    | false =>
      rw [cn_f hT, ih, if_neg (by decide), Int32.add_zero]
      exact sz_cg (fun i hi => by rw [el_st hi])
    | true =>
      rw [cn_t hT, ih, if_pos rfl]
      show _ = sz (fun i => F (el T (n + 1) i)) (cn T n) + F (el T (n + 1) (cn T n))
      rw [el_nw hT, sz_cg (F := fun i => F (el T (n + 1) i)) (G := fun i => F (el T n i)) (fun i hi => by rw [el_st hi])]

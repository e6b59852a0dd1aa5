/-! rows: lists of strips, each once, hat to hat -/
def hd1 (E : Nat → Nat → Bool) (c : Nat) : List Nat → Bool
  | [] => true
  | d :: _ => E c d
def Vr (E : Nat → Nat → Bool) : (Nat → Bool) → List Nat → Bool
  | _, [] => true
  | S, c :: l => S c && (Vr E (er S c) l && hd1 E c l)
def lc (E : Nat → Nat → Bool) (c : Nat) : List Nat → Bool
  | [] => true
  | [a] => E a c
  | _ :: b :: l => lc E c (b :: l)
def rs : (Nat → Bool) → List Nat → (Nat → Bool)
  | S, [] => S
  | S, c :: l => rs (er S c) l
theorem dec_comm (a b : Nat) : decide (a = b) = decide (b = a) := by
  by_cases h : a = b
  · rw [decide_eq_true h, decide_eq_true h.symm]
  · rw [decide_eq_false h, decide_eq_false (fun e => h e.symm)]
theorem er_comm (S : Nat → Bool) (a c : Nat) : er (er S a) c = er (er S c) a := by
  funext i
  show (S i && !decide (i = a) && !decide (i = c)) = (S i && !decide (i = c) && !decide (i = a))
  cases S i <;> cases decide (i = a) <;> cases decide (i = c) <;> rfl
theorem er_pair (S : Nat → Bool) (a c : Nat) : (S a && er S a c) = (S c && er S c a) := by
  show (S a && (S c && !decide (c = a))) = (S c && (S a && !decide (a = c)))
  rw [dec_comm a c]
  cases S a <;> cases S c <;> cases decide (c = a) <;> rfl
theorem lc_last {E : Nat → Nat → Bool} {c d : Nat} : ∀ {l : List Nat}, lc E c (l ++ [d]) = E d c
  | [] => rfl
  | [a] => rfl
  | _ :: b :: l => lc_last (l := b :: l)
theorem Vr_sn1 {E : Nat → Nat → Bool} {c : Nat} : ∀ {l : List Nat} {S : Nat → Bool}, Vr E S (l ++ [c]) = (S c && (Vr E (er S c) l && lc E c l))
  | [], _ => rfl
  | a :: l, S => by
    have ih := Vr_sn1 (E := E) (c := c) (l := l) (S := er S a)
    show (S a && (Vr E (er S a) (l ++ [c]) && hd1 E a (l ++ [c]))) = (S c && ((er S c a && (Vr E (er (er S c) a) l && hd1 E a l)) && lc E c (a :: l)))
    have p := er_pair S a c
    rw [ih, er_comm S a c]
    cases l with
    | nil =>
      show (S a && ((er S a c && (true && true)) && E a c)) = (S c && ((er S c a && (true && true)) && E a c))
      rw [Bool.and_true, Bool.and_true, Bool.and_true, ← Bool.and_assoc, ← Bool.and_assoc, p]
    | cons b t =>
      show (S a && ((er S a c && (Vr E (er (er S c) a) (b :: t) && lc E c (b :: t))) && E a b)) = (S c && ((er S c a && (Vr E (er (er S c) a) (b :: t) && E a b)) && lc E c (b :: t)))
      generalize Vr E (er (er S c) a) (b :: t) = x
      generalize lc E c (b :: t) = y
      generalize E a b = z
      revert p
      cases S a <;> cases er S a c <;> cases S c <;> cases er S c a <;> cases x <;> cases y <;> cases z <;> decide
theorem Vr_sn2 {E : Nat → Nat → Bool} {c : Nat} : ∀ {l : List Nat} {S : Nat → Bool}, Vr E S (l ++ [c]) = (Vr E S l && (rs S l c && lc E c l))
  | [], S => by
    show (S c && (true && true)) = (true && (S c && true))
    cases S c <;> rfl
  | a :: l, S => by
    have ih := Vr_sn2 (E := E) (c := c) (l := l) (S := er S a)
    show (S a && (Vr E (er S a) (l ++ [c]) && hd1 E a (l ++ [c]))) = ((S a && (Vr E (er S a) l && hd1 E a l)) && (rs (er S a) l c && lc E c (a :: l)))
    rw [ih]
    cases l with
    | nil =>
      show (S a && ((true && (er S a c && true)) && E a c)) = ((S a && (true && true)) && (er S a c && E a c))
      cases S a <;> cases er S a c <;> cases E a c <;> rfl
    | cons b t =>
      show (S a && ((Vr E (er S a) (b :: t) && (rs (er S a) (b :: t) c && lc E c (b :: t))) && E a b)) = ((S a && (Vr E (er S a) (b :: t) && E a b)) && (rs (er S a) (b :: t) c && lc E c (b :: t)))
      cases S a <;> cases Vr E (er S a) (b :: t) <;> cases E a b <;> cases rs (er S a) (b :: t) c <;> cases lc E c (b :: t) <;> rfl
theorem Vr_mem {E : Nat → Nat → Bool} {x : Nat} : ∀ {l : List Nat} {S : Nat → Bool}, Vr E S l = true → x ∈ l → S x = true
  | [], _, _, h => absurd h (by simp)
  | a :: l, S, hV, h => by
    have hV' : (S a && (Vr E (er S a) l && hd1 E a l)) = true := hV
    rw [Bool.and_eq_true, Bool.and_eq_true] at hV'
    rcases List.mem_cons.mp h with e | e
    · rw [e]; exact hV'.1
    · exact er_le (Vr_mem hV'.2.1 e)
theorem Vr_pre {E : Nat → Nat → Bool} {m : List Nat} : ∀ {l : List Nat} {S : Nat → Bool}, Vr E S (l ++ m) = true → Vr E S l = true
  | [], _, _ => rfl
  | a :: l, S, hV => by
    have hV' : (S a && (Vr E (er S a) (l ++ m) && hd1 E a (l ++ m))) = true := hV
    rw [Bool.and_eq_true, Bool.and_eq_true] at hV'
    show (S a && (Vr E (er S a) l && hd1 E a l)) = true
    rw [Bool.and_eq_true, Bool.and_eq_true]
    refine ⟨hV'.1, Vr_pre hV'.2.1, ?_⟩
    cases l with
    | nil => rfl
    | cons b t => exact hV'.2.2
theorem Vr_suf {E : Nat → Nat → Bool} {m : List Nat} : ∀ {l : List Nat} {S : Nat → Bool}, Vr E S (l ++ m) = true → Vr E (rs S l) m = true
  | [], _, h => h
  | a :: l, S, hV => by
    have hV' : (S a && (Vr E (er S a) (l ++ m) && hd1 E a (l ++ m))) = true := hV
    rw [Bool.and_eq_true, Bool.and_eq_true] at hV'
    exact Vr_suf (l := l) (S := er S a) hV'.2.1
theorem Vr_in {E : Nat → Nat → Bool} : ∀ {l : List Nat} {S S2 : Nat → Bool}, Vr E S l = true → (∀ x, x ∈ l → S2 x = true) → Vr E S2 l = true
  | [], _, _, _, _ => rfl
  | a :: l, S, S2, hV, h => by
    have hV' : (S a && (Vr E (er S a) l && hd1 E a l)) = true := hV
    rw [Bool.and_eq_true, Bool.and_eq_true] at hV'
    show (S2 a && (Vr E (er S2 a) l && hd1 E a l)) = true
    rw [Bool.and_eq_true, Bool.and_eq_true]
    refine ⟨h a (by simp), Vr_in hV'.2.1 (fun x hx => ?_), hV'.2.2⟩
    have q := Vr_mem hV'.2.1 hx
    have ne : x ≠ a := fun e => by rw [e, er_s] at q; cases q
    rw [er_n ne]
    exact h x (by simp [hx])
/-- two rows that share one strip -/
theorem Vr_join {E : Nat → Nat → Bool} {c : Nat} {m : List Nat} : ∀ {l : List Nat} {S S2 F : Nat → Bool}, Vr E S (l ++ [c]) = true → Vr E S2 (c :: m) = true → (∀ x, S x = true → S2 x = true → x = c) → (∀ x, S x = true → F x = true) → (∀ x, S2 x = true → F x = true) → Vr E F (l ++ c :: m) = true
  | [], S, S2, F, _, h2, _, _, h5 => Vr_in h2 (fun x hx => h5 x (Vr_mem h2 hx))
  | a :: l, S, S2, F, h1, h2, h3, h4, h5 => by
    have hV' : (S a && (Vr E (er S a) (l ++ [c]) && hd1 E a (l ++ [c]))) = true := h1
    rw [Bool.and_eq_true, Bool.and_eq_true] at hV'
    have hc : er S a c = true := Vr_mem hV'.2.1 (by simp)
    have ne : c ≠ a := fun e => by rw [e, er_s] at hc; cases hc
    have ih := Vr_join (l := l) (S := er S a) (S2 := S2) (F := er F a) hV'.2.1 h2 (fun x q1 q2 => h3 x (er_le q1) q2) (fun x q => by
      have nx : x ≠ a := fun e => by rw [e, er_s] at q; cases q
      rw [er_n nx]
      exact h4 x (er_le q)) (fun x q => by
      have nx : x ≠ a := fun e => ne (by rw [e] at q; exact (h3 a hV'.1 q).symm)
      rw [er_n nx]
      exact h5 x q)
    show (F a && (Vr E (er F a) (l ++ c :: m) && hd1 E a (l ++ c :: m))) = true
    rw [Bool.and_eq_true, Bool.and_eq_true]
    refine ⟨h4 a hV'.1, ih, ?_⟩
    cases l with
    | nil => exact hV'.2.2
    | cons b t => exact hV'.2.2
theorem rs_nin {x : Nat} : ∀ {l : List Nat} {S : Nat → Bool}, rs S l x = (S x && l.all (fun y => !decide (x = y)))
  | [], S => by show S x = (S x && true); rw [Bool.and_true]
  | a :: l, S => by
    show rs (er S a) l x = (S x && (!decide (x = a) && l.all (fun y => !decide (x = y))))
    rw [rs_nin (l := l) (S := er S a)]
    show (S x && !decide (x = a) && _) = _
    rw [Bool.and_assoc]
theorem rs_cn {E : Nat → Nat → Bool} {n : Nat} : ∀ {l : List Nat} {S : Nat → Bool}, Vr E S l = true → (∀ x, S x = true → x < n) → cn (rs S l) n + l.length = cn S n
  | [], _, _, _ => rfl
  | a :: l, S, hV, hS => by
    have hV' : (S a && (Vr E (er S a) l && hd1 E a l)) = true := hV
    rw [Bool.and_eq_true, Bool.and_eq_true] at hV'
    have ih := rs_cn (n := n) hV'.2.1 (fun x hx => hS x (er_le hx))
    have e := cn_er hV'.1 (hS a hV'.1)
    show cn (rs (er S a) l) n + (l.length + 1) = cn S n
    omega
theorem rs_app {m : List Nat} : ∀ {l : List Nat} {S : Nat → Bool}, rs S (l ++ m) = rs (rs S l) m
  | [], _ => rfl
  | _ :: l, _ => rs_app (l := l)
/-! sums over lists -/
def sL_ (n : Nat) : Nat → (List Nat → Nat) → Nat
  | 0, f => f []
  | r + 1, f => fb_sm (fun x => sL_ n r (fun xs => f (x :: xs))) n
theorem sL_cg {n : Nat} : ∀ {r : Nat} {f g : List Nat → Nat}, (∀ xs, xs.length = r → f xs = g xs) → sL_ n r f = sL_ n r g
  | 0, _, _, h => h [] rfl
  | r + 1, f, g, h => fb_sm_cong (fun x _ => sL_cg (fun xs hx => h (x :: xs) (by rw [List.length_cons, hx])))
theorem sm_swap (g : Nat → Nat → Nat) (n : Nat) : ∀ m, fb_sm (fun x => fb_sm (fun y => g x y) n) m = fb_sm (fun y => fb_sm (fun x => g x y) m) n
  | 0 => by
    show 0 = fb_sm (fun _ => 0) n
    rw [fb_sm_const, Nat.mul_zero]
  | m + 1 => by
    rw [fb_sm_succ, sm_swap g n m, ← fb_sm_add]
    rfl
theorem sL_sn {n : Nat} : ∀ {r : Nat} {f : List Nat → Nat}, sL_ n (r + 1) f = fb_sm (fun x => sL_ n r (fun xs => f (xs ++ [x]))) n
  | 0, _ => rfl
  | r + 1, f => by
    have a : sL_ n (r + 1 + 1) f = fb_sm (fun x => fb_sm (fun y => sL_ n r (fun xs => f (x :: (xs ++ [y])))) n) n := fb_sm_cong (fun x _ => sL_sn (r := r) (f := fun xs => f (x :: xs)))
    rw [a, sm_swap]
    rfl
theorem sL_0 {n : Nat} : ∀ {r : Nat} {f : List Nat → Nat}, (∀ xs, xs.length = r → f xs = 0) → sL_ n r f = 0
  | 0, _, h => h [] rfl
  | r + 1, f, h => by
    show fb_sm (fun x => sL_ n r (fun xs => f (x :: xs))) n = 0
    rw [fb_sm_cong (g := fun _ => 0) (fun x _ => sL_0 (fun xs hx => h (x :: xs) (by rw [List.length_cons, hx]))), fb_sm_const, Nat.mul_zero]
theorem sL_le {n : Nat} : ∀ {r : Nat} {f : List Nat → Nat}, (∀ xs, f xs ≤ 1) → sL_ n r f ≤ n ^ r
  | 0, _, h => h []
  | r + 1, f, h => by
    have q : fb_sm (fun x => sL_ n r (fun xs => f (x :: xs))) n ≤ n * n ^ r := fb_sm_bound (fun x _ => sL_le (fun xs => h (x :: xs)))
    rw [Nat.pow_succ, Nat.mul_comm]
    exact q
theorem sm_pos {g : Nat → Nat} : ∀ {n : Nat}, 0 < fb_sm g n ↔ ∃ x, x < n ∧ 0 < g x
  | 0 => ⟨fun h => absurd h (by show ¬ 0 < 0; omega), fun ⟨x, hx, _⟩ => absurd hx (by omega)⟩
  | n + 1 => by
    have ih := sm_pos (g := g) (n := n)
    rw [fb_sm_succ]
    constructor
    · intro h
      by_cases q : 0 < g n
      · exact ⟨n, by omega, q⟩
      · obtain ⟨x, h1, h2⟩ := ih.mp (by omega)
        exact ⟨x, by omega, h2⟩
    · rintro ⟨x, h1, h2⟩
      by_cases q : x = n
      · subst q; omega
      · have := ih.mpr ⟨x, by omega, h2⟩
        omega
theorem sL_pos {n : Nat} : ∀ {r : Nat} {f : List Nat → Nat}, 0 < sL_ n r f ↔ ∃ xs : List Nat, xs.length = r ∧ (∀ x, x ∈ xs → x < n) ∧ 0 < f xs
  | 0, f => ⟨fun h => ⟨[], rfl, (fun x hx => by cases hx), h⟩, fun ⟨xs, h1, _, h3⟩ => by
    have : xs = [] := List.eq_nil_of_length_eq_zero h1
    subst this
    exact h3⟩
  | r + 1, f => by
    show 0 < fb_sm (fun x => sL_ n r (fun xs => f (x :: xs))) n ↔ _
    rw [sm_pos]
    constructor
    · rintro ⟨x, h1, h2⟩
      obtain ⟨xs, q1, q2, q3⟩ := sL_pos.mp h2
      exact ⟨x :: xs, by rw [List.length_cons, q1], fun y hy => by
        rcases List.mem_cons.mp hy with e | e
        · rw [e]; exact h1
        · exact q2 y e, q3⟩
    · rintro ⟨xs, h1, h2, h3⟩
      cases xs with
      | nil => cases h1
      | cons x xs => exact ⟨x, h2 x (by simp), sL_pos.mpr ⟨xs, by rw [List.length_cons] at h1; omega, fun y hy => h2 y (by simp [hy]), h3⟩⟩
/-! rows of a set that begin, or end, with one -/
def bs (E : Nat → Nat → Bool) (n r : Nat) (S : Nat → Bool) (c : Nat) : Nat := sL_ n r (fun xs => bn (Vr E S (c :: xs)))
def es (E : Nat → Nat → Bool) (n r : Nat) (S : Nat → Bool) (c : Nat) : Nat := sL_ n r (fun xs => bn (Vr E S (xs ++ [c])))
theorem bs_0 {E : Nat → Nat → Bool} {n : Nat} {S : Nat → Bool} {c : Nat} (h : S c = true) : bs E n 0 S c = 1 := by
  show bn (S c && (true && true)) = 1
  rw [h]
  rfl
theorem es_0 {E : Nat → Nat → Bool} {n : Nat} {S : Nat → Bool} {c : Nat} (h : S c = true) : es E n 0 S c = 1 := by
  show bn (S c && (true && true)) = 1
  rw [h]
  rfl
theorem bs_s {E : Nat → Nat → Bool} {n r : Nat} {S : Nat → Bool} {c : Nat} (h : S c = true) : bs E n (r + 1) S c = fb_sm (fun d => if (er S c d && E c d) = true then bs E n r (er S c) d else 0) n := by
  refine fb_sm_cong (fun d _ => ?_)
  by_cases q : (er S c d && E c d) = true
  · rw [if_pos q]
    rw [Bool.and_eq_true] at q
    refine sL_cg (fun xs _ => ?_)
    show bn (S c && (Vr E (er S c) (d :: xs) && E c d)) = _
    rw [h, q.2, Bool.true_and, Bool.and_true]
  · rw [if_neg q]
    refine sL_0 (fun xs _ => ?_)
    show bn (S c && ((er S c d && (Vr E (er (er S c) d) xs && hd1 E d xs)) && E c d)) = 0
    revert q
    cases er S c d <;> cases E c d <;> cases S c <;> cases Vr E (er (er S c) d) xs <;> cases hd1 E d xs <;> decide
theorem es_s {E : Nat → Nat → Bool} {n r : Nat} {S : Nat → Bool} {c : Nat} (h : S c = true) : es E n (r + 1) S c = fb_sm (fun d => if (er S c d && E d c) = true then es E n r (er S c) d else 0) n := by
  unfold es
  rw [sL_sn]
  refine fb_sm_cong (fun d _ => ?_)
  by_cases q : (er S c d && E d c) = true
  · rw [if_pos q]
    rw [Bool.and_eq_true] at q
    refine sL_cg (fun xs _ => ?_)
    rw [Vr_sn1, lc_last, h, q.2, Bool.true_and, Bool.and_true]
  · rw [if_neg q]
    refine sL_0 (fun xs _ => ?_)
    rw [Vr_sn1, lc_last, Vr_sn1]
    revert q
    cases er S c d <;> cases E d c <;> cases S c <;> cases Vr E (er (er S c) d) xs <;> cases lc E d xs <;> decide

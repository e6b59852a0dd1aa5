/-! rows: how many, and where -/
def Fn (n : Nat) : Nat → Bool := fun i => decide (i < n)
theorem Fn_i {n i : Nat} : Fn n i = true ↔ i < n := decide_eq_true_iff
theorem Fn_cn : ∀ (n m : Nat), m ≤ n → cn (Fn n) m = m
  | _, 0, _ => rfl
  | n, m + 1, h => by
    show cn (Fn n) m + bn (decide (m < n)) = m + 1
    rw [Fn_cn n m (by omega), decide_eq_true (by omega)]
    rfl
theorem has_all {n : Nat} (hn : n ≤ 8) : hasB (2 ^ n - 1) = Fn n := by
  have key : ∀ n, n < 9 → ∀ i, i < 8 → hasB (2 ^ n - 1) i = decide (i < n) := by decide +kernel
  funext i
  by_cases hi : i < 8
  · exact key n (by omega) i hi
  · have pos := Nat.two_pow_pos n
    rw [hasB_ge (show 2 ^ n - 1 < 2 ^ n by omega) (by omega)]
    show false = decide (i < n)
    rw [decide_eq_false (by omega)]
def tot (E : Nat → Nat → Bool) (n : Nat) : Nat := sL_ n n (fun xs => bn (Vr E (Fn n) xs))
theorem x_howM {μ0 μ : Mu} {f : Nat → Int32} (hz : szF f ≤ 6) (hp : P4 μ0) (hg : GD μ0 μ f) : m_X3_howMany SH 357 μ = some (nI (tot (fE f) (szF f)), μ) := by
  obtain ⟨sh1, sh2, sh3⟩ := sh_m (szF f) (by omega)
  have p3 : gR μ 357 3 = 360 := by rw [hg.1.1.2]; exact hp.2.2.1
  have pos := Nat.two_pow_pos (szF f)
  have s64 : 2 ^ szF f ≤ 64 := Nat.pow_le_pow_right (n := 2) (j := 6) (by decide) hz
  by_cases h0 : szF f = 0
  · have z : (nI (szF f) = 0) = True := eq_true (by rw [h0]; rfl)
    have t : tot (fE f) (szF f) = 1 := by rw [h0]; rfl
    rw [t]
    simp only [bd_n, gd_n, ca2_n, ca_n, nbtF, pbfT, Bool.not_true, Bool.not_false, if_true, if_false, m_X3_howMany, iz3, hg.1.2, sh2, z]
    rfl
  · have z : (nI (szF f) = 0) = False := eq_false (nI_ne0 (by omega) (by omega))
    have sm := x_sum (l := 2 ^ szF f - 1) (Or.inl rfl) hg.1.2 hz (show 2 ^ szF f - 1 < 64 by omega) (by omega) (hg.2.1 (2 ^ szF f - 1) (by omega))
    have e : fb_sm (fun j => if (hasB (2 ^ szF f - 1) j && hasB (2 ^ szF f - 1) j) = true then eS (fE f) (szF f) (2 ^ szF f - 1) j else 0) (szF f) = tot (fE f) (szF f) := by
      unfold tot
      obtain ⟨r, er⟩ : ∃ r, szF f = r + 1 := ⟨szF f - 1, by omega⟩
      have q : sL_ (szF f) (r + 1) (fun xs => bn (Vr (fE f) (Fn (szF f)) xs)) = _ := sL_sn
      rw [← er] at q
      rw [q]
      refine fb_sm_cong (fun j hj => ?_)
      rw [has_all (by omega), Fn_i.mpr hj, Bool.true_and, if_pos rfl]
      unfold eS es
      rw [pop_full _ (by omega), has_all (by omega), show szF f - 1 = r by omega]
    rw [e] at sm
    simp only [bd_n, gd_n, ca2_n, ca_n, nbtF, pbfT, Bool.not_true, Bool.not_false, if_true, if_false, m_X3_howMany, iz3, hg.1.2, sh2, z, p3, sm]
def cmpS (n s p : Nat) : Nat := ((2 ^ n - 1) &&& (255 - s)) ||| 2 ^ p
theorem two_bit (p i : Nat) : hasB (2 ^ p) i = decide (i = p) := by
  have := hasB_up (s := 0) (n := p) (i := i) (Nat.two_pow_pos p)
  rw [Nat.zero_add, hasB_lt (s := 0) (Nat.two_pow_pos i), Bool.false_or] at this
  exact this
theorem cmp_bit {n s p i : Nat} (hn : n ≤ 6) (hs : s < 256) : hasB (cmpS n s p) i = ((decide (i < n) && !hasB s i) || decide (i = p)) := by
  unfold cmpS
  rw [hasB_tb, Nat.testBit_or, Nat.testBit_and, ← hasB_tb, ← hasB_tb, ← hasB_tb, two_bit, has_all (by omega)]
  by_cases hi : i < n
  · rw [cm_b s hs i (by omega)]
    rfl
  · show (decide (i < n) && hasB (255 - s) i || decide (i = p)) = _
    rw [decide_eq_false hi, Bool.false_and, Bool.false_and]
theorem cmp_lt {n s p : Nat} (hn : n ≤ 6) (hp : p < 6) : cmpS n s p < 64 := by
  have pos := Nat.two_pow_pos n
  have s64 : 2 ^ n ≤ 64 := Nat.pow_le_pow_right (n := 2) (j := 6) (by decide) hn
  exact Nat.or_lt_two_pow (n := 6) (Nat.lt_of_le_of_lt Nat.and_le_left (by show 2 ^ n - 1 < 64; omega)) (Nat.pow_lt_pow_right (by decide) hp)
theorem sm_one {g : Nat → Nat} {p : Nat} (h : ∀ j, j ≠ p → g j = 0) : ∀ {n : Nat}, p < n → fb_sm g n = g p
  | 0, q => absurd q (by omega)
  | n + 1, q => by
    rw [fb_sm_succ]
    by_cases e : p = n
    · subst e
      rw [fb_sm_cong (g := fun _ => 0) (fun j hj => h j (by omega)), fb_sm_const, Nat.mul_zero, Nat.zero_add]
    · rw [sm_one h (by omega), h n (fun z => e z.symm), Nat.add_zero]
theorem tab_one {n s p : Nat} {G : Nat → Nat → Nat} (hp : p < n) (hb : hasB s p = true) : fb_sm (fun j => if (hasB s j && hasB (2 ^ p) j) = true then G s j else 0) n = G s p := by
  rw [sm_one (p := p) (fun j hj => by rw [two_bit, decide_eq_false hj, Bool.and_false, if_neg (by decide)]) hp, two_bit, decide_eq_true rfl, hb, if_pos (show (true && true) = true from rfl)]
theorem rows_lt {E : Nat → Nat → Bool} {n s p : Nat} (hn : n ≤ 6) (hs : s < 64) : eS E n s p < 2 ^ 31 ∧ bS E n s p < 2 ^ 31 := by
  have b := pop9 s (by omega)
  have e1 : eS E n s p ≤ n ^ (popc s - 1) := sL_le (fun _ => bn_le _)
  have e2 : bS E n s p ≤ n ^ (popc s - 1) := sL_le (fun _ => bn_le _)
  have q : n ^ (popc s - 1) ≤ 6 ^ (popc s - 1) := Nat.pow_le_pow_left hn _
  have q2 : 6 ^ (popc s - 1) ≤ 6 ^ 8 := Nat.pow_le_pow_right (by decide) (by omega)
  have q3 : (6 ^ 8 : Nat) = 1679616 := by decide
  omega
def okS (E : Nat → Nat → Bool) (n p u : Nat) : Prop := hasB u p = true ∧ 0 < eS E n u p ∧ 0 < bS E n (cmpS n u p) p
theorem le0_n {x : Nat} (h : x < 2 ^ 31) : (nI x ≤ 0) = (x = 0) := by
  apply propext
  constructor
  · intro q
    rcases Nat.eq_zero_or_pos x with e | e
    · exact e
    · exact absurd q (nI_nle e h)
  · intro q
    rw [q]
    decide
theorem x_pl_loop {μ0 μ : Mu} {f : Nat → Int32} {p : Nat} (hz : szF f ≤ 6) (hp : P4 μ0) (hg : GD μ0 μ f) (hpn : p < szF f) : ∀ (d s F m : Nat), s + d = 2 ^ szF f → d < F → 1 ≤ s → m < 64 → (∀ i, hasB m i = true ↔ ∃ u, u < s ∧ okS (fE f) (szF f) p u ∧ popc u = i + 1) → ∃ m', m_X3_placesOf_h33 SH 357 (nI (2 ^ szF f - 1)) (nI (2 ^ p)) F (nI m) (nI s) μ = some (nI m', μ) ∧ m' < 64 ∧ ∀ i, hasB m' i = true ↔ ∃ u, u < 2 ^ szF f ∧ okS (fE f) (szF f) p u ∧ popc u = i + 1 := by
  have pos := Nat.two_pow_pos (szF f)
  have s64 : 2 ^ szF f ≤ 64 := Nat.pow_le_pow_right (n := 2) (j := 6) (by decide) hz
  have p3 : gR μ 357 3 = 360 := by rw [hg.1.1.2]; exact hp.2.2.1
  have p4 : gR μ 357 4 = 361 := by rw [hg.1.1.2]; exact hp.2.2.2
  have pb : 2 ^ p < 64 := Nat.pow_lt_pow_right (a := 2) (m := p) (n := 6) (by decide) (by omega)
  intro d
  induction d with
  | zero =>
    intro s F m hs hF s1 hm hI
    obtain ⟨F, rfl⟩ : ∃ g, F = g + 1 := ⟨F - 1, by omega⟩
    have e : s = 2 ^ szF f := by omega
    refine ⟨m, ?_, hm, fun i => by rw [hI i, e]⟩
    show m_X3_placesOf_b33 SH (m_X3_placesOf_h33 SH 357 (nI (2 ^ szF f - 1)) (nI (2 ^ p)) F) 357 (nI (2 ^ szF f - 1)) (nI (2 ^ p)) (nI m) (nI s) μ = _
    have h : (nI (2 ^ szF f - 1) < nI s) = True := eq_true (nI_lt (by omega) (by omega))
    simp only [bd_n, gd_n, ca2_n, ca_n, nbtF, pbfT, Bool.not_true, Bool.not_false, if_true, if_false, m_X3_placesOf_b33, h]
  | succ d ih =>
    intro s F m hs hF s1 hm hI
    obtain ⟨F, rfl⟩ : ∃ g, F = g + 1 := ⟨F - 1, by omega⟩
    have h : (nI (2 ^ szF f - 1) < nI s) = False := eq_false (nI_nlt (by omega) (by omega))
    have ab := and_bit s (by omega) p (by omega)
    rw [(sh_m p (by omega)).1] at ab
    show ∃ m', m_X3_placesOf_b33 SH (m_X3_placesOf_h33 SH 357 (nI (2 ^ szF f - 1)) (nI (2 ^ p)) F) 357 (nI (2 ^ szF f - 1)) (nI (2 ^ p)) (nI m) (nI s) μ = _ ∧ _
    have skip : ¬ okS (fE f) (szF f) p s → ∃ m', m_X3_placesOf_b94 SH (m_X3_placesOf_h33 SH 357 (nI (2 ^ szF f - 1)) (nI (2 ^ p)) F) 357 (nI (2 ^ szF f - 1)) (nI (2 ^ p)) (nI m) (nI s) μ = some (nI m', μ) ∧ m' < 64 ∧ ∀ i, hasB m' i = true ↔ ∃ u, u < 2 ^ szF f ∧ okS (fE f) (szF f) p u ∧ popc u = i + 1 := fun no => by
      obtain ⟨m', e1, e2⟩ := ih (s + 1) F m (by omega) (by omega) (by omega) hm (fun i => by
        rw [hI i]
        constructor
        · rintro ⟨u, h1, h2⟩
          exact ⟨u, by omega, h2⟩
        · rintro ⟨u, h1, h2, h3⟩
          by_cases e : u = s
          · rw [e] at h2; exact absurd h2 no
          · exact ⟨u, by omega, h2, h3⟩)
      refine ⟨m', ?_, e2⟩
      simp only [bd_n, gd_n, ca2_n, ca_n, nbtF, pbfT, Bool.not_true, Bool.not_false, if_true, if_false, m_X3_placesOf_b94, show nI s + 1 = nI (s + 1) from nI_add _ 1]
      exact e1
    cases hb : hasB s p with
    | false =>
      rw [hb] at ab
      have ab' := eq_true (of_decide_eq_true ab)
      obtain ⟨m', e1, e2⟩ := skip (fun q => by rw [q.1] at hb; cases hb)
      refine ⟨m', ?_, e2⟩
      simp only [bd_n, gd_n, ca2_n, ca_n, nbtF, pbfT, Bool.not_true, Bool.not_false, if_true, if_false, m_X3_placesOf_b33, h, ab']
      exact e1
    | true =>
      rw [hb] at ab
      have ab' := eq_false (of_decide_eq_false ab)
      have sm1 := x_sum (l := 2 ^ p) (Or.inl rfl) hg.1.2 hz (show s < 64 by omega) pb (hg.2.1 s (by omega))
      rw [tab_one hpn hb] at sm1
      have rl := rows_lt (E := fE f) (n := szF f) (s := s) (p := p) hz (by omega)
      by_cases z1 : eS (fE f) (szF f) s p = 0
      · have z1' : (nI (eS (fE f) (szF f) s p) ≤ 0) = True := eq_true (by rw [le0_n rl.1]; exact z1)
        obtain ⟨m', e1, e2⟩ := skip (fun q => by have := q.2.1; omega)
        refine ⟨m', ?_, e2⟩
        simp only [bd_n, gd_n, ca2_n, ca_n, nbtF, pbfT, Bool.not_true, Bool.not_false, if_true, if_false, m_X3_placesOf_b33, h, ab', iz3, p3, sm1, z1']
        exact e1
      · have z1' : (nI (eS (fE f) (szF f) s p) ≤ 0) = False := eq_false (by rw [le0_n rl.1]; exact z1)
        have cl := cmp_lt (n := szF f) (s := s) (p := p) hz (by omega)
        have cb : hasB (cmpS (szF f) s p) p = true := by rw [cmp_bit hz (by omega), decide_eq_true (show p = p from rfl), Bool.or_true]
        have c2 : cmpS (szF f) s p < 2 ^ szF f := Nat.or_lt_two_pow (Nat.lt_of_le_of_lt Nat.and_le_left (by omega)) (Nat.pow_lt_pow_right (by decide) hpn)
        have sm2 := x_sum (l := 2 ^ p) (Or.inr rfl) hg.1.2 hz cl pb (hg.2.2 (cmpS (szF f) s p) c2)
        rw [tab_one hpn cb] at sm2
        have rl2 := rows_lt (E := fE f) (n := szF f) (s := cmpS (szF f) s p) (p := p) hz cl
        have ce : (nI (2 ^ szF f - 1) &&& (nI s ^^^ (-1))) ||| nI (2 ^ p) = nI (cmpS (szF f) s p) := by
          rw [free_e (by omega) (by omega), fa_or]
          rfl
        by_cases z2 : bS (fE f) (szF f) (cmpS (szF f) s p) p = 0
        · have z2' : (nI (bS (fE f) (szF f) (cmpS (szF f) s p) p) ≤ 0) = True := eq_true (by rw [le0_n rl2.2]; exact z2)
          obtain ⟨m', e1, e2⟩ := skip (fun q => by have := q.2.2; omega)
          refine ⟨m', ?_, e2⟩
          simp only [bd_n, gd_n, ca2_n, ca_n, nbtF, pbfT, Bool.not_true, Bool.not_false, if_true, if_false, m_X3_placesOf_b33, h, ab', iz3, p3, sm1, z1', p4, ce, sm2, z2']
          exact e1
        · have z2' : (nI (bS (fE f) (szF f) (cmpS (szF f) s p) p) ≤ 0) = False := eq_false (by rw [le0_n rl2.2]; exact z2)
          have yes : okS (fE f) (szF f) p s := ⟨hb, by omega, by omega⟩
          have pm : popc s ≤ szF f := by rw [pop_m (by omega) (show s < 2 ^ szF f by omega)]; exact cn_le _ _
          have p1 : 1 ≤ popc s := by have := (er_has s (by omega) p (by omega) hb).2.1; omega
          have sh : (1 : Int32) <<< ((nI (popc s) - 1) &&& 31) = nI (2 ^ (popc s - 1)) := by
            rw [show (nI (popc s) - 1 : Int32) = nI (popc s - 1) from pk_sub p1]
            exact (sh_m (popc s - 1) (by omega)).1
          have k6 : 2 ^ (popc s - 1) < 2 ^ 6 := Nat.pow_lt_pow_right (by decide) (by omega)
          obtain ⟨m', e1, e2⟩ := ih (s + 1) F (m ||| 2 ^ (popc s - 1)) (by omega) (by omega) (by omega) (Nat.or_lt_two_pow (n := 6) hm k6) (fun i => by
            rw [hasB_tb, Nat.testBit_or, ← hasB_tb, ← hasB_tb, two_bit, Bool.or_eq_true, hI i, decide_eq_true_eq]
            constructor
            · rintro (⟨u, h1, h2⟩ | e)
              · exact ⟨u, by omega, h2⟩
              · exact ⟨s, by omega, yes, by omega⟩
            · rintro ⟨u, h1, h2, h3⟩
              by_cases e : u = s
              · subst e; exact Or.inr (by omega)
              · exact Or.inl ⟨u, by omega, h2, h3⟩)
          refine ⟨m', ?_, e2⟩
          simp only [bd_n, gd_n, ca2_n, ca_n, nbtF, pbfT, Bool.not_true, Bool.not_false, if_true, if_false, m_X3_placesOf_b33, m_X3_placesOf_b94, h, ab', iz3, p3, sm1, z1', p4, ce, sm2, z2', x_bitCount (show s < 256 by omega), sh, fa_or, show nI s + 1 = nI (s + 1) from nI_add _ 1]
          exact e1
/-- a row with p at the i-th place -/
def RW (E : Nat → Nat → Bool) (n p i : Nat) : Prop := ∃ l m : List Nat, l.length = i ∧ (l ++ p :: m).length = n ∧ Vr E (Fn n) (l ++ p :: m) = true
theorem bn_pos {b : Bool} : 0 < bn b ↔ b = true := by cases b <;> decide
theorem cn_compl (X : Nat → Bool) : ∀ n, cn (fun i => !X i) n + cn X n = n
  | 0 => rfl
  | n + 1 => by
    have ih := cn_compl X n
    show cn (fun i => !X i) n + bn (!X n) + (cn X n + bn (X n)) = n + 1
    have : bn (!X n) + bn (X n) = 1 := by cases X n <;> rfl
    omega
theorem cmp_pop {n u p : Nat} (hn : n ≤ 6) (hp : p < n) (hu : u < 2 ^ n) (hb : hasB u p = true) : popc (cmpS n u p) + popc u = n + 1 := by
  have s64 : 2 ^ n ≤ 64 := Nat.pow_le_pow_right (n := 2) (j := 6) (by decide) hn
  have c2 : cmpS n u p < 2 ^ n := Nat.or_lt_two_pow (Nat.lt_of_le_of_lt Nat.and_le_left (by omega)) (Nat.pow_lt_pow_right (by decide) hp)
  have cb : hasB (cmpS n u p) p = true := by rw [cmp_bit hn (by omega), decide_eq_true (show p = p from rfl), Bool.or_true]
  have e1 := cn_er cb hp
  have e2 := cn_compl (hasB u) n
  have e3 : cn (er (hasB (cmpS n u p)) p) n = cn (fun i => !hasB u i) n := cn_cg (fun i hi => by
    by_cases e : i = p
    · rw [e, er_s, hb]; rfl
    · rw [er_n e, cmp_bit hn (by omega), decide_eq_true hi, decide_eq_false e, Bool.true_and, Bool.or_false])
  rw [pop_m (by omega) c2, pop_m (by omega) hu]
  omega
theorem ok_rw {E : Nat → Nat → Bool} {n p i : Nat} (hn : n ≤ 6) (hp : p < n) : (∃ u, u < 2 ^ n ∧ okS E n p u ∧ popc u = i + 1) ↔ RW E n p i := by
  have s64 : 2 ^ n ≤ 64 := Nat.pow_le_pow_right (n := 2) (j := 6) (by decide) hn
  constructor
  · rintro ⟨u, hu, ⟨hb, h1, h2⟩, hi⟩
    obtain ⟨ys, y1, y2, y3⟩ := sL_pos.mp h1
    obtain ⟨zs, w1, w2, w3⟩ := sL_pos.mp h2
    rw [bn_pos] at y3 w3
    have cp := cmp_pop hn hp hu hb
    have y1' : ys.length = popc u - 1 := y1
    have w1' : zs.length = popc (cmpS n u p) - 1 := w1
    have len : (ys ++ p :: zs).length = n := by
      rw [List.length_append, List.length_cons, y1', w1']
      have cb : hasB (cmpS n u p) p = true := by rw [cmp_bit hn (by omega), decide_eq_true (show p = p from rfl), Bool.or_true]
      have cl := cmp_lt (n := n) (s := u) (p := p) hn (by omega)
      have := (er_has _ (show cmpS n u p < 256 by omega) p (by omega) cb).2.1
      omega
    refine ⟨ys, zs, by omega, len, Vr_join y3 w3 (fun x q1 q2 => ?_) (fun x q => ?_) (fun x q => ?_)⟩
    · rw [cmp_bit hn (by omega), q1, Bool.not_true, Bool.and_false, Bool.false_or, decide_eq_true_eq] at q2
      exact q2
    · rw [Fn_i]
      exact Nat.lt_of_not_le (fun z => by rw [hasB_ge hu z] at q; cases q)
    · rw [cmp_bit hn (by omega), Bool.or_eq_true, Bool.and_eq_true, decide_eq_true_eq, decide_eq_true_eq] at q
      rw [Fn_i]
      rcases q with q | q
      · exact q.1
      · omega
  · rintro ⟨l, m, h1, h2, h3⟩
    have e : l ++ p :: m = (l ++ [p]) ++ m := by rw [List.append_assoc]; rfl
    have h3' : Vr E (Fn n) ((l ++ [p]) ++ m) = true := by rw [← e]; exact h3
    have v1 := Vr_pre h3'
    have v2 := Vr_suf h3'
    have v3 := Vr_suf h3
    have c1 := rs_cn (n := n) v1 (fun x hx => Fn_i.mp hx)
    rw [Fn_cn n n (Nat.le_refl n), List.length_append] at c1
    have l1 : ([p] : List Nat).length = 1 := rfl
    have hbit : ∀ x, hasB (mk (fun x => !rs (Fn n) (l ++ [p]) x) n) x = (decide (x < n) && !rs (Fn n) (l ++ [p]) x) := fun x => mk_bit _
    have hlt := mk_lt (fun x => !rs (Fn n) (l ++ [p]) x) n
    have pop : popc (mk (fun x => !rs (Fn n) (l ++ [p]) x) n) = i + 1 := by
      rw [pop_mk (by omega)]
      have := cn_compl (rs (Fn n) (l ++ [p])) n
      omega
    have mem : ∀ x, x ∈ l ++ [p] → hasB (mk (fun x => !rs (Fn n) (l ++ [p]) x) n) x = true := fun x hx => by
      have xn := Fn_i.mp (Vr_mem v1 hx)
      have no : rs (Fn n) (l ++ [p]) x = false := by
        rw [rs_nin]
        have : (l ++ [p]).all (fun y => !decide (x = y)) = false := by
          rw [List.all_eq_false]
          exact ⟨x, hx, by simp⟩
        rw [this, Bool.and_false]
      rw [hbit, decide_eq_true xn, no]
      rfl
    have hb := mem p (by simp)
    refine ⟨_, hlt, ⟨hb, ?_, ?_⟩, pop⟩
    · refine sL_pos.mpr ⟨l, by rw [pop]; omega, fun x hx => Fn_i.mp (Vr_mem v1 (by simp [hx])), bn_pos.mpr (Vr_in v1 mem)⟩
    · have cp := cmp_pop hn hp hlt hb
      rw [List.length_append, List.length_cons] at h2
      refine sL_pos.mpr ⟨m, by omega, fun x hx => Fn_i.mp (Vr_mem h3 (by simp [hx])), bn_pos.mpr (Vr_in v3 (fun x hx => ?_))⟩
      rw [cmp_bit hn (by omega)]
      rcases List.mem_cons.mp hx with q | q
      · rw [decide_eq_true q, Bool.or_true]
      · have r := Vr_mem v2 q
        have xn := Fn_i.mp (Vr_mem h3 (show x ∈ l ++ p :: m by simp [q]))
        rw [hbit, r, decide_eq_true xn]
        rfl
theorem x_places {μ0 μ : Mu} {f : Nat → Int32} {p : Nat} (hz : szF f ≤ 6) (hp : P4 μ0) (hg : GD μ0 μ f) (hpn : p < szF f) : ∃ m, m_X3_placesOf SH 357 (nI p) μ = some (nI m, μ) ∧ m < 64 ∧ ∀ i, hasB m i = true ↔ RW (fE f) (szF f) p i := by
  obtain ⟨sh1, sh2, sh3⟩ := sh_m (szF f) (by omega)
  have pos := Nat.two_pow_pos (szF f)
  have s64 : 2 ^ szF f ≤ 64 := Nat.pow_le_pow_right (n := 2) (j := 6) (by decide) hz
  have h0 : (nI p < 0) = False := eq_false (nlt0 (by omega))
  have h1 : (nI p < nI (szF f)) = True := eq_true (nI_lt hpn (by omega))
  obtain ⟨m, e1, e2, e3⟩ := x_pl_loop hz hp hg hpn (2 ^ szF f - 1) 1 FU 0 (by omega) (by rw [FU_eq]; omega) (by omega) (by decide) (fun i => by
    rw [hasB_lt (Nat.two_pow_pos i)]
    constructor
    · intro h; cases h
    · rintro ⟨u, hu, ⟨hb, _⟩, _⟩
      have : u = 0 := by omega
      rw [this, hasB_lt (Nat.two_pow_pos p)] at hb
      cases hb)
  rw [show nI 0 = (0 : Int32) from rfl, show nI 1 = (1 : Int32) from rfl] at e1
  refine ⟨m, ?_, e2, fun i => (e3 i).trans (ok_rw hz hpn)⟩
  simp only [bd_n, gd_n, ca2_n, ca_n, nbtF, pbfT, Bool.not_true, Bool.not_false, if_true, if_false, m_X3_placesOf, h0, iz3, hg.1.2, h1, sh2, (sh_m p (show p < 9 by omega)).1]
  exact e1

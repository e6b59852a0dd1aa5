/-! rows: the class's tables -/
def fE (f : Nat → Int32) (a b : Nat) : Bool := hOK (cI f a 3 2) (cI f b 0 2)
def eS (E : Nat → Nat → Bool) (n s i : Nat) : Nat := es E n (popc s - 1) (hasB s) i
def bS (E : Nat → Nat → Bool) (n s i : Nat) : Nat := bs E n (popc s - 1) (hasB s) i
/-- a table of rows by set and end -/
def Gr (n : Nat) (K : Nat → Nat → Bool) (G : Nat → Nat → Nat) : Prop := ∀ s i, s < 64 → i < 6 → hasB s i = true → G s i = if s = 2 ^ i then 1 else fb_sm (fun j => if (hasB (s - 2 ^ i) j && K i j) = true then G (s - 2 ^ i) j else 0) n
theorem one_bit : ∀ s, s < 64 → ∀ i, i < 6 → hasB s i = true → (s = 2 ^ i → popc s - 1 = 0) ∧ (s ≠ 2 ^ i → popc s - 1 = popc (s - 2 ^ i) - 1 + 1) := by decide +kernel
theorem eS_gr (E : Nat → Nat → Bool) (n : Nat) : Gr n (fun i j => E j i) (eS E n) := by
  intro s i hs hi hb
  have o := one_bit s hs i hi hb
  unfold eS
  by_cases q : s = 2 ^ i
  · rw [if_pos q, o.1 q]
    exact es_0 hb
  · rw [if_neg q, o.2 q, es_s hb, hasB_dn (by omega) (by omega) hb]
theorem bS_gr (E : Nat → Nat → Bool) (n : Nat) : Gr n E (bS E n) := by
  intro s i hs hi hb
  have o := one_bit s hs i hi hb
  unfold bS
  by_cases q : s = 2 ^ i
  · rw [if_pos q, o.1 q]
    exact bs_0 hb
  · rw [if_neg q, o.2 q, bs_s hb, hasB_dn (by omega) (by omega) hb]
theorem iz3 : iz SH 3 357 = true := rfl
theorem nI_six (s i : Nat) : nI s * 6 + nI i = nI (s * 6 + i) := by
  rw [show (6 : Int32) = nI 6 from rfl, ← nI_add, nI, nI, nI, nI, ← Int32.ofNat_mul]
theorem and_bit : ∀ x, x < 64 → ∀ i, i < 6 → decide (nI x &&& (1 <<< (nI i &&& 31)) = 0) = !hasB x i := by decide +kernel
theorem and_not : ∀ s, s < 64 → ∀ i, i < 6 → hasB s i = false → nI s &&& ((1 <<< (nI i &&& 31)) ^^^ (-1)) = nI s := by decide +kernel
theorem sub_ne : ∀ s, s < 64 → ∀ i, i < 6 → hasB s i = true → ¬ s - 2 ^ i = s := by decide +kernel
def tab (μ : Mu) (t n : Nat) (G : Nat → Nat → Nat) (s : Nat) : Prop := ∀ i, i < n → hasB s i = true → gI μ t (s * 6 + i) = nI (G s i)
theorem x_sum_loop {μ : Mu} {t n s l : Nat} {G : Nat → Nat → Nat} (ht : t = 360 ∨ t = 361) (h0 : gI μ 357 0 = nI n) (hn : n ≤ 6) (hs : s < 64) (hl : l < 64) (hT : tab μ t n G s) : ∀ (d i F : Nat), i + d = n → d < F → m_X3_sumOver_h6 SH 357 t (nI s) (nI l) F (nI (fb_sm (fun j => if (hasB s j && hasB l j) = true then G s j else 0) i)) (nI i) μ = some (nI (fb_sm (fun j => if (hasB s j && hasB l j) = true then G s j else 0) n), μ) := by
  have sh : SH t = (8, 384) := by rcases ht with rfl | rfl <;> rfl
  have iz8 : iz SH 8 t = true := iz_of sh
  have ln : (SH t).2 = 384 := by rw [sh]
  intro d
  induction d with
  | zero =>
    intro i F hi hF
    obtain ⟨F, rfl⟩ : ∃ g, F = g + 1 := ⟨F - 1, by omega⟩
    have e : i = n := by omega
    subst e
    show m_X3_sumOver_b6 SH (m_X3_sumOver_h6 SH 357 t (nI s) (nI l) F) 357 t (nI s) (nI l) _ (nI i) μ = _
    have h : (nI i ≤ nI i) = True := eq_true (nI_le (by omega) (by omega))
    simp only [bd_n, gd_n, ca2_n, ca_n, nbtF, pbfT, Bool.not_true, Bool.not_false, if_true, if_false, m_X3_sumOver_b6, iz3, h0, h]
  | succ d ih =>
    intro i F hi hF
    obtain ⟨F, rfl⟩ : ∃ g, F = g + 1 := ⟨F - 1, by omega⟩
    show m_X3_sumOver_b6 SH (m_X3_sumOver_h6 SH 357 t (nI s) (nI l) F) 357 t (nI s) (nI l) _ (nI i) μ = _
    have h : (nI n ≤ nI i) = False := eq_false (nle_nI (by omega) (by omega))
    have sl : s &&& l < 64 := Nat.lt_of_le_of_lt Nat.and_le_left hs
    have ab := and_bit (s &&& l) sl i (by omega)
    have hb : hasB (s &&& l) i = (hasB s i && hasB l i) := by rw [hasB_tb, Nat.testBit_and, ← hasB_tb, ← hasB_tb]
    rw [hb] at ab
    have u := ih (i + 1) F (by omega) (by omega)
    rw [fb_sm_succ] at u
    cases hc : (hasB s i && hasB l i) with
    | false =>
      rw [hc] at ab u
      rw [if_neg (by decide), Nat.add_zero] at u
      have ab' := eq_true (of_decide_eq_true ab)
      simp only [bd_n, gd_n, ca2_n, ca_n, nbtF, pbfT, Bool.not_true, Bool.not_false, if_true, if_false, m_X3_sumOver_b6, m_X3_sumOver_b51, iz3, h0, h, fa_and, ab', show nI i + 1 = nI (i + 1) from nI_add _ 1]
      exact u
    | true =>
      rw [hc] at ab u
      rw [if_pos rfl] at u
      have ab' := eq_false (of_decide_eq_false ab)
      rw [Bool.and_eq_true] at hc
      have n2 : (nI 384 ≤ nI (s * 6 + i)) = False := eq_false (nle_nI (by omega) (by decide))
      have x1 : ix SH 8 t (nI (s * 6 + i)) = true := ix_of sh (by omega) (by decide)
      simp only [bd_n, gd_n, ca2_n, ca_n, nbtF, pbfT, Bool.not_true, Bool.not_false, if_true, if_false, m_X3_sumOver_b6, m_X3_sumOver_b51, iz3, h0, h, fa_and, ab', nI_six, iz8, ln, n2, x1, nI_clamp (show s * 6 + i < 2 ^ 31 by omega), hT i (show i < n by omega) hc.1, nI_add, show nI i + 1 = nI (i + 1) from nI_add _ 1]
      exact u
theorem x_sum {μ : Mu} {t n s l : Nat} {G : Nat → Nat → Nat} (ht : t = 360 ∨ t = 361) (h0 : gI μ 357 0 = nI n) (hn : n ≤ 6) (hs : s < 64) (hl : l < 64) (hT : tab μ t n G s) : m_X3_sumOver SH 357 t (nI s) (nI l) μ = some (nI (fb_sm (fun j => if (hasB s j && hasB l j) = true then G s j else 0) n), μ) := by
  have e := x_sum_loop ht h0 hn hs hl hT n 0 FU (by omega) (by rw [FU_eq]; omega)
  rw [show nI 0 = (0 : Int32) from rfl] at e
  exact e
/-- what countRows keeps -/
def CK (μ0 μ : Mu) (t : Nat) : Prop := same (fun b => b ≠ t) μ0 μ ∧ ∀ b k, gR μ b k = gR μ0 b k
theorem CK.w {μ0 μ : Mu} {t k : Nat} {v : Int32} (h : CK μ0 μ t) : CK μ0 (sI μ t k v) t := ⟨h.1.trans (same_sI (fun h => h rfl)), fun b j => h.2 b j⟩
theorem six_ne {s u i j : Nat} (hi : i < 6) (hj : j < 6) (h : ¬ (u = s ∧ j = i)) : u * 6 + j ≠ s * 6 + i := fun e => h (by omega)
theorem x_cr2 {μ0 : Mu} {t q n s : Nat} {K : Nat → Nat → Bool} {G : Nat → Nat → Nat} {k2 : Int32 → Mu → Option Mu} (ht : t = 360 ∨ t = 361) (hq : q = 358 ∨ q = 359) (h0 : gI μ0 357 0 = nI n) (hn : n ≤ 6) (hs : s < 64) (hsn : s < 2 ^ n) (hK : ∀ i, i < n → gI μ0 q i = nI (mk (K i) n)) (hG : Gr n K G) : ∀ (d i F : Nat) (μ : Mu), i + d = n → d < F → CK μ0 μ t → (∀ u, u < s → tab μ t n G u) → (∀ j, j < i → hasB s j = true → gI μ t (s * 6 + j) = nI (G s j)) → ∃ μ', m_X3_countRows_h15 SH k2 357 t q (nI s) F (nI i) μ = m_X3_countRows_b86 SH k2 357 t q (nI s) μ' ∧ CK μ0 μ' t ∧ ∀ u, u < s + 1 → tab μ' t n G u := by
  have sh : SH t = (8, 384) := by rcases ht with rfl | rfl <;> rfl
  have shq : SH q = (8, 6) := by rcases hq with rfl | rfl <;> rfl
  have iz8 : iz SH 8 t = true := iz_of sh
  have ln : (SH t).2 = 384 := by rw [sh]
  intro d
  induction d with
  | zero =>
    intro i F μ hi hF hC hT hI
    obtain ⟨F, rfl⟩ : ∃ g, F = g + 1 := ⟨F - 1, by omega⟩
    have e : i = n := by omega
    subst e
    have c0 : gI μ 357 0 = nI i := by rw [hC.1.I (by omega)]; exact h0
    refine ⟨μ, ?_, hC, fun u hu j hj hb => ?_⟩
    · show m_X3_countRows_b15 SH k2 (m_X3_countRows_h15 SH k2 357 t q (nI s) F) 357 t q (nI s) (nI i) μ = _
      have h : (nI i ≤ nI i) = True := eq_true (nI_le (by omega) (by omega))
      simp only [bd_n, gd_n, ca2_n, ca_n, nbtF, pbfT, Bool.not_true, Bool.not_false, if_true, if_false, m_X3_countRows_b15, iz3, c0, h]
    · by_cases e : u = s
      · subst e; exact hI j hj hb
      · exact hT u (by omega) j hj hb
  | succ d ih =>
    intro i F μ hi hF hC hT hI
    obtain ⟨F, rfl⟩ : ∃ g, F = g + 1 := ⟨F - 1, by omega⟩
    have c0 : gI μ 357 0 = nI n := by rw [hC.1.I (by omega)]; exact h0
    have h : (nI n ≤ nI i) = False := eq_false (nle_nI (by omega) (by omega))
    show ∃ μ', m_X3_countRows_b15 SH k2 (m_X3_countRows_h15 SH k2 357 t q (nI s) F) 357 t q (nI s) (nI i) μ = _ ∧ _
    cases hb : hasB s i with
    | false =>
      have a := and_not s hs i (by omega) hb
      have t1 : (nI s = nI s) = True := eq_true rfl
      obtain ⟨μ', e1, e2⟩ := ih (i + 1) F μ (by omega) (by omega) hC hT (fun j hj hbj => by
        by_cases e : j = i
        · rw [e, hb] at hbj; cases hbj
        · exact hI j (by omega) hbj)
      refine ⟨μ', ?_, e2⟩
      simp only [bd_n, gd_n, ca2_n, ca_n, nbtF, pbfT, Bool.not_true, Bool.not_false, if_true, if_false, m_X3_countRows_b15, m_X3_countRows_b80, iz3, c0, h, a, t1, show nI i + 1 = nI (i + 1) from nI_add _ 1]
      exact e1
    | true =>
      obtain ⟨r1, r2, r3⟩ := er_has s (by omega) i (by omega) hb
      have pos := Nat.two_pow_pos i
      have ne := sub_ne s hs i (by omega) hb
      have t1 : (nI (s - 2 ^ i) = nI s) = False := eq_false (fun z => ne ((nI_eq (by omega) (by omega)).mp z))
      have n2 : (nI 384 ≤ nI (s * 6 + i)) = False := eq_false (nle_nI (by omega) (by decide))
      have x1 : ix SH 8 t (nI (s * 6 + i)) = true := ix_of sh (by omega) (by decide)
      have fin : ∃ μ', m_X3_countRows_b79 SH k2 (m_X3_countRows_h15 SH k2 357 t q (nI s) F) 357 t q (nI s) (nI i) (nI (G s i)) (nI (s * 6 + i)) t μ = m_X3_countRows_b86 SH k2 357 t q (nI s) μ' ∧ CK μ0 μ' t ∧ ∀ u, u < s + 1 → tab μ' t n G u := by
        obtain ⟨μ', e1, e2⟩ := ih (i + 1) F (sI μ t (s * 6 + i) (nI (G s i))) (by omega) (by omega) hC.w (fun u hu j hj hbj => by
          rw [gI_k (six_ne (by omega) (by omega) (by omega))]
          exact hT u hu j hj hbj) (fun j hj hbj => by
          by_cases e : j = i
          · rw [e, gI_w]
          · rw [gI_k (by omega)]
            exact hI j (by omega) hbj)
        refine ⟨μ', ?_, e2⟩
        simp only [bd_n, gd_n, ca2_n, ca_n, nbtF, pbfT, Bool.not_true, Bool.not_false, if_true, if_false, m_X3_countRows_b79, m_X3_countRows_b80, x1, nI_clamp (show s * 6 + i < 2 ^ 31 by omega), show nI i + 1 = nI (i + 1) from nI_add _ 1]
        exact e1
      have gr := hG s i hs (by omega) hb
      obtain ⟨μ', e1, e2⟩ := fin
      by_cases one : s = 2 ^ i
      · rw [if_pos one] at gr
        rw [gr] at e1
        have z : (nI (s - 2 ^ i) = 0) = True := eq_true (by rw [one, Nat.sub_self]; rfl)
        refine ⟨μ', ?_, e2⟩
        simp only [bd_n, gd_n, ca2_n, ca_n, nbtF, pbfT, Bool.not_true, Bool.not_false, if_true, if_false, m_X3_countRows_b15, iz3, c0, h, r3, nI_six, t1, iz8, ln, n2, z]
        exact e1
      · rw [if_neg one] at gr
        have z : (nI (s - 2 ^ i) = 0) = False := eq_false (nI_ne0 (by omega) (by omega))
        have kq : gI μ q i = nI (mk (K i) n) := by rw [hC.1.I (by omega)]; exact hK i (by omega)
        have xq : ix SH 8 q (nI i) = true := ix_of shq (by omega) (by decide)
        have l64 : mk (K i) n < 64 := Nat.lt_of_lt_of_le (mk_lt _ _) (Nat.pow_le_pow_right (n := 2) (by decide) hn)
        have sm := x_sum (l := mk (K i) n) ht c0 hn (show s - 2 ^ i < 64 by omega) l64 (hT (s - 2 ^ i) (by omega))
        have e3 : fb_sm (fun j => if (hasB (s - 2 ^ i) j && hasB (mk (K i) n) j) = true then G (s - 2 ^ i) j else 0) n = G s i := by
          rw [gr]
          exact fb_sm_cong (fun j hj => by rw [mk_bit, decide_eq_true hj, Bool.true_and])
        rw [e3] at sm
        refine ⟨μ', ?_, e2⟩
        simp only [bd_n, gd_n, ca2_n, ca_n, nbtF, pbfT, Bool.not_true, Bool.not_false, if_true, if_false, m_X3_countRows_b15, iz3, c0, h, r3, nI_six, t1, iz8, ln, n2, z, xq, nI_clamp (show i < 2 ^ 31 by omega), kq, sm]
        exact e1
theorem x_cr1 {μ0 : Mu} {t q n : Nat} {K : Nat → Nat → Bool} {G : Nat → Nat → Nat} (ht : t = 360 ∨ t = 361) (hq : q = 358 ∨ q = 359) (h0 : gI μ0 357 0 = nI n) (hn : n ≤ 6) (hK : ∀ i, i < n → gI μ0 q i = nI (mk (K i) n)) (hG : Gr n K G) : ∀ (d s F : Nat) (μ : Mu), s + d = 2 ^ n → d < F → CK μ0 μ t → (∀ u, u < s → tab μ t n G u) → ∃ μ', m_X3_countRows_h2 SH 357 t q F (nI s) μ = some μ' ∧ CK μ0 μ' t ∧ ∀ u, u < 2 ^ n → tab μ' t n G u := by
  obtain ⟨sh1, sh2, sh3⟩ := sh_m n (by omega)
  have s64 : 2 ^ n ≤ 64 := Nat.pow_le_pow_right (n := 2) (j := 6) (by decide) hn
  intro d
  induction d with
  | zero =>
    intro s F μ hs hF hC hT
    obtain ⟨F, rfl⟩ : ∃ g, F = g + 1 := ⟨F - 1, by omega⟩
    have c0 : gI μ 357 0 = nI n := by rw [hC.1.I (by omega)]; exact h0
    refine ⟨μ, ?_, hC, fun u hu => hT u (by omega)⟩
    show m_X3_countRows_b2 SH (m_X3_countRows_h2 SH 357 t q F) 357 t q (nI s) μ = _
    have h : (nI (2 ^ n) ≤ nI s) = True := eq_true (nI_le (by omega) (by omega))
    simp only [bd_n, gd_n, ca2_n, ca_n, nbtF, pbfT, Bool.not_true, Bool.not_false, if_true, if_false, m_X3_countRows_b2, iz3, c0, sh1, h]
  | succ d ih =>
    intro s F μ hs hF hC hT
    obtain ⟨F, rfl⟩ : ∃ g, F = g + 1 := ⟨F - 1, by omega⟩
    have c0 : gI μ 357 0 = nI n := by rw [hC.1.I (by omega)]; exact h0
    have h : (nI (2 ^ n) ≤ nI s) = False := eq_false (nle_nI (by omega) (by omega))
    obtain ⟨μ1, e1, e2, e3⟩ := x_cr2 (s := s) (k2 := m_X3_countRows_h2 SH 357 t q F) ht hq h0 hn (by omega) (by omega) hK hG n 0 FU μ (by omega) (by rw [FU_eq]; omega) hC hT (fun j hj => absurd hj (by omega))
    rw [show nI 0 = (0 : Int32) from rfl] at e1
    obtain ⟨μ', e4, e5⟩ := ih (s + 1) F μ1 (by omega) (by omega) e2 e3
    refine ⟨μ', ?_, e5⟩
    show m_X3_countRows_b2 SH (m_X3_countRows_h2 SH 357 t q F) 357 t q (nI s) μ = _
    simp only [bd_n, gd_n, ca2_n, ca_n, nbtF, pbfT, Bool.not_true, Bool.not_false, if_true, if_false, m_X3_countRows_b2, iz3, c0, sh1, h, e1, m_X3_countRows_b86, show nI s + 1 = nI (s + 1) from nI_add _ 1]
    exact e4
theorem x_cr {μ0 : Mu} {t q n : Nat} {K : Nat → Nat → Bool} {G : Nat → Nat → Nat} (ht : t = 360 ∨ t = 361) (hq : q = 358 ∨ q = 359) (h0 : gI μ0 357 0 = nI n) (hn : n ≤ 6) (hK : ∀ i, i < n → gI μ0 q i = nI (mk (K i) n)) (hG : Gr n K G) : ∃ μ', m_X3_countRows SH 357 t q μ0 = some μ' ∧ CK μ0 μ' t ∧ ∀ u, u < 2 ^ n → tab μ' t n G u := by
  have pos := Nat.two_pow_pos n
  have s64 : 2 ^ n ≤ 64 := Nat.pow_le_pow_right (n := 2) (j := 6) (by decide) hn
  obtain ⟨μ', e1, e2⟩ := x_cr1 ht hq h0 hn hK hG (2 ^ n - 1) 1 FU μ0 (by omega) (by rw [FU_eq]; omega) ⟨same.rf, fun _ _ => rfl⟩ (fun u hu i _ hb => by
    have : u = 0 := by omega
    subst this
    rw [hasB_lt (Nat.two_pow_pos i)] at hb
    cases hb)
  rw [show nI 1 = (1 : Int32) from rfl] at e1
  exact ⟨μ', e1, e2⟩

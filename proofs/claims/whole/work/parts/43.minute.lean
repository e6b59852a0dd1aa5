/-! minute -/
theorem y_flash {μ : Mu} {σ : Sg} {P : Pl} {b m : Nat} {f : Nat → Int32} {s : Int64} (h : InvM μ (wN σ (f, s))) (hσ : sP σ = P) (hv' : PV P) (hb : b < pB P) (hQ : GQ P m b f) (hlk : ∀ q, q < 2 → lkF f q ≤ 3) : ∃ μ', m_X7_flash SH 414 (nI b) μ = some (nI (fsh P f s b).2.2, μ') ∧ InvM μ' (wN σ ((fsh P f s b).1, (fsh P f s b).2.1)) ∧ same (fun x => x < 414) μ μ' := by
  have hB := hv'.2.1
  have hP5 := hv'.2.2.1
  have hsz := hQ.sz
  have mm : ∀ q, q < 205 → gI μ 422 q = f q := h.1.2
  have pl : MPl μ P := hσ ▸ h.2.2.2.1
  have x1 : ix SH 8 422 (nI (16 + 17 * b)) = true := ix422 (by omega)
  have p1 : (nI (16 + 17 * b)).toNatClampNeg = 16 + 17 * b := nI_clamp (by omega)
  have hin := inS_lt f b
  have m202 : gI μ 422 202 = nI (szF f) := (mm _ (by decide)).trans hsz.1
  have hk := (hQ.lk (b := b) (by omega)).1
  have hk3 := hlk b (by omega)
  have yin := ys_in2 (b := b) h.1 pl hv' hQ.2.2.2.2.2.2.2.1 (by omega)
  have yin : m_X7_inOf SH 414 (nI b) μ = some (nI (inS f b), μ) := yin
  unfold fsh
  by_cases h8 : szF f = 8
  · have u8 : (nI (szF f) = 8) = True := eq_true (by rw [h8]; rfl)
    rw [if_pos (Or.inl h8)]
    refine ⟨μ, ?_, h, same.rf⟩
    simp only [bd_n, gd_n, ca2_n, ca_n, nbtF, pbfT, Bool.not_true, Bool.not_false, if_true, if_false, m_X7_flash, beg_ix, iz7, h.1.1.pg, ixL202, c202, m202, u8]
    rfl
  · have u8 : (nI (szF f) = 8) = False := eq_false (fun e => h8 ((nI_eq (b := 8) (by omega) (by decide)).mp e))
    by_cases h0 : inS f b = 0 ∧ lkF f b = 0
    · rw [if_pos (Or.inr h0)]
      refine ⟨μ, ?_, h, same.rf⟩
      simp only [bd_n, gd_n, ca2_n, ca_n, nbtF, pbfT, Bool.not_true, Bool.not_false, if_true, if_false, m_X7_flash, beg_ix, iz7, h.1.1.pg, ixL202, c202, m202, u8, yin, h0.1, show (nI 0 = (0 : Int32)) = True from eq_true rfl, x1, p1, mm _ (show 16 + 17 * b < 205 by omega), hk, h0.2]
      rfl
    · rw [if_neg (fun q => q.elim h8 h0)]
      have E1 : m_X7_flash SH 414 (nI b) μ = m_X7_flash_b40 SH 414 (nI b) (nI (16 + 17 * b)) μ := by
        simp only [bd_n, gd_n, ca2_n, ca_n, nbtF, pbfT, Bool.not_true, Bool.not_false, if_true, if_false, m_X7_flash, beg_ix, iz7, h.1.1.pg, ixL202, c202, m202, u8, yin, x1, p1, mm _ (show 16 + 17 * b < 205 by omega), hk]
        by_cases hi0 : inS f b = 0
        · have hl0 : ¬ nI (lkF f b) = 0 := fun e => h0 ⟨hi0, (nI_eq (b := 0) (by omega) (by decide)).mp e⟩
          rw [if_pos (by rw [hi0]; rfl), if_neg hl0]
        · have hi1 : ¬ nI (inS f b) = 0 := fun e => hi0 ((nI_eq (b := 0) (by omega) (by decide)).mp e)
          rw [if_neg hi1]
      obtain ⟨k, hkk⟩ : ∃ k, k = lkF f b := ⟨_, rfl⟩
      rw [← hkk] at hk hk3 ⊢
      obtain ⟨L, hL⟩ : ∃ L, L = 16 + 17 * b + 1 + 4 * k := ⟨_, rfl⟩
      have f2 : InvM (sI (sI μ 422 L (f 203)) 422 (L + 1) (nI (inS f b))) (wN σ (upd (upd f L (f 203)) (L + 1) (nI (inS f b)), s)) := (h.wr (k := L) (v := f 203)).wr (k := L + 1) (v := nI (inS f b))
      have f1 : InvM (sI μ 422 L (f 203)) (wN σ (upd f L (f 203), s)) := h.wr
      have yin2 : m_X7_inOf SH 414 (nI b) (sI μ 422 L (f 203)) = some (nI (inS f b), sI μ 422 L (f 203)) := by
        have q := ys_in2 (f := upd f L (f 203)) (b := b) f1.1 (hσ ▸ f1.2.2.2.1) hv' (fun p hp => by rw [upd_n (by omega)]; exact hQ.2.2.2.2.2.2.2.1 p hp) (by omega)
        rw [inS_cg (fun p hp => upd_n (by omega))] at q
        exact q
      have h15 : gI (sI (sI μ 422 L (f 203)) 422 (L + 1) (nI (inS f b))) 422 15 = f 15 := by
        rw [gI_sI, if_pos rfl, if_neg (by omega), gI_sI, if_pos rfl, if_neg (by omega)]; exact mm _ (by decide)
      have xL : ix SH 8 422 (nI L) = true := ix422 (by omega)
      have xL1 : ix SH 8 422 (nI (L + 1)) = true := ix422 (by omega)
      have xL2 : ix SH 8 422 (nI (L + 2)) = true := ix422 (by omega)
      have xL3 : ix SH 8 422 (nI (L + 3)) = true := ix422 (by omega)
      have pL : (nI L).toNatClampNeg = L := nI_clamp (by omega)
      have pL1 : (nI (L + 1)).toNatClampNeg = L + 1 := nI_clamp (by omega)
      have pL2 : (nI (L + 2)).toNatClampNeg = L + 2 := nI_clamp (by omega)
      have pL3 : (nI (L + 3)).toNatClampNeg = L + 3 := nI_clamp (by omega)
      have eL : nI (16 + 17 * b) + 1 + 4 * nI k = nI L := by
        rw [hL, show (1 : Int32) = nI 1 from rfl, show (4 : Int32) = nI 4 from rfl, pk_mul, nI_add, nI_add]
      have E2 : m_X7_flash_b40 SH 414 (nI b) (nI (16 + 17 * b)) μ = m_X7_flash_b127 SH 414 (nI b) (nI (16 + 17 * b)) (nI L) (hv f b) (nI (L + 2)) 422 (sI (sI μ 422 L (f 203)) 422 (L + 1) (nI (inS f b))) := by
        simp only [bd_n, gd_n, ca2_n, ca_n, nbtF, pbfT, Bool.not_true, Bool.not_false, if_true, if_false, m_X7_flash_b40, iz7, h.1.1.pg, x1, p1, mm _ (show 16 + 17 * b < 205 by omega), hk, eL, ixL203, c203, mm _ (show 203 < 205 by omega), xL, pL, gR_sI, yin2, show nI L + 1 = nI (L + 1) from nI_add _ 1, show nI L + 2 = nI (L + 2) from nI_add _ 2, xL1, pL1, ixL15, c15, h15, m_X7_flash_b125]
        unfold hv
        rcases hQ.2.2.2.2.2.2.1 with e | ⟨p, hp, e⟩
        · rw [if_pos e, if_pos e]
        · have hne : ¬ f 15 = -9 := by rw [e]; exact n9 (by omega)
          have hpp : gI (sI (sI μ 422 L (f 203)) 422 (L + 1) (nI (inS f b))) 422 p = f p := by
            rw [gI_sI, if_pos rfl, if_neg (by omega), gI_sI, if_pos rfl, if_neg (by omega)]; exact mm _ (by omega)
          rw [if_neg hne, if_neg hne, e, gd_of (ix422 (show p < 205 by omega)), nI_clamp (by omega), hpp]
          by_cases c : f p = nI b
          · rw [if_pos c, if_pos c]
          · rw [if_neg c, if_neg c]
      obtain ⟨f3, hf3⟩ : ∃ f3, f3 = upd (upd (upd f L (f 203)) (L + 1) (nI (inS f b))) (L + 2) (hv f b) := ⟨_, rfl⟩
      have i4 : InvM (sI (sI (sI (sI μ 422 L (f 203)) 422 (L + 1) (nI (inS f b))) 422 (L + 2) (hv f b)) 422 (L + 3) 0) (wN σ (upd f3 (L + 3) (drw P f b s 0).2, (drw P f b s 0).1)) := by
        rw [hf3]
        exact (f2.wr (k := L + 2) (v := hv f b)).wr (k := L + 3) (v := 0)
      obtain ⟨μ5, e5, i5, s5⟩ := y_draw (σ := σ) (P := P) (b := b) (L := L) (f := f) (f3 := f3) (s := s) hσ hv' (fun p hp => by rw [hf3, upd_n (by omega), upd_n (by omega), upd_n (by omega)]) (by omega) (by omega) (pP P) 0 FU _ (by omega) (by rw [FU_eq]; omega) i4
      rw [show nI 0 = (0 : Int32) from rfl] at e5
      have hdr : drw P f b s 5 = drw P f b s (pP P) := drw_more hP5 (fun p h1 h2 e => by
        rcases hQ.2.2.2.2.2.2.2.1 p h2 with q | q
        · rw [q] at e; exact n9 (show b < 2 ^ 31 by omega) e.symm
        · omega)
      rw [hdr]
      have etk : upd (upd f3 (L + 3) (drw P f b s (pP P)).2) (16 + 17 * b) (nI (k + 1)) = tkF f b k (drw P f b s (pP P)).2 := by
        rw [hf3, hL]
        rfl
      obtain ⟨μ6, e6, i6, s6⟩ := y_f224 (b := b) (k := k) (n := szF f) i5 (by omega) (by rw [hf3, upd_n (by omega), upd_n (by omega), upd_n (by omega), upd_n (by omega)]; exact hk) hk3 (by rw [hf3, upd_n (by omega), upd_n (by omega), upd_n (by omega), upd_n (by omega)]; exact hsz.1) (by omega)
      rw [etk] at i6
      refine ⟨μ6, ?_, ?_, ((((((same_sI (by decide)).trans (same_sI (by decide))).trans (same_sI (by decide))).trans (same_sI (by decide))).trans s5).trans s6)⟩
      · rw [E1, E2]
        simp only [bd_n, gd_n, ca2_n, ca_n, nbtF, pbfT, Bool.not_true, Bool.not_false, if_true, if_false, m_X7_flash_b127, xL2, pL2, iz7, gR_sI, h.1.1.pg, show nI L + 3 = nI (L + 3) from nI_add _ 3, xL3, pL3, e5, e6]
        by_cases c : k = 3
        · rw [if_pos c, if_pos c]
        · rw [if_neg c, if_neg c]
      · by_cases c : k = 3
        · rw [if_pos c] at i6 ⊢; exact i6
        · rw [if_neg c] at i6 ⊢; exact i6
theorem fsh_n {P : Pl} {f : Nat → Int32} {s : Int64} {b : Nat} : (fsh P f s b).2.2 ≤ 1 := by
  unfold fsh
  split
  · exact Nat.zero_le _
  · split
    · exact Nat.le_refl _
    · exact Nat.zero_le _
theorem fshM_n {P : Pl} {f : Nat → Int32} {s : Int64} {b m : Nat} : (fshM P f s b m).2.2 ≤ 1 := by
  unfold fshM
  split
  · exact fsh_n
  · exact Nat.zero_le _
theorem lkF_tk {f : Nat → Int32} {b k : Nat} {v : Int32} (hk : k ≤ 3) : lkF (tkF f b k v) b = k + 1 := by
  show (tkF f b k v (16 + 17 * b)).toNatClampNeg = k + 1
  rw [tkF_at, nI_clamp (by omega)]
theorem lkF_tko {f : Nat → Int32} {b k q : Nat} {v : Int32} (hk : k ≤ 3) (hb : b < 2) (hq : q < 2) (h : q ≠ b) : lkF (tkF f b k v) q = lkF f q := by
  show (tkF f b k v (16 + 17 * q)).toNatClampNeg = (f (16 + 17 * q)).toNatClampNeg
  rw [tkF_n (by omega) (by omega)]
theorem lkF_fl {f : Nat → Int32} {b n : Nat} (hb : b < 2) (hn : n < 8) : lkF (flF f b n) b = 0 := by
  show (flF f b n (16 + 17 * b)).toNatClampNeg = 0
  rw [(flF_b hb hn).2.2.2.2]
  rfl
theorem lkF_flo {f : Nat → Int32} {b n q : Nat} (hb : b < 2) (hq : q < 2) (h : q ≠ b) : lkF (flF f b n) q = lkF f q := by
  show (flF f b n (16 + 17 * q)).toNatClampNeg = (f (16 + 17 * q)).toNatClampNeg
  rw [flF_n (by omega) (by omega) (by omega)]
theorem fshM_Q {P : Pl} {f : Nat → Int32} {s : Int64} {b m : Nat} (hQ : GQ P m b f) (hb : b < 2) (hbP : b < pB P) (hlk : ∀ q, q < 2 → lkF f q ≤ 3) : GQ P m (b + 1) (fshM P f s b m).1 ∧ ∀ q, q < 2 → lkF (fshM P f s b m).1 q ≤ 3 := by
  have hsz := hQ.sz
  have hlb := hlk b hb
  unfold fshM
  by_cases h1 : isFl P b m = true
  · rw [if_pos h1]
    unfold fsh
    by_cases h2 : szF f = 8 ∨ (inS f b = 0 ∧ lkF f b = 0)
    · rw [if_pos h2]; exact ⟨hQ.skip, hlk⟩
    · rw [if_neg h2]
      obtain ⟨t, ht, et⟩ := drw_lt P f b s 5 (by omega)
      have hT := hQ.take hb (hlk b hb) (show t < 32 from ht)
      have hzT : szF (tkF f b (lkF f b) (nI t)) = szF f := by
        show (tkF f b (lkF f b) (nI t) 202).toNatClampNeg = (f 202).toNatClampNeg
        rw [tkF_n (by omega) (by omega)]
      rw [et]
      by_cases h3 : lkF f b = 3
      · rw [if_pos h3]
        have h4 : lkF (tkF f b (lkF f b) (nI t)) b = 4 := by rw [lkF_tk hlb, h3]
        have hF := hT.fall hb hbP h4 (by rw [hzT]; omega)
        rw [hzT] at hF
        refine ⟨hF, fun q hq => ?_⟩
        show lkF (flF _ _ _) q ≤ 3
        by_cases e : q = b
        · subst e
          rw [lkF_fl hb (by omega)]
          decide
        · rw [lkF_flo hb hq e, lkF_tko hlb hb hq e]
          exact hlk q hq
      · rw [if_neg h3]
        refine ⟨hT, fun q hq => ?_⟩
        show lkF (tkF _ _ _ _) q ≤ 3
        by_cases e : q = b
        · subst e
          rw [lkF_tk hlb]
          omega
        · rw [lkF_tko hlb hb hq e]
          exact hlk q hq
  · rw [if_neg h1]; exact ⟨hQ.skip, hlk⟩
/-- behind some booths of a minute -/
def mst (P : Pl) (m : Nat) (N : Pg) : Nat → (Nat → Int32) × Int64 × Nat
  | 0 => (N.1, N.2, 0)
  | b + 1 => ((fshM P (mst P m N b).1 (mst P m N b).2.1 b m).1, (fshM P (mst P m N b).1 (mst P m N b).2.1 b m).2.1, (mst P m N b).2.2 + (fshM P (mst P m N b).1 (mst P m N b).2.1 b m).2.2)
theorem mst_Q {P : Pl} {m : Nat} {N : Pg} (h : GQ P m 0 N.1) (hl : ∀ q, q < 2 → lkF N.1 q ≤ 3) : ∀ b, b ≤ 2 → b ≤ pB P → GQ P m b (mst P m N b).1 ∧ (∀ q, q < 2 → lkF (mst P m N b).1 q ≤ 3) ∧ (mst P m N b).2.2 ≤ b
  | 0, _, _ => ⟨h, hl, Nat.le_refl _⟩
  | b + 1, hb, hb2 => by
    obtain ⟨q1, q2, q3⟩ := mst_Q h hl b (by omega) (by omega)
    have := fshM_Q (s := (mst P m N b).2.1) q1 (by omega) (by omega) q2
    have n1 := fshM_n (P := P) (f := (mst P m N b).1) (s := (mst P m N b).2.1) (b := b) (m := m)
    exact ⟨this.1, this.2, by show (mst P m N b).2.2 + (fshM P (mst P m N b).1 (mst P m N b).2.1 b m).2.2 ≤ b + 1; omega⟩
theorem x_min {μ0 : Mu} {q m : Nat} {P : Pl} {N : Pg} (hP : PR μ0 q P) (hv : PV P) (hq : gR μ0 1 2 = q) (hnow : gR μ0 1 4 = 11) (hQ : GQ P m 0 N.1) (hl : ∀ q, q < 2 → lkF N.1 q ≤ 3) (hm : m < 1000) : ∀ (d b F : Nat) (μ : Mu), b + d = pB P → d < F → SR μ 11 (mst P m N b).1 → gJ μ 11 0 = (mst P m N b).2.1 → same (fun x => x < 11 ∨ 37 ≤ x) μ0 μ → ∃ μ', m_X6_minute_h15 SH 1 F (nI (mst P m N b).2.2) (nI b) μ = some (nI (mst P m N (pB P)).2.2, μ') ∧ SR μ' 11 (upd (mst P m N (pB P)).1 203 (nI (m + 1))) ∧ gJ μ' 11 0 = (mst P m N (pB P)).2.1 ∧ same (fun x => x < 11 ∨ 37 ≤ x) μ0 μ' := by
  have hB := hv.2.1
  have hq37 : q = 3 ∨ q = 7 := hP.1.1
  intro d
  induction d with
  | zero =>
    intro b F μ hi hF c1 c2 c3
    obtain ⟨F, rfl⟩ : ∃ g, F = g + 1 := ⟨F - 1, by omega⟩
    have e : b = pB P := by omega
    subst e
    obtain ⟨g1, g2, g3⟩ := mst_Q hQ hl (pB P) (by omega) (by omega)
    have m1 : gI μ 11 1 = nI m := c1.2.1.trans g1.2.1
    refine ⟨sI μ 11 1 (nI (m + 1)), ?_, SR.w c1 g1.sz.2 (fun q hq => by have := g2 q hq; omega) (Or.inr (Or.inr (Or.inr (Or.inr (Or.inl ⟨rfl, rfl, rfl⟩))))), c2, c3.trans (same_sI (by decide))⟩
    show m_X6_minute_b15 SH (m_X6_minute_h15 SH 1 F) 1 (nI (mst P m N (pB P)).2.2) (nI (pB P)) μ = _
    have hPm : PR μ q P := hP.mono (c3.mono (fun x hx => by omega))
    simp only [bd_n, gd_n, ca2_n, ca_n, nbtF, pbfT, Bool.not_true, Bool.not_false, if_true, if_false, m_X6_minute_b15, iz6, show gR μ 1 2 = q from (c3.R (b := 1) (by decide) 2).trans hq, hPm.1.iz, hPm.2.2.1, show (nI (pB P) ≤ nI (pB P)) = True from eq_true (Int32.le_refl _), m_X6_minute_b47, show gR μ 1 4 = 11 from (c3.R (b := 1) (by decide) 4).trans hnow, iz411, m1, show nI m + 1 = nI (m + 1) from nI_add _ 1]
  | succ d ih =>
    intro b F μ hi hF c1 c2 c3
    obtain ⟨F, rfl⟩ : ∃ g, F = g + 1 := ⟨F - 1, by omega⟩
    obtain ⟨g1, g2, g3⟩ := mst_Q hQ hl b (by omega) (by omega)
    have hPm : PR μ q P := hP.mono (c3.mono (fun x hx => by omega))
    obtain ⟨μ1, e1, s1, j1, t1⟩ := x_flash c1 c2 hPm hv (by omega) g1 g2 hm
    obtain ⟨μ', e', z⟩ := ih (b + 1) F μ1 (by omega) (by omega) s1 j1 (c3.trans t1)
    refine ⟨μ', ?_, z⟩
    rw [← e']
    show m_X6_minute_b15 SH (m_X6_minute_h15 SH 1 F) 1 (nI (mst P m N b).2.2) (nI b) μ = _
    have u1 : (nI (pB P) ≤ nI b) = False := eq_false (nle_nI (by omega) (by omega))
    simp only [bd_n, gd_n, ca2_n, ca_n, nbtF, pbfT, Bool.not_true, Bool.not_false, if_true, if_false, m_X6_minute_b15, iz6, show gR μ 1 2 = q from (c3.R (b := 1) (by decide) 2).trans hq, hPm.1.iz, hPm.2.2.1, u1, show gR μ 1 4 = 11 from (c3.R (b := 1) (by decide) 4).trans hnow, iz411, e1, nI_add, show nI b + 1 = nI (b + 1) from nI_add _ 1]
    rfl
theorem y_min {σ : Sg} {m : Nat} {P : Pl} {N : Pg} (hσ : sP σ = P) (hv : PV P) (hQ : GQ P m 0 N.1) (hl : ∀ q, q < 2 → lkF N.1 q ≤ 3) (hm : m < 1000) : ∀ (d b F : Nat) (μ : Mu), b + d = pB P → d < F → InvM μ (wN σ ((mst P m N b).1, (mst P m N b).2.1)) → ∃ μ', m_X7_minute_h13 SH 414 F (nI (mst P m N b).2.2) (nI b) μ = some (nI (mst P m N (pB P)).2.2, μ') ∧ InvM μ' (wN σ (upd (mst P m N (pB P)).1 203 (nI (m + 1)), (mst P m N (pB P)).2.1)) ∧ same (fun x => x < 414) μ μ' := by
  have hB := hv.2.1
  intro d
  induction d with
  | zero =>
    intro b F μ hi hF h
    obtain ⟨F, rfl⟩ : ∃ g, F = g + 1 := ⟨F - 1, by omega⟩
    have e : b = pB P := by omega
    subst e
    obtain ⟨g1, g2, g3⟩ := mst_Q hQ hl (pB P) (by omega) (by omega)
    have pl : MPl μ P := hσ ▸ h.2.2.2.1
    have m1 : gI μ 422 203 = nI m := (h.1.2 203 (by decide)).trans g1.2.1
    refine ⟨sI μ 422 203 (nI (m + 1)), ?_, h.wr, same_sI (by decide)⟩
    show m_X7_minute_b13 SH (m_X7_minute_h13 SH 414 F) 414 (nI (mst P m N (pB P)).2.2) (nI (pB P)) μ = _
    simp only [bd_n, gd_n, ca2_n, ca_n, nbtF, pbfT, Bool.not_true, Bool.not_false, if_true, if_false, m_X7_minute_b13, iz7, pl.2.1, show (nI (pB P) ≤ nI (pB P)) = True from eq_true (Int32.le_refl _), m_X7_minute_b59, h.1.1.pg, ixL203, c203, m1, show nI m + 1 = nI (m + 1) from nI_add _ 1]
  | succ d ih =>
    intro b F μ hi hF h
    obtain ⟨F, rfl⟩ : ∃ g, F = g + 1 := ⟨F - 1, by omega⟩
    obtain ⟨g1, g2, g3⟩ := mst_Q hQ hl b (by omega) (by omega)
    have pl : MPl μ P := hσ ▸ h.2.2.2.1
    have m1 : gI μ 422 203 = nI m := (h.1.2 203 (by decide)).trans g1.2.1
    have hfl := y_isFlash (b := b) (m := m) h.1.1 pl hv (by omega) (by omega)
    have u1 : (nI (pB P) ≤ nI b) = False := eq_false (nle_nI (by omega) (by omega))
    show ∃ μ', m_X7_minute_b13 SH (m_X7_minute_h13 SH 414 F) 414 (nI (mst P m N b).2.2) (nI b) μ = _ ∧ _
    cases hF2 : isFl P b m with
    | false =>
      rw [hF2] at hfl
      have st : mst P m N (b + 1) = ((mst P m N b).1, (mst P m N b).2.1, (mst P m N b).2.2) := by
        conv => lhs; unfold mst
        unfold fshM
        rw [hF2, if_neg (by decide)]
        rfl
      obtain ⟨μ', e', z⟩ := ih (b + 1) F μ (by omega) (by omega) (by rw [st]; exact h)
      rw [st] at e'
      refine ⟨μ', ?_, z⟩
      rw [← e']
      simp only [bd_n, gd_n, ca2_n, ca_n, nbtF, pbfT, Bool.not_true, Bool.not_false, if_true, if_false, m_X7_minute_b13, iz7, pl.2.1, u1, h.1.1.pg, ixL203, c203, m1, hfl, m_X7_minute_b53, show nI b + 1 = nI (b + 1) from nI_add _ 1]
    | true =>
      rw [hF2] at hfl
      have st : mst P m N (b + 1) = ((fsh P (mst P m N b).1 (mst P m N b).2.1 b).1, (fsh P (mst P m N b).1 (mst P m N b).2.1 b).2.1, (mst P m N b).2.2 + (fsh P (mst P m N b).1 (mst P m N b).2.1 b).2.2) := by
        conv => lhs; unfold mst
        unfold fshM
        rw [hF2, if_pos rfl]
      obtain ⟨μ1, e1, i1, s1⟩ := y_flash h hσ hv (by omega) g1 g2
      obtain ⟨μ', e', z1, z2⟩ := ih (b + 1) F μ1 (by omega) (by omega) (by rw [st]; exact i1)
      rw [st] at e'
      refine ⟨μ', ?_, z1, s1.trans z2⟩
      rw [← e']
      have n1 := fsh_n (P := P) (f := (mst P m N b).1) (s := (mst P m N b).2.1) (b := b)
      simp only [bd_n, gd_n, ca2_n, ca_n, nbtF, pbfT, Bool.not_true, Bool.not_false, if_true, if_false, m_X7_minute_b13, iz7, pl.2.1, u1, h.1.1.pg, ixL203, c203, m1, hfl, e1]
      rcases (show (fsh P (mst P m N b).1 (mst P m N b).2.1 b).2.2 = 0 ∨ (fsh P (mst P m N b).1 (mst P m N b).2.1 b).2.2 = 1 by omega) with c | c
      · rw [c, if_pos (show nI 0 = 0 from rfl)]
        simp only [bd_n, gd_n, ca2_n, ca_n, nbtF, pbfT, Bool.not_true, Bool.not_false, if_true, if_false, m_X7_minute_b51, m_X7_minute_b53, show nI b + 1 = nI (b + 1) from nI_add _ 1, show nI (mst P m N b).2.2 + 0 = nI ((mst P m N b).2.2 + 0) from nI_add _ 0]
      · rw [c, if_neg (show ¬ nI 1 = 0 by decide)]
        simp only [bd_n, gd_n, ca2_n, ca_n, nbtF, pbfT, Bool.not_true, Bool.not_false, if_true, if_false, m_X7_minute_b51, m_X7_minute_b53, show nI b + 1 = nI (b + 1) from nI_add _ 1, show nI (mst P m N b).2.2 + 1 = nI ((mst P m N b).2.2 + 1) from nI_add _ 1]
theorem op_minute : OpI (m_X6_minute SH 1) (m_X7_minute SH 414) := by
  intro μ σ c iX iM g hc
  have hv := g.pv
  have hB := hv.2.1
  obtain ⟨m, hm, hQ⟩ := g.gp.toQ (by omega)
  have hl : ∀ q, q < 2 → lkF (sN σ).1 q ≤ 3 := fun q hq => (g.gp.lk hq).2
  obtain ⟨q1, q2, q3⟩ := mst_Q hQ hl (pB (sP σ)) hB (Nat.le_refl _)
  have g1 := g.toP
  have g2 : Good (wN (wA σ (psh (sA σ) (sN σ))) (upd (mst (sP σ) m (sN σ) (pB (sP σ))).1 203 (nI (m + 1)), (mst (sP σ) m (sN σ) (pB (sP σ))).2.1)) (c + 1) := (g1.more (by omega)).toN (q1.toP q2 hm)
  refine fin_rw (σ := σ) (r := nI (mst (sP σ) m (sN σ) (pB (sP σ))).2.2) iM g2 ?_ ?_
  · obtain ⟨μ1, e1, i1, s1⟩ := x_remember iX g
    obtain ⟨μ2, e2, z1, z2, z3⟩ := x_min (μ0 := μ1) (P := sP σ) (N := sN σ) i1.pr hv rfl i1.1.now hQ hl (by omega) (pB (sP σ)) 0 FU μ1 (by omega) (by rw [FU_eq]; omega) i1.sr i1.2.2.2.2.1.2 same.rf
    rw [show nI (mst (sP σ) m (sN σ) 0).2.2 = (0 : Int32) from rfl, show nI 0 = (0 : Int32) from rfl] at e2
    refine ⟨μ2, ?_, i1.toN g1 (z3.mono (fun b hb => by omega)) z1 z2, (s1.mono (fun b hb => by omega)).trans (z3.mono (fun b hb => by omega))⟩
    simp only [bd_n, gd_n, ca2_n, ca_n, nbtF, pbfT, Bool.not_true, Bool.not_false, if_true, if_false, m_X6_minute, iz6, iz137, iX.1.now, iX.1.past, e1, e2]
  · intro μ iM
    have iM' := iM.thr 0
    obtain ⟨μ1, e1, i1, s1⟩ := y_note iM' g
    obtain ⟨μ2, e2, z1, z2⟩ := y_min (σ := wA σ (psh (sA σ) (sN σ))) (P := sP σ) (N := sN σ) (m := m) rfl hv hQ hl (by omega) (pB (sP σ)) 0 FU μ1 (by omega) (by rw [FU_eq]; omega) i1
    rw [show nI (mst (sP σ) m (sN σ) 0).2.2 = (0 : Int32) from rfl, show nI 0 = (0 : Int32) from rfl] at e2
    refine ⟨μ2, ?_, z1, (thr_same.trans s1).trans z2⟩
    simp only [bd_n, gd_n, ca2_n, ca_n, nbtF, pbfT, Bool.not_true, Bool.not_false, if_true, if_false, m_X7_minute, iz7, e1, e2]

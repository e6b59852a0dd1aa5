/-! the reference reads -/
def MD (μ : Mu) (t : Nat → Nat) (L i : Nat) (D : Pl) : Prop := Mp μ ∧ gI μ 414 2 = nI L ∧ gI μ 414 3 = nI i ∧ gI μ 414 10 = nI (pW D) ∧ gI μ 414 11 = nI (pB D) ∧ gI μ 414 12 = nI (pP D) ∧ (∀ b, b < pB D → gI μ 419 b = nI (pF D b) ∧ gI μ 420 b = nI (pE D b)) ∧ (∀ p, p < pP D → gI μ 421 p = nI (pT D p)) ∧ ∀ j, j < L → gI μ 415 j = nI (t j)
def Rok (μ μ' : Mu) : Prop := (∀ x k, gR μ' x k = gR μ x k) ∧ (∀ x k, gJ μ' x k = gJ μ x k) ∧ (∀ x k, x ≠ 414 → x ≠ 419 → x ≠ 420 → x ≠ 421 → gI μ' x k = gI μ x k) ∧ ∀ k, k ≠ 3 → k ≠ 10 → k ≠ 11 → k ≠ 12 → gI μ' 414 k = gI μ 414 k
theorem Rok.rf {μ : Mu} : Rok μ μ := ⟨fun _ _ => rfl, fun _ _ => rfl, fun _ _ _ _ _ _ => rfl, fun _ _ _ _ _ => rfl⟩
theorem Rok.tr {μ μ1 μ2 : Mu} (h : Rok μ μ1) (h2 : Rok μ1 μ2) : Rok μ μ2 := ⟨fun x k => (h2.1 x k).trans (h.1 x k), fun x k => (h2.2.1 x k).trans (h.2.1 x k), fun x k a b c d => (h2.2.2.1 x k a b c d).trans (h.2.2.1 x k a b c d), fun k a b c d => (h2.2.2.2 k a b c d).trans (h.2.2.2 k a b c d)⟩
theorem Rok.wr {μ : Mu} {a k : Nat} {v : Int32} (h : a = 414 ∧ (k = 3 ∨ k = 10 ∨ k = 11 ∨ k = 12) ∨ a = 419 ∨ a = 420 ∨ a = 421) : Rok μ (sI μ a k v) := by
  refine ⟨fun _ _ => rfl, fun _ _ => rfl, fun x j h1 h2 h3 h4 => by rw [gI_sI, if_neg (by omega)], fun j h1 h2 h3 h4 => ?_⟩
  rw [gI_sI]
  by_cases e : 414 = a
  · rw [if_pos e, if_neg (by omega)]
  · rw [if_neg e]
def okF (lo x : Nat) : Bool := decide (48 + lo ≤ x) && decide (x ≤ 57)
theorem okF_in : ∀ lo, lo < 2 → ∀ x, x < 256 → inL ((nI x - 48).toInt64) ((nI lo).toInt64) ((9 : Int32).toInt64) = okF lo x := by decide +kernel
theorem okF_t {lo x : Nat} (h : okF lo x = true) : 48 + lo ≤ x ∧ x ≤ 57 := by
  unfold okF at h
  simp only [Bool.and_eq_true, decide_eq_true_eq] at h
  exact h
theorem okF_D {x : Nat} : okF 0 x = isD x := rfl
theorem okF_1 {x : Nat} (h : okF 1 x = false) : isD x = false ∨ x = 48 := by
  unfold okF at h
  unfold isD
  by_cases c : x = 48
  · exact Or.inr c
  · refine Or.inl ?_
    rw [← h]
    by_cases c2 : 48 ≤ x
    · rw [decide_eq_true c2, decide_eq_true (show 48 + 1 ≤ x by omega)]
    · rw [decide_eq_false c2, decide_eq_false (show ¬ 48 + 1 ≤ x by omega)]
theorem Mp.tx {μ : Mu} (h : Mp μ) : gR μ 414 1 = 415 := h.1
theorem y_figE {μ : Mu} {L : Nat} {lo : Int32} (e2 : gI μ 414 2 = nI L) (e3 : gI μ 414 3 = nI L) : m_X7_figure SH 414 lo 9 μ = some (-9, μ) := by
  unfold m_X7_figure
  rw [gd_of iz7, e2, e3, if_pos rfl]
theorem y_figN {μ : Mu} {L i lo x : Nat} (hp : Mp μ) (e2 : gI μ 414 2 = nI L) (e3 : gI μ 414 3 = nI i) (hi : i < L) (hL : L ≤ 24) (ht : gI μ 415 i = nI x) (hx : x < 256) (hlo : lo < 2) (ho : okF lo x = false) : m_X7_figure SH 414 (nI lo) 9 μ = some (-9, μ) := by
  have u1 : (nI i = nI L) = False := eq_false (fun e => by have := (nI_eq (by omega) (by omega)).mp e; omega)
  have x1 : ix SH 8 415 (nI i) = true := ix_of (n := 24) rfl (by omega) (by decide)
  have p1 : (nI i).toNatClampNeg = i := nI_clamp (by omega)
  simp only [bd_n, gd_n, ca2_n, ca_n, nbtF, pbfT, Bool.not_true, Bool.not_false, if_true, if_false, m_X7_figure, iz7, e2, e3, u1, hp.tx, x1, p1, ht, y_in, okF_in lo hlo x hx, ho]
theorem y_figY {μ : Mu} {L i lo x : Nat} (hp : Mp μ) (e2 : gI μ 414 2 = nI L) (e3 : gI μ 414 3 = nI i) (hi : i < L) (hL : L ≤ 24) (ht : gI μ 415 i = nI x) (hx : x < 256) (hlo : lo < 2) (ho : okF lo x = true) : m_X7_figure SH 414 (nI lo) 9 μ = some (nI (x - 48), sI μ 414 3 (nI (i + 1))) := by
  have hx48 := okF_t ho
  have u1 : (nI i = nI L) = False := eq_false (fun e => by have := (nI_eq (by omega) (by omega)).mp e; omega)
  have x1 : ix SH 8 415 (nI i) = true := ix_of (n := 24) rfl (by omega) (by decide)
  have p1 : (nI i).toNatClampNeg = i := nI_clamp (by omega)
  have g1 : gI (sI μ 414 3 (nI (i + 1))) 414 3 = nI (i + 1) := by rw [gI_sI, if_pos rfl, if_pos rfl]
  have g2 : gI (sI μ 414 3 (nI (i + 1))) 415 i = nI x := by rw [gI_sI, if_neg (by decide)]; exact ht
  have u2 : nI (i + 1) - 1 = nI i := pk_sub (a := i + 1) (b := 1) (by omega)
  simp only [bd_n, gd_n, ca2_n, ca_n, nbtF, pbfT, Bool.not_true, Bool.not_false, if_true, if_false, m_X7_figure, iz7, e2, e3, u1, hp.tx, x1, p1, ht, y_in, okF_in lo hlo x hx, ho, show nI i + 1 = nI (i + 1) from nI_add _ 1, gR_sI, g1, u2, g2]
  rw [sub48 (by omega)]
theorem Mp.r3 {μ : Mu} (h : Mp μ) : gR μ 414 13 = 419 ∧ gR μ 414 14 = 420 ∧ gR μ 414 15 = 421 := ⟨h.2.2.2.2.1, h.2.2.2.2.2.1, h.2.2.2.2.2.2.1⟩
theorem MD.pl {μ : Mu} {t : Nat → Nat} {L i j : Nat} {D : Pl} (h : MD μ t L i D) : MD (sI μ 414 3 (nI j)) t L j D := by
  obtain ⟨h0, h1, h2, h3, h4, h5, h6, h7, h8⟩ := h
  have a : ∀ k, k ≠ 3 → gI (sI μ 414 3 (nI j)) 414 k = gI μ 414 k := fun k hk => by rw [gI_sI, if_pos rfl, if_neg hk]
  have b : ∀ x k, x ≠ 414 → gI (sI μ 414 3 (nI j)) x k = gI μ x k := fun x k hk => by rw [gI_sI, if_neg hk]
  exact ⟨h0.mono (fun _ => rfl), by rw [a _ (by decide)]; exact h1, by rw [gI_sI, if_pos rfl, if_pos rfl], by rw [a _ (by decide)]; exact h3, by rw [a _ (by decide)]; exact h4, by rw [a _ (by decide)]; exact h5, fun q hq => by rw [b _ _ (by decide), b _ _ (by decide)]; exact h6 q hq, fun q hq => by rw [b _ _ (by decide)]; exact h7 q hq, fun q hq => by rw [b _ _ (by decide)]; exact h8 q hq⟩
def FailA (μ : Mu) (t : Nat → Nat) (L d i : Nat) (D : Pl) : Prop := ∃ μ' j, m_X7_readPart SH 414 μ = some (0, μ') ∧ gI μ' 414 3 = nI j ∧ (rdr t d i 3 D).1 = nI j ∧ j ≤ L ∧ Rok μ μ'
def PassB (μ : Mu) (t : Nat → Nat) (L d i : Nat) (D : Pl) : Prop := ∃ μ' d' i' D', m_X7_readPart SH 414 μ = some (1, μ') ∧ d' < d ∧ i' + d' = L ∧ MD μ' t L i' D' ∧ DV 3 D' ∧ rdr t d i 3 D = rdr t d' i' 3 D' ∧ Rok μ μ'
theorem y_part {μ : Mu} {t : Nat → Nat} {L d i : Nat} {D : Pl} (h : MD μ t L i D) (hV : DV 3 D) (hL : L ≤ 24) (ht : ∀ j, j < L → t j < 256) (hi : i + (d + 1) = L) : FailA μ t L (d + 1) i D ∨ PassB μ t L (d + 1) i D := by
  obtain ⟨h0, h1, h2, h3, h4, h5, h6, h7, h8⟩ := id h
  obtain ⟨v0, v1, v2, v3, v4, v5, v6, v7, v8⟩ := id hV
  have x1 : ix SH 8 415 (nI i) = true := ix_of (n := 24) rfl (by omega) (by decide)
  have p1 : (nI i).toNatClampNeg = i := nI_clamp (by omega)
  have LX : ∀ k, k < 2 ^ 31 → (nI (t i) = nI k) = (t i = k) := fun k hk => eqL (by have := ht i (by omega); omega) hk
  have x83 : (nI (t i) = 83) = (t i = 83) := LX 83 (by decide)
  have x80 : (nI (t i) = 80) = (t i = 80) := LX 80 (by decide)
  have ep : nI i + 1 = nI (i + 1) := nI_add _ 1
  have m1 : MD (sI μ 414 3 (nI (i + 1))) t L (i + 1) D := h.pl
  have z9 : ((-9 : Int32) = -9) = True := eq_true rfl
  by_cases c : t i = 83 ∧ pB D < 2
  · have x83t : (nI (t i) = 83) = True := x83.trans (eq_true c.1)
    have u2 : ((2 : Int32) ≤ nI (pB D)) = False := eq_false (nleL 2 c.2 (by decide))
    have S1 : stp 3 D (t i) = some (4, dB D) := by unfold stp; rw [if_neg (by decide), if_pos rfl, if_pos c]
    cases d with
    | zero =>
      refine Or.inl ⟨_, i + 1, ?_, m1.2.2.1, by rw [rdr_s S1]; rfl, by omega, Rok.wr (by omega)⟩
      have e : m_X7_figure SH 414 0 9 (sI μ 414 3 (nI (i + 1))) = some (-9, sI μ 414 3 (nI (i + 1))) := y_figE m1.2.1 (by rw [m1.2.2.1]; congr 1)
      simp only [bd_n, gd_n, ca2_n, ca_n, nbtF, pbfT, Bool.not_true, Bool.not_false, if_true, if_false, m_X7_readPart, iz7, h0.tx, h2, x1, p1, h8 i (by omega), x83t, h4, u2, ep, e, m_X7_readPart_b60]
    | succ d =>
      have hy := ht (i + 1) (by omega)
      cases o1 : okF 0 (t (i + 1)) with
      | false =>
        have S2 : stp 4 (dB D) (t (i + 1)) = none := by unfold stp; rw [if_neg (by decide), if_neg (by decide), ← okF_D, o1, if_neg (by decide)]
        refine Or.inl ⟨_, i + 1, ?_, m1.2.2.1, by rw [rdr_s S1, rdr_n S2], by omega, Rok.wr (by omega)⟩
        have e : m_X7_figure SH 414 0 9 (sI μ 414 3 (nI (i + 1))) = some (-9, sI μ 414 3 (nI (i + 1))) := y_figN (lo := 0) m1.1 m1.2.1 m1.2.2.1 (by omega) hL (m1.2.2.2.2.2.2.2.2 (i + 1) (by omega)) hy (by omega) o1
        simp only [bd_n, gd_n, ca2_n, ca_n, nbtF, pbfT, Bool.not_true, Bool.not_false, if_true, if_false, m_X7_readPart, iz7, h0.tx, h2, x1, p1, h8 i (by omega), x83t, h4, u2, ep, e, m_X7_readPart_b60]
      | true =>
        have hyy := okF_t o1
        have e1 : m_X7_figure SH 414 0 9 (sI μ 414 3 (nI (i + 1))) = some (nI (t (i + 1) - 48), sI (sI μ 414 3 (nI (i + 1))) 414 3 (nI (i + 1 + 1))) := y_figY (lo := 0) m1.1 m1.2.1 m1.2.2.1 (by omega) hL (m1.2.2.2.2.2.2.2.2 (i + 1) (by omega)) hy (by omega) o1
        have m2 : MD (sI (sI μ 414 3 (nI (i + 1))) 414 3 (nI (i + 1 + 1))) t L (i + 1 + 1) D := m1.pl
        have n1 : (nI (t (i + 1) - 48) = -9) = False := eq_false (n9 (by omega))
        have S2 : stp 4 (dB D) (t (i + 1)) = some (5, dF (dB D) (t (i + 1) - 48)) := by unfold stp; rw [if_neg (by decide), if_neg (by decide), ← okF_D, if_pos o1, if_neg (by decide), if_pos rfl]
        have R2 : Rok μ (sI (sI μ 414 3 (nI (i + 1))) 414 3 (nI (i + 1 + 1))) := (Rok.wr (by omega)).tr (Rok.wr (by omega))
        cases d with
        | zero =>
          refine Or.inl ⟨_, i + 1 + 1, ?_, m2.2.2.1, by rw [rdr_s S1, rdr_s S2]; rfl, by omega, R2⟩
          have e2 : m_X7_figure SH 414 1 9 (sI (sI μ 414 3 (nI (i + 1))) 414 3 (nI (i + 1 + 1))) = some (-9, _) := y_figE m2.2.1 (by rw [m2.2.2.1]; congr 1)
          simp only [bd_n, gd_n, ca2_n, ca_n, nbtF, pbfT, Bool.not_true, Bool.not_false, if_true, if_false, m_X7_readPart, iz7, h0.tx, h2, x1, p1, h8 i (by omega), x83t, h4, u2, ep, e1, n1, e2, m_X7_readPart_b60]
        | succ d =>
          have hz := ht (i + 1 + 1) (by omega)
          cases o2 : okF 1 (t (i + 1 + 1)) with
          | false =>
            have S3 : stp 5 (dF (dB D) (t (i + 1) - 48)) (t (i + 1 + 1)) = none := by
              unfold stp
              rw [if_neg (by decide), if_neg (by decide)]
              rcases okF_1 o2 with q | q
              · rw [q, if_neg (by decide)]
              · rw [q, if_pos (by decide), if_neg (by decide), if_neg (by decide), if_pos rfl, if_pos rfl]
            refine Or.inl ⟨_, i + 1 + 1, ?_, m2.2.2.1, by rw [rdr_s S1, rdr_s S2, rdr_n S3], by omega, R2⟩
            have e2 : m_X7_figure SH 414 1 9 (sI (sI μ 414 3 (nI (i + 1))) 414 3 (nI (i + 1 + 1))) = some (-9, _) := y_figN (lo := 1) m2.1 m2.2.1 m2.2.2.1 (by omega) hL (m2.2.2.2.2.2.2.2.2 (i + 1 + 1) (by omega)) hz (by omega) o2
            simp only [bd_n, gd_n, ca2_n, ca_n, nbtF, pbfT, Bool.not_true, Bool.not_false, if_true, if_false, m_X7_readPart, iz7, h0.tx, h2, x1, p1, h8 i (by omega), x83t, h4, u2, ep, e1, n1, e2, m_X7_readPart_b60]
          | true =>
            have hzz := okF_t o2
            have e2 : m_X7_figure SH 414 1 9 (sI (sI μ 414 3 (nI (i + 1))) 414 3 (nI (i + 1 + 1))) = some (nI (t (i + 1 + 1) - 48), sI (sI (sI μ 414 3 (nI (i + 1))) 414 3 (nI (i + 1 + 1))) 414 3 (nI (i + 1 + 1 + 1))) := y_figY (lo := 1) m2.1 m2.2.1 m2.2.2.1 (by omega) hL (m2.2.2.2.2.2.2.2.2 (i + 1 + 1) (by omega)) hz (by omega) o2
            obtain ⟨ν, hν⟩ : ∃ ν, ν = sI (sI (sI μ 414 3 (nI (i + 1))) 414 3 (nI (i + 1 + 1))) 414 3 (nI (i + 1 + 1 + 1)) := ⟨_, rfl⟩
            have m3 : MD ν t L (i + 1 + 1 + 1) D := by rw [hν]; exact m2.pl
            have R3 : Rok μ ν := by rw [hν]; exact R2.tr (Rok.wr (by omega))
            rw [← hν] at e2
            have n2 : (nI (t (i + 1 + 1) - 48) = -9) = False := eq_false (n9 (by omega))
            have S3 : stp 5 (dF (dB D) (t (i + 1) - 48)) (t (i + 1 + 1)) = some (3, dE (dF (dB D) (t (i + 1) - 48)) (t (i + 1 + 1) - 48)) := by
              unfold stp
              have hd : isD (t (i + 1 + 1)) = true := by
                unfold isD
                rw [decide_eq_true (show 48 ≤ t (i + 1 + 1) by omega), decide_eq_true (show t (i + 1 + 1) ≤ 57 by omega)]
                rfl
              rw [if_neg (by decide), if_neg (by decide), if_pos hd, if_neg (by decide), if_neg (by decide), if_pos rfl, if_neg (by omega)]
            obtain ⟨q0, q1, q2, q3, q4, q5, q6, q7, q8⟩ := id m3
            have V3 : DV 3 (dE (dF (dB D) (t (i + 1) - 48)) (t (i + 1 + 1) - 48)) := stp_V (stp_V (stp_V hV S1) S2) S3
            refine Or.inr ⟨sI (sI (sI ν 419 (pB D) (nI (t (i + 1) - 48))) 420 (pB D) (nI (t (i + 1 + 1) - 48))) 414 11 (nI (pB D + 1)), d, i + 1 + 1 + 1, dE (dF (dB D) (t (i + 1) - 48)) (t (i + 1 + 1) - 48), ?_, by omega, by omega, ⟨q0.mono (fun _ => rfl), ?_, ?_, ?_, ?_, ?_, fun b hb => ⟨?_, ?_⟩, fun p hp => ?_, fun j hj => ?_⟩, V3, by rw [rdr_s S1, rdr_s S2, rdr_s S3], R3.tr ((Rok.wr (by omega)).tr ((Rok.wr (by omega)).tr (Rok.wr (by omega))))⟩
            · have y1 : ix SH 8 419 (nI (pB D)) = true := ix_of (n := 2) rfl (by omega) (by decide)
              have y2 : ix SH 8 420 (nI (pB D)) = true := ix_of (n := 2) rfl (by omega) (by decide)
              have y3 : (nI (pB D)).toNatClampNeg = pB D := nI_clamp (by omega)
              have y4 : ∀ v, gI (sI ν 419 (pB D) v) 414 11 = nI (pB D) := fun v => by rw [gI_sI, if_neg (by decide)]; exact q4
              have y5 : ∀ v w, gI (sI (sI ν 419 (pB D) v) 420 (pB D) w) 414 11 = nI (pB D) := fun v w => by rw [gI_sI, if_neg (by decide)]; exact y4 v
              simp only [bd_n, gd_n, ca2_n, ca_n, nbtF, pbfT, Bool.not_true, Bool.not_false, if_true, if_false, m_X7_readPart, iz7, h0.tx, h2, x1, p1, h8 i (by omega), x83t, h4, u2, ep, e1, n1, e2, m_X7_readPart_b60, n2, q0.r3.1, q0.r3.2.1, gR_sI, q4, y1, y2, y3, y4, y5, show nI (pB D) + 1 = nI (pB D + 1) from nI_add _ 1]
            · rw [gI_sI, if_pos rfl, if_neg (by decide), gI_sI, if_neg (by decide), gI_sI, if_neg (by decide)]; exact q1
            · rw [gI_sI, if_pos rfl, if_neg (by decide), gI_sI, if_neg (by decide), gI_sI, if_neg (by decide)]; exact q2
            · rw [gI_sI, if_pos rfl, if_neg (by decide), gI_sI, if_neg (by decide), gI_sI, if_neg (by decide)]; exact q3
            · rw [gI_sI, if_pos rfl, if_pos rfl]; rfl
            · rw [gI_sI, if_pos rfl, if_neg (by decide), gI_sI, if_neg (by decide), gI_sI, if_neg (by decide)]; exact q5
            · have hb : b < pB D + 1 := hb
              show _ = nI (updN D.2.2.2.1 (pB D) (t (i + 1) - 48) b)
              rw [gI_sI, if_neg (by decide), gI_sI, if_neg (by decide), gI_sI, if_pos rfl]
              by_cases e : b = pB D
              · rw [if_pos e, e, updN_s]
              · rw [if_neg e, updN_n e]; exact (q6 b (by omega)).1
            · have hb : b < pB D + 1 := hb
              show _ = nI (updN D.2.2.2.2.1 (pB D) (t (i + 1 + 1) - 48) b)
              rw [gI_sI, if_neg (by decide), gI_sI, if_pos rfl]
              by_cases e : b = pB D
              · rw [if_pos e, e, updN_s]
              · rw [if_neg e, updN_n e, gI_sI, if_neg (by decide)]; exact (q6 b (by omega)).2
            · rw [gI_sI, if_neg (by decide), gI_sI, if_neg (by decide), gI_sI, if_neg (by decide)]; exact q7 p hp
            · rw [gI_sI, if_neg (by decide), gI_sI, if_neg (by decide), gI_sI, if_neg (by decide)]; exact q8 j hj
  have E : m_X7_readPart SH 414 μ = m_X7_readPart_b101 SH 414 (nI (t i)) μ := by
    by_cases e83 : t i = 83
    · have x83t : (nI (t i) = 83) = True := x83.trans (eq_true e83)
      have u2 : ((2 : Int32) ≤ nI (pB D)) = True := eq_true (leL 2 (by omega) (by omega))
      simp only [bd_n, gd_n, ca2_n, ca_n, nbtF, pbfT, Bool.not_true, Bool.not_false, if_true, if_false, m_X7_readPart, iz7, h0.tx, h2, x1, p1, h8 i (by omega), x83t, h4, u2]
    · have x83f : (nI (t i) = 83) = False := x83.trans (eq_false e83)
      simp only [bd_n, gd_n, ca2_n, ca_n, nbtF, pbfT, Bool.not_true, Bool.not_false, if_true, if_false, m_X7_readPart, iz7, h0.tx, h2, x1, p1, h8 i (by omega), x83f]
  by_cases c' : t i = 80 ∧ pP D < 5
  · have x80t : (nI (t i) = 80) = True := x80.trans (eq_true c'.1)
    have u5 : ((5 : Int32) ≤ nI (pP D)) = False := eq_false (nleL 5 c'.2 (by decide))
    have S1 : stp 3 D (t i) = some (6, dP D) := by unfold stp; rw [if_neg (by decide), if_pos rfl, if_neg c, if_pos c']
    cases d with
    | zero =>
      refine Or.inl ⟨_, i + 1, ?_, m1.2.2.1, by rw [rdr_s S1]; rfl, by omega, Rok.wr (by omega)⟩
      have e : m_X7_figure SH 414 0 9 (sI μ 414 3 (nI (i + 1))) = some (-9, sI μ 414 3 (nI (i + 1))) := y_figE m1.2.1 (by rw [m1.2.2.1]; congr 1)
      rw [E]
      simp only [bd_n, gd_n, ca2_n, ca_n, nbtF, pbfT, Bool.not_true, Bool.not_false, if_true, if_false, m_X7_readPart_b101, iz7, x80t, h5, u5, h2, ep, e]
    | succ d =>
      have hy := ht (i + 1) (by omega)
      cases o1 : okF 0 (t (i + 1)) with
      | false =>
        have S2 : stp 6 (dP D) (t (i + 1)) = none := by unfold stp; rw [if_neg (by decide), if_neg (by decide), ← okF_D, o1, if_neg (by decide)]
        refine Or.inl ⟨_, i + 1, ?_, m1.2.2.1, by rw [rdr_s S1, rdr_n S2], by omega, Rok.wr (by omega)⟩
        have e : m_X7_figure SH 414 0 9 (sI μ 414 3 (nI (i + 1))) = some (-9, sI μ 414 3 (nI (i + 1))) := y_figN (lo := 0) m1.1 m1.2.1 m1.2.2.1 (by omega) hL (m1.2.2.2.2.2.2.2.2 (i + 1) (by omega)) hy (by omega) o1
        rw [E]
        simp only [bd_n, gd_n, ca2_n, ca_n, nbtF, pbfT, Bool.not_true, Bool.not_false, if_true, if_false, m_X7_readPart_b101, iz7, x80t, h5, u5, h2, ep, e]
      | true =>
        have hyy := okF_t o1
        have e1 : m_X7_figure SH 414 0 9 (sI μ 414 3 (nI (i + 1))) = some (nI (t (i + 1) - 48), sI (sI μ 414 3 (nI (i + 1))) 414 3 (nI (i + 1 + 1))) := y_figY (lo := 0) m1.1 m1.2.1 m1.2.2.1 (by omega) hL (m1.2.2.2.2.2.2.2.2 (i + 1) (by omega)) hy (by omega) o1
        obtain ⟨ν, hν⟩ : ∃ ν, ν = sI (sI μ 414 3 (nI (i + 1))) 414 3 (nI (i + 1 + 1)) := ⟨_, rfl⟩
        have m2 : MD ν t L (i + 1 + 1) D := by rw [hν]; exact m1.pl
        have R2 : Rok μ ν := by rw [hν]; exact (Rok.wr (by omega)).tr (Rok.wr (by omega))
        rw [← hν] at e1
        have n1 : (nI (t (i + 1) - 48) = -9) = False := eq_false (n9 (by omega))
        have S2 : stp 6 (dP D) (t (i + 1)) = some (3, dT (dP D) (t (i + 1) - 48)) := by unfold stp; rw [if_neg (by decide), if_neg (by decide), ← okF_D, if_pos o1, if_neg (by decide), if_neg (by decide), if_neg (by decide)]
        obtain ⟨q0, q1, q2, q3, q4, q5, q6, q7, q8⟩ := id m2
        have V3 : DV 3 (dT (dP D) (t (i + 1) - 48)) := stp_V (stp_V hV S1) S2
        refine Or.inr ⟨sI (sI ν 421 (pP D) (nI (t (i + 1) - 48))) 414 12 (nI (pP D + 1)), d, i + 1 + 1, dT (dP D) (t (i + 1) - 48), ?_, by omega, by omega, ⟨q0.mono (fun _ => rfl), ?_, ?_, ?_, ?_, ?_, fun b hb => ⟨?_, ?_⟩, fun p hp => ?_, fun j hj => ?_⟩, V3, by rw [rdr_s S1, rdr_s S2], R2.tr ((Rok.wr (by omega)).tr (Rok.wr (by omega)))⟩
        · have y1 : ix SH 8 421 (nI (pP D)) = true := ix_of (n := 5) rfl (by omega) (by decide)
          have y3 : (nI (pP D)).toNatClampNeg = pP D := nI_clamp (by omega)
          have y4 : ∀ v, gI (sI ν 421 (pP D) v) 414 12 = nI (pP D) := fun v => by rw [gI_sI, if_neg (by decide)]; exact q5
          rw [E]
          simp only [bd_n, gd_n, ca2_n, ca_n, nbtF, pbfT, Bool.not_true, Bool.not_false, if_true, if_false, m_X7_readPart_b101, iz7, x80t, h5, u5, h2, ep, e1, n1, q0.r3.2.2, q5, y1, y3, y4, show nI (pP D) + 1 = nI (pP D + 1) from nI_add _ 1]
        · rw [gI_sI, if_pos rfl, if_neg (by decide), gI_sI, if_neg (by decide)]; exact q1
        · rw [gI_sI, if_pos rfl, if_neg (by decide), gI_sI, if_neg (by decide)]; exact q2
        · rw [gI_sI, if_pos rfl, if_neg (by decide), gI_sI, if_neg (by decide)]; exact q3
        · rw [gI_sI, if_pos rfl, if_neg (by decide), gI_sI, if_neg (by decide)]; exact q4
        · rw [gI_sI, if_pos rfl, if_pos rfl]; rfl
        · rw [gI_sI, if_neg (by decide), gI_sI, if_neg (by decide)]; exact (q6 b hb).1
        · rw [gI_sI, if_neg (by decide), gI_sI, if_neg (by decide)]; exact (q6 b hb).2
        · have hp : p < pP D + 1 := hp
          show _ = nI (updN D.2.2.2.2.2 (pP D) (t (i + 1) - 48) p)
          rw [gI_sI, if_neg (by decide), gI_sI, if_pos rfl]
          by_cases e : p = pP D
          · rw [if_pos e, e, updN_s]
          · rw [if_neg e, updN_n e]; exact q7 p (by omega)
        · rw [gI_sI, if_neg (by decide), gI_sI, if_neg (by decide)]; exact q8 j hj
  · have S1 : stp 3 D (t i) = none := by unfold stp; rw [if_neg (by decide), if_pos rfl, if_neg c, if_neg c']
    refine Or.inl ⟨μ, i, ?_, h2, by rw [rdr_n S1], by omega, Rok.rf⟩
    rw [E]
    by_cases e80 : t i = 80
    · have x80t : (nI (t i) = 80) = True := x80.trans (eq_true e80)
      have u5 : ((5 : Int32) ≤ nI (pP D)) = True := eq_true (leL 5 (by omega) (by omega))
      simp only [bd_n, gd_n, ca2_n, ca_n, nbtF, pbfT, Bool.not_true, Bool.not_false, if_true, if_false, m_X7_readPart_b101, iz7, x80t, h5, u5]
    · have x80f : (nI (t i) = 80) = False := x80.trans (eq_false e80)
      simp only [bd_n, gd_n, ca2_n, ca_n, nbtF, pbfT, Bool.not_true, Bool.not_false, if_true, if_false, m_X7_readPart_b101, iz7, x80f]
theorem y_rloop {μ0 : Mu} {t : Nat → Nat} {L : Nat} (hL : L ≤ 24) (ht : ∀ j, j < L → t j < 256) : ∀ (n d i F : Nat) (D : Pl) (μ : Mu), d ≤ n → i + d = L → d < F → MD μ t L i D → DV 3 D → Rok μ0 μ → ∃ μ' j, m_X7_readFair_h62 SH 414 F μ = some ((rdr t d i 3 D).1, μ') ∧ ((rdr t d i 3 D).1 = -9 → MD μ' t L j (rdr t d i 3 D).2) ∧ Rok μ0 μ' := by
  intro n
  induction n with
  | zero =>
    intro d i F D μ hn hi hF h hV hk
    obtain ⟨F, rfl⟩ : ∃ g, F = g + 1 := ⟨F - 1, by omega⟩
    have e : d = 0 := by omega
    subst e
    refine ⟨μ, i, ?_, fun _ => h, hk⟩
    show m_X7_readFair_b62 SH (m_X7_readFair_h62 SH 414 F) 414 μ = _
    unfold m_X7_readFair_b62
    rw [gd_of iz7, h.2.1, h.2.2.1, if_pos (by rw [show i = L by omega]; exact Int32.le_refl _)]
    rfl
  | succ n ih =>
    intro d i F D μ hn hi hF h hV hk
    obtain ⟨F, rfl⟩ : ∃ g, F = g + 1 := ⟨F - 1, by omega⟩
    cases d with
    | zero =>
      refine ⟨μ, i, ?_, fun _ => h, hk⟩
      show m_X7_readFair_b62 SH (m_X7_readFair_h62 SH 414 F) 414 μ = _
      unfold m_X7_readFair_b62
      rw [gd_of iz7, h.2.1, h.2.2.1, if_pos (by rw [show i = L by omega]; exact Int32.le_refl _)]
      rfl
    | succ d =>
      have u1 : (nI L ≤ nI i) = False := eq_false (nle_nI (by omega) (by omega))
      show ∃ μ' j, m_X7_readFair_b62 SH (m_X7_readFair_h62 SH 414 F) 414 μ = _ ∧ _
      rcases y_part h hV hL ht hi with ⟨μ1, j, e1, e2, e3, e4, k1⟩ | ⟨μ1, d', i', D', e1, e2, e3, e4, e5, e6, k1⟩
      · refine ⟨μ1, 0, ?_, fun e => ?_, hk.tr k1⟩
        · rw [e3]
          simp only [bd_n, gd_n, ca2_n, ca_n, nbtF, pbfT, Bool.not_true, Bool.not_false, if_true, if_false, m_X7_readFair_b62, iz7, h.2.1, h.2.2.1, u1, e1, e2]
        · rw [e3] at e
          exact absurd e (n9 (by omega))
      · obtain ⟨μ', j, e', z⟩ := ih d' i' F D' μ1 (by omega) e3 (by omega) e4 e5 (hk.tr k1)
        refine ⟨μ', j, ?_, by rw [e6]; exact z.1, z.2⟩
        rw [e6, ← e']
        simp only [bd_n, gd_n, ca2_n, ca_n, nbtF, pbfT, Bool.not_true, Bool.not_false, if_true, if_false, m_X7_readFair_b62, iz7, h.2.1, h.2.2.1, u1, e1, show ((1 : Int32) = 0) = False from eq_false (by decide)]
theorem y_readFair {μ : Mu} {t : Nat → Nat} {L : Nat} (hp : Mp μ) (e2 : gI μ 414 2 = nI L) (hL : L ≤ 24) (ht : ∀ i, i < L → gI μ 415 i = nI (t i) ∧ t i < 256) : ∃ μ' j, m_X7_readFair SH 414 μ = some ((rdr t L 0 1 D0).1, μ') ∧ ((rdr t L 0 1 D0).1 = -9 → MD μ' t L j (rdr t L 0 1 D0).2) ∧ Rok μ μ' := by
  obtain ⟨ν, hν⟩ : ∃ ν, ν = sI (sI (sI μ 414 3 0) 414 11 0) 414 12 0 := ⟨_, rfl⟩
  have R0 : Rok μ ν := by rw [hν]; exact (Rok.wr (by omega)).tr ((Rok.wr (by omega)).tr (Rok.wr (by omega)))
  have v2 : gI ν 414 2 = nI L := by rw [R0.2.2.2 2 (by decide) (by decide) (by decide) (by decide)]; exact e2
  have vp : Mp ν := hp.mono (fun k => R0.1 _ k)
  have vt : ∀ j, j < L → gI ν 415 j = nI (t j) := fun j hj => by rw [R0.2.2.1 _ _ (by decide) (by decide) (by decide) (by decide)]; exact (ht j hj).1
  cases L with
  | zero =>
    refine ⟨ν, 0, ?_, fun e => ?_, R0⟩
    · simp only [bd_n, gd_n, ca2_n, ca_n, nbtF, pbfT, Bool.not_true, Bool.not_false, if_true, if_false, m_X7_readFair, iz7, ← hν, v2, show (nI 0 = (0 : Int32)) = True from eq_true rfl]
      rfl
    · have e : (if (1 : Nat) = 3 then (-9 : Int32) else nI 0) = -9 := e
      exact absurd e (by decide)
  | succ L =>
    have u0 : (nI (L + 1) = (0 : Int32)) = False := eq_false (fun e => by have := (nI_eq (b := 0) (by omega) (by decide)).mp e; omega)
    have x0 : ix SH 8 415 0 = true := rfl
    have x66 : (nI (t 0) = 66) = (t 0 = 66) := eqL (b := 66) (by have := (ht 0 (by omega)).2; omega) (by decide)
    by_cases c : t 0 = 66
    · have x66t : (nI (t 0) = 66) = True := x66.trans (eq_true c)
      have S1 : stp 1 D0 (t 0) = some (2, D0) := by unfold stp; rw [if_pos rfl, if_pos c]
      rw [rdr_s S1]
      have R1 : Rok μ (sI ν 414 3 (nI 1)) := R0.tr (Rok.wr (by omega))
      have w2 : gI (sI ν 414 3 (nI 1)) 414 2 = nI (L + 1) := by rw [gI_sI, if_pos rfl, if_neg (by decide)]; exact v2
      have w3 : gI (sI ν 414 3 (nI 1)) 414 3 = nI 1 := by rw [gI_sI, if_pos rfl, if_pos rfl]
      have wp : Mp (sI ν 414 3 (nI 1)) := vp.mono (fun _ => rfl)
      have fail : ∀ (r : Int32 × Pl), r.1 = nI 1 → m_X7_figure SH 414 0 9 (sI ν 414 3 (nI 1)) = some (-9, sI ν 414 3 (nI 1)) → ∃ μ' j, m_X7_readFair SH 414 μ = some (r.1, μ') ∧ (r.1 = -9 → MD μ' t (L + 1) j r.2) ∧ Rok μ μ' := by
        intro r hr e
        refine ⟨sI (sI ν 414 3 (nI 1)) 414 10 (-9), 0, ?_, fun q => ?_, R1.tr (Rok.wr (by omega))⟩
        · rw [hr]
          simp only [bd_n, gd_n, ca2_n, ca_n, nbtF, pbfT, Bool.not_true, Bool.not_false, if_true, if_false, m_X7_readFair, iz7, ← hν, v2, u0, vp.tx, x0, c0L, vt 0 (by omega), x66t, show (1 : Int32) = nI 1 from rfl, e, show gI (sI (sI ν 414 3 (nI 1)) 414 10 (-9)) 414 10 = -9 from rfl]
        · rw [hr] at q
          exact absurd q (by decide)
      cases L with
      | zero =>
        exact fail _ rfl (y_figE w2 w3)
      | succ L =>
        have hy := (ht 1 (by omega)).2
        have wt : gI (sI ν 414 3 (nI 1)) 415 1 = nI (t 1) := by rw [gI_sI, if_neg (by decide)]; exact vt 1 (by omega)
        cases o1 : okF 0 (t 1) with
        | false =>
          have S2 : stp 2 D0 (t (0 + 1)) = none := by unfold stp; rw [if_neg (by decide), if_neg (by decide), ← okF_D, o1, if_neg (by decide)]
          rw [rdr_n S2]
          exact fail _ rfl (y_figN (lo := 0) wp w2 w3 (by omega) (by omega) wt hy (by omega) o1)
        | true =>
          have S2 : stp 2 D0 (t (0 + 1)) = some (3, dW D0 (t 1 - 48)) := by unfold stp; rw [if_neg (by decide), if_neg (by decide), ← okF_D, if_pos o1, if_pos rfl]
          rw [rdr_s S2]
          have hyy := okF_t o1
          have e1 : m_X7_figure SH 414 0 9 (sI ν 414 3 (nI 1)) = some (nI (t 1 - 48), sI (sI ν 414 3 (nI 1)) 414 3 (nI (1 + 1))) := y_figY (lo := 0) wp w2 w3 (by omega) (by omega) wt hy (by omega) o1
          have V : DV 3 (dW D0 (t 1 - 48)) := stp_V (stp_V D0_V S1) S2
          obtain ⟨ρ, hρ⟩ : ∃ ρ, ρ = sI (sI (sI ν 414 3 (nI 1)) 414 3 (nI (1 + 1))) 414 10 (nI (t 1 - 48)) := ⟨_, rfl⟩
          have R3 : Rok μ ρ := by rw [hρ]; exact R1.tr ((Rok.wr (by omega)).tr (Rok.wr (by omega)))
          have m3 : MD ρ t (L + 1 + 1) 2 (dW D0 (t 1 - 48)) := by
            refine ⟨hp.mono (fun k => R3.1 _ k), ?_, ?_, ?_, ?_, ?_, fun b hb => absurd hb (by show ¬ b < 0; omega), fun p hp => absurd hp (by show ¬ p < 0; omega), fun j hj => ?_⟩
            · rw [R3.2.2.2 2 (by decide) (by decide) (by decide) (by decide)]; exact e2
            · rw [hρ, gI_sI, if_pos rfl, if_neg (by decide), gI_sI, if_pos rfl, if_pos rfl]
            · rw [hρ, gI_sI, if_pos rfl, if_pos rfl]; rfl
            · rw [hρ, gI_sI, if_pos rfl, if_neg (by decide), gI_sI, if_pos rfl, if_neg (by decide), gI_sI, if_pos rfl, if_neg (by decide), hν, gI_sI, if_pos rfl, if_neg (by decide), gI_sI, if_pos rfl, if_pos rfl]; rfl
            · rw [hρ, gI_sI, if_pos rfl, if_neg (by decide), gI_sI, if_pos rfl, if_neg (by decide), gI_sI, if_pos rfl, if_neg (by decide), hν, gI_sI, if_pos rfl, if_pos rfl]; rfl
            · rw [R3.2.2.1 _ _ (by decide) (by decide) (by decide) (by decide)]; exact (ht j hj).1
          obtain ⟨μ', j, e', z1, z2⟩ := y_rloop (μ0 := μ) hL (fun j hj => (ht j hj).2) L L 2 FU _ ρ (Nat.le_refl _) (by omega) (by rw [FU_eq]; omega) m3 V R3
          refine ⟨μ', j, ?_, z1, z2⟩
          rw [← e']
          have g10 : gI ρ 414 10 = nI (t 1 - 48) := m3.2.2.2.1
          have n1 : (nI (t 1 - 48) = -9) = False := eq_false (n9 (by omega))
          simp only [bd_n, gd_n, ca2_n, ca_n, nbtF, pbfT, Bool.not_true, Bool.not_false, if_true, if_false, m_X7_readFair, iz7, ← hν, v2, u0, vp.tx, x0, c0L, vt 0 (by omega), x66t, show (1 : Int32) = nI 1 from rfl, e1, ← hρ, g10, n1]
    · have x66f : (nI (t 0) = 66) = False := x66.trans (eq_false c)
      have S1 : stp 1 D0 (t 0) = none := by unfold stp; rw [if_pos rfl, if_neg c]
      rw [rdr_n S1]
      refine ⟨ν, 0, ?_, fun e => absurd e (by decide), R0⟩
      simp only [bd_n, gd_n, ca2_n, ca_n, nbtF, pbfT, Bool.not_true, Bool.not_false, if_true, if_false, m_X7_readFair, iz7, ← hν, v2, u0, vp.tx, x0, c0L, vt 0 (by omega), x66f]
      rfl

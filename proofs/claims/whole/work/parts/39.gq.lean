/-! a minute: pages between the booths -/
def hv (f : Nat → Int32) (b : Nat) : Int32 := if f 15 = -9 then -9 else if f (f 15).toNatClampNeg = nI b then f 15 else -9
def nxS (s : Int64) : Int64 := s * 6364136223846793005 + 1442695040888963407
abbrev drV (s : Int64) (t : Int32) : Int32 := lg_cmp (((s.toUInt64 >>> ((33 : Int32).toInt64.toUInt64 &&& Int64.toUInt64 63)).toInt64) - ((s.toUInt64 >>> ((33 : Int32).toInt64.toUInt64 &&& Int64.toUInt64 63)).toInt64) / 10 * 10) (t.toInt64)
def drw (P : Pl) (f : Nat → Int32) (b : Nat) (s : Int64) : Nat → Int64 × Int32
  | 0 => (s, 0)
  | p + 1 => if f p = nI b then (nxS (drw P f b s p).1, if 0 ≤ drV (nxS (drw P f b s p).1) (nI (pT P p)) then (drw P f b s p).2 else (drw P f b s p).2 ||| (1 <<< (nI p &&& 31))) else drw P f b s p
def tkF (f : Nat → Int32) (b k : Nat) (v : Int32) : Nat → Int32 := upd (upd (upd (upd (upd f (16 + 17 * b + 1 + 4 * k) (f 203)) (16 + 17 * b + 1 + 4 * k + 1) (nI (inS f b))) (16 + 17 * b + 1 + 4 * k + 2) (hv f b)) (16 + 17 * b + 1 + 4 * k + 3) v) (16 + 17 * b) (nI (k + 1))
def flF (f : Nat → Int32) (b n : Nat) : Nat → Int32 := fun j => if j = 202 then nI (n + 1) else if j = 16 + 17 * b then 0 else if j = 50 + 19 * n then nI b else if j = 50 + 19 * n + 1 ∨ j = 50 + 19 * n + 2 then 0 else if 50 + 19 * n + 3 ≤ j ∧ j < 50 + 19 * n + 19 then f (16 + 17 * b + 1 + (j - (50 + 19 * n + 3))) else f j
def fsh (P : Pl) (f : Nat → Int32) (s : Int64) (b : Nat) : (Nat → Int32) × Int64 × Nat := if szF f = 8 ∨ (inS f b = 0 ∧ lkF f b = 0) then (f, s, 0) else if lkF f b = 3 then (flF (tkF f b (lkF f b) (drw P f b s 5).2) b (szF f), (drw P f b s 5).1, 1) else (tkF f b (lkF f b) (drw P f b s 5).2, (drw P f b s 5).1, 0)
theorem drw_lt (P : Pl) (f : Nat → Int32) (b : Nat) (s : Int64) : ∀ N, N ≤ 30 → ∃ t, t < 2 ^ N ∧ (drw P f b s N).2 = nI t
  | 0, _ => ⟨0, by decide, rfl⟩
  | p + 1, h => by
    obtain ⟨t, ht, e⟩ := drw_lt P f b s p (by omega)
    have hle : t < 2 ^ (p + 1) := Nat.lt_of_lt_of_le ht (Nat.pow_le_pow_right (by decide) (by omega))
    unfold drw
    by_cases c : f p = nI b
    · rw [if_pos c]
      by_cases d : 0 ≤ drV (nxS (drw P f b s p).1) (nI (pT P p))
      · rw [if_pos d]
        exact ⟨t, hle, e⟩
      · rw [if_neg d]
        refine ⟨t ||| 2 ^ p, Nat.or_lt_two_pow hle (Nat.pow_lt_pow_right (by decide) (by omega)), ?_⟩
        show (drw P f b s p).2 ||| (1 <<< (nI p &&& 31)) = _
        rw [e, sh1 p (by omega), fa_or]
    · rw [if_neg c]
      exact ⟨t, hle, e⟩
theorem drw_more {P : Pl} {f : Nat → Int32} {b n : Nat} {s : Int64} : ∀ {N : Nat}, n ≤ N → (∀ p, n ≤ p → p < N → ¬ f p = nI b) → drw P f b s N = drw P f b s n
  | 0, h, _ => by
    have : n = 0 := by omega
    rw [this]
  | N + 1, h, hn => by
    by_cases e : n = N + 1
    · rw [e]
    · conv => lhs; unfold drw
      rw [if_neg (hn N (by omega) (by omega))]
      exact drw_more (by omega) (fun p h1 h2 => hn p h1 (by omega))
theorem tkF_at {f : Nat → Int32} {b k : Nat} {v : Int32} : tkF f b k v (16 + 17 * b) = nI (k + 1) := upd_s
theorem tkF_0 {f : Nat → Int32} {b k : Nat} {v : Int32} : tkF f b k v (16 + 17 * b + 1 + 4 * k) = f 203 := by
  unfold tkF
  rw [upd_n (by omega), upd_n (by omega), upd_n (by omega), upd_n (by omega), upd_s]
theorem tkF_1 {f : Nat → Int32} {b k : Nat} {v : Int32} : tkF f b k v (16 + 17 * b + 1 + 4 * k + 1) = nI (inS f b) := by
  unfold tkF
  rw [upd_n (by omega), upd_n (by omega), upd_n (by omega), upd_s]
theorem tkF_2 {f : Nat → Int32} {b k : Nat} {v : Int32} : tkF f b k v (16 + 17 * b + 1 + 4 * k + 2) = hv f b := by
  unfold tkF
  rw [upd_n (by omega), upd_n (by omega), upd_s]
theorem tkF_3 {f : Nat → Int32} {b k : Nat} {v : Int32} : tkF f b k v (16 + 17 * b + 1 + 4 * k + 3) = v := by
  unfold tkF
  rw [upd_n (by omega), upd_s]
theorem tkF_n {f : Nat → Int32} {b k j : Nat} {v : Int32} (h : j ≠ 16 + 17 * b) (h2 : j < 16 + 17 * b + 1 + 4 * k ∨ 16 + 17 * b + 1 + 4 * k + 4 ≤ j) : tkF f b k v j = f j := by
  unfold tkF
  rw [upd_n h, upd_n (by omega), upd_n (by omega), upd_n (by omega), upd_n (by omega)]
def GQ (P : Pl) (m j : Nat) (f : Nat → Int32) : Prop :=
  (∃ k, k ≤ 8 ∧ f 202 = nI k) ∧ f 203 = nI m ∧
  (∀ i, i < szF f → ∀ l, l < 4 → LV (m + 1) (cI f i l)) ∧ (∀ b, b < 2 → ∀ l, l < lkF f b → LV (m + 1) (gB_ f b l)) ∧
  (∀ i, i < szF f → ∀ l, l < 4 → ∀ b, b < 2 → j ≤ b → f (50 + 19 * i) = nI b → cI f i l 0 ≠ nI m) ∧
  (∀ b, b < 2 → j ≤ b → ∀ l, l < lkF f b → gB_ f b l 0 ≠ nI m) ∧
  (f 15 = -9 ∨ ∃ p, p < 5 ∧ f 15 = nI p) ∧
  (∀ p, p < 5 → f p = -9 ∨ (p < pP P ∧ ∃ b, b < pB P ∧ f p = nI b)) ∧
  (∀ p, p < 5 → f (5 + p) = -9 ∨ ∃ b, b < 2 ∧ f (5 + p) = nI b) ∧
  (∀ i, i < szF f → (∃ b, b < 2 ∧ b < pB P ∧ f (50 + 19 * i) = nI b) ∧ (∃ t, t ≤ 3 ∧ f (50 + 19 * i + 1) = nI t) ∧ ∃ d, d ≤ 9 ∧ f (50 + 19 * i + 2) = nI d) ∧
  (∀ b, b < 2 → ∃ k, k ≤ 4 ∧ f (16 + 17 * b) = nI k) ∧
  (∀ i j l k, i < szF f → j < szF f → l < 4 → k < 4 → f (50 + 19 * i) = f (50 + 19 * j) → cI f i l 0 = cI f j k 0 → i = j ∧ l = k) ∧
  (∀ b i l k, b < 2 → i < szF f → l < 4 → k < lkF f b → f (50 + 19 * i) = nI b → cI f i l 0 ≠ gB_ f b k 0) ∧
  (∀ b l k, b < 2 → l < lkF f b → k < lkF f b → gB_ f b l 0 = gB_ f b k 0 → l = k)
theorem LV.more {m n : Nat} {g : Nat → Int32} (h : LV m g) (hn : m ≤ n) : LV n g := by
  obtain ⟨⟨t, ht, e⟩, h2⟩ := h
  exact ⟨⟨t, by omega, e⟩, h2⟩
theorem LV.ne {m : Nat} {g : Nat → Int32} (h : LV m g) (hm : m < 2 ^ 31) : g 0 ≠ nI m := by
  obtain ⟨⟨t, ht, e⟩, h2⟩ := h
  rw [e]
  intro q
  have := (nI_eq (by omega) hm).mp q
  omega
theorem GP.toQ {P : Pl} {c : Nat} {f : Nat → Int32} (h : GP P c f) (hc : c < 2 ^ 30) : ∃ m, m ≤ c ∧ GQ P m 0 f := by
  obtain ⟨k1, ⟨m, hm, k2, k3, k4⟩, k5, k6, k7, k8, k9, k10, k11, k12⟩ := h
  refine ⟨m, hm, k1, k2, fun i hi l hl => (k3 i hi l hl).more (by omega), fun b hb l hl => (k4 b hb l hl).more (by omega), fun i hi l hl b hb _ _ => (k3 i hi l hl).ne (by omega), fun b hb _ l hl => (k4 b hb l hl).ne (by omega), k5, k6, k7, k8, fun b hb => ?_, k10, k11, k12⟩
  obtain ⟨k, hk, e⟩ := k9 b hb
  exact ⟨k, by omega, e⟩
theorem GQ.skip {P : Pl} {m j : Nat} {f : Nat → Int32} (h : GQ P m j f) : GQ P m (j + 1) f := by
  obtain ⟨k1, k2, k3, k4, k5, k6, k7⟩ := h
  exact ⟨k1, k2, k3, k4, fun i hi l hl b hb hj => k5 i hi l hl b hb (by omega), fun b hb hj => k6 b hb (by omega), k7⟩
theorem GQ.sz {P : Pl} {m j : Nat} {f : Nat → Int32} (h : GQ P m j f) : f 202 = nI (szF f) ∧ szF f ≤ 8 := by
  obtain ⟨k, hk, e⟩ := h.1
  have : szF f = k := by rw [szF, e, nI_clamp (by omega)]
  rw [this]
  exact ⟨e, hk⟩
theorem GQ.lk {P : Pl} {m j : Nat} {f : Nat → Int32} {b : Nat} (h : GQ P m j f) (hb : b < 2) : f (16 + 17 * b) = nI (lkF f b) ∧ lkF f b ≤ 4 := by
  obtain ⟨k, hk, e⟩ := h.2.2.2.2.2.2.2.2.2.2.1 b hb
  have : lkF f b = k := by rw [lkF, e, nI_clamp (by omega)]
  rw [this]
  exact ⟨e, hk⟩
theorem GQ.toP {P : Pl} {c m j : Nat} {f : Nat → Int32} (h : GQ P m j f) (hl : ∀ b, b < 2 → lkF f b ≤ 3) (hm : m ≤ c) : GP P (c + 1) (upd f 203 (nI (m + 1))) := by
  have hz := h.sz.2
  have u : ∀ k, k ≠ 203 → upd f 203 (nI (m + 1)) k = f k := fun k hk => upd_n hk
  have hlk := fun b (hb : b < 2) => (h.lk hb).1
  obtain ⟨k1, k2, k3, k4, k5, k6, k7, k8, k9, k10, k11, k12, k13, k14⟩ := h
  have ez : szF (upd f 203 (nI (m + 1))) = szF f := szF_u (by decide)
  have el : ∀ q, q < 2 → lkF (upd f 203 (nI (m + 1))) q = lkF f q := fun q hq => lkF_u (by omega)
  have ec : ∀ i l w, i < szF f → l < 4 → w < 4 → cI (upd f 203 (nI (m + 1))) i l w = cI f i l w := fun i l w h1 h2 h3 => u _ (by omega)
  have eg : ∀ b l w, b < 2 → l < lkF f b → w < 4 → gB_ (upd f 203 (nI (m + 1))) b l w = gB_ f b l w := fun b l w h1 h2 h3 => by
    have := hl b h1
    exact u _ (by omega)
  refine ⟨by rw [u _ (by decide)]; exact k1, ⟨m + 1, by omega, upd_s, fun i hi l hl => ?_, fun b hb l hl => ?_⟩, by rw [u _ (by decide)]; exact k7, fun p hp => by rw [u _ (by omega)]; exact k8 p hp, fun p hp => by rw [u _ (by omega)]; exact k9 p hp, fun i hi => ?_, fun b hb => ⟨lkF f b, hl b hb, by rw [u _ (by omega)]; exact hlk b hb⟩, fun i j l k h1 h2 h3 h4 h5 h6 => ?_, fun b i l k h1 h2 h3 h4 h5 => ?_, fun b l k h1 h2 h3 h4 => ?_⟩
  · rw [ez] at hi
    exact (k3 i hi l hl).cg (fun w hw => ec i l w hi hl hw)
  · rw [el b hb] at hl
    exact (k4 b hb l hl).cg (fun w hw => eg b l w hb hl hw)
  · rw [ez] at hi
    rw [u _ (by omega), u _ (by omega), u _ (by omega)]
    exact k10 i hi
  · rw [ez] at h1 h2
    rw [u _ (by omega), u _ (by omega)] at h5
    rw [ec i l 0 h1 h3 (by decide), ec j k 0 h2 h4 (by decide)] at h6
    exact k12 i j l k h1 h2 h3 h4 h5 h6
  · rw [ez] at h2
    rw [el b h1] at h4
    rw [u _ (by omega)] at h5
    rw [ec i l 0 h2 h3 (by decide), eg b k 0 h1 h4 (by decide)]
    exact k13 b i l k h1 h2 h3 h4 h5
  · rw [el b h1] at h2 h3
    rw [eg b l 0 h1 h2 (by decide), eg b k 0 h1 h3 (by decide)] at h4
    exact k14 b l k h1 h2 h3 h4
theorem hv_ok {f : Nat → Int32} {b : Nat} (h : f 15 = -9 ∨ ∃ p, p < 5 ∧ f 15 = nI p) : hv f b = -9 ∨ ∃ p, p < 5 ∧ hv f b = nI p := by
  unfold hv
  by_cases h1 : f 15 = -9
  · rw [if_pos h1]; exact Or.inl rfl
  · rw [if_neg h1]
    by_cases h2 : f (f 15).toNatClampNeg = nI b
    · rw [if_pos h2]; exact h
    · rw [if_neg h2]; exact Or.inl rfl
theorem GQ.take {P : Pl} {m b s : Nat} {f : Nat → Int32} (h : GQ P m b f) (hb : b < 2) (hk3 : lkF f b ≤ 3) (hs : s < 32) : GQ P m (b + 1) (tkF f b (lkF f b) (nI s)) := by
  have hz := h.sz.2
  obtain ⟨k, hk⟩ : ∃ k, k = lkF f b := ⟨_, rfl⟩
  rw [← hk] at hk3 ⊢
  have hlk := fun b (hb : b < 2) => (h.lk hb).1
  have hl4 := fun b (hb : b < 2) => (h.lk hb).2
  obtain ⟨k1, k2, k3, k4, k5, k6, k7, k8, k9, k10, k11, k12, k13, k14⟩ := h
  obtain ⟨f', hf'⟩ : ∃ f', f' = tkF f b k (nI s) := ⟨_, rfl⟩
  rw [← hf']
  have u : ∀ j, (j < 16 ∨ 50 ≤ j) → f' j = f j := fun j hj => by rw [hf']; exact tkF_n (by omega) (by omega)
  have ez : szF f' = szF f := by unfold szF; rw [u _ (by omega)]
  have elb : lkF f' b = k + 1 := by unfold lkF; rw [hf', tkF_at, nI_clamp (by omega)]
  have elo : ∀ q, q < 2 → q ≠ b → lkF f' q = lkF f q := fun q hq hne => by unfold lkF; rw [hf', tkF_n (by omega) (by omega)]
  have ec : ∀ i l w, i < szF f → l < 4 → w < 4 → cI f' i l w = cI f i l w := fun i l w h1 h2 h3 => u _ (by omega)
  have ego : ∀ q l w, q < 2 → q ≠ b → l < lkF f q → w < 4 → gB_ f' q l w = gB_ f q l w := fun q l w h1 h2 h3 h4 => by
    have := hl4 q h1
    show f' (16 + 17 * q + 1 + (4 * l + w)) = _
    rw [hf', tkF_n (by omega) (by omega)]
    rfl
  have egb : ∀ l w, l < k → w < 4 → gB_ f' b l w = gB_ f b l w := fun l w h3 h4 => by
    show f' (16 + 17 * b + 1 + (4 * l + w)) = _
    rw [hf', tkF_n (by omega) (by omega)]
    rfl
  have egn0 : gB_ f' b k 0 = nI m := by
    show f' (16 + 17 * b + 1 + (4 * k + 0)) = _
    rw [hf', show 16 + 17 * b + 1 + (4 * k + 0) = 16 + 17 * b + 1 + 4 * k by omega, tkF_0]
    exact k2
  have lvn : LV (m + 1) (gB_ f' b k) := by
    refine ⟨⟨m, by omega, egn0⟩, ⟨inS f b, inS_lt f b, ?_⟩, ?_, ⟨s, hs, ?_⟩⟩
    · show f' (16 + 17 * b + 1 + (4 * k + 1)) = _
      rw [hf', show 16 + 17 * b + 1 + (4 * k + 1) = 16 + 17 * b + 1 + 4 * k + 1 by omega, tkF_1]
    · have : gB_ f' b k 2 = hv f b := by
        show f' (16 + 17 * b + 1 + (4 * k + 2)) = _
        rw [hf', show 16 + 17 * b + 1 + (4 * k + 2) = 16 + 17 * b + 1 + 4 * k + 2 by omega, tkF_2]
      rw [this]
      exact hv_ok k7
    · show f' (16 + 17 * b + 1 + (4 * k + 3)) = _
      rw [hf', show 16 + 17 * b + 1 + (4 * k + 3) = 16 + 17 * b + 1 + 4 * k + 3 by omega, tkF_3]
  refine ⟨by rw [u _ (by omega)]; exact k1, by rw [u _ (by omega)]; exact k2, fun i hi l hl => ?_, fun q hq l hl => ?_, fun i hi l hl q hq hj hbq => ?_, fun q hq hj l hl => ?_, by rw [u _ (by omega)]; exact k7, fun p hp => by rw [u _ (by omega)]; exact k8 p hp, fun p hp => by rw [u _ (by omega)]; exact k9 p hp, fun i hi => ?_, fun q hq => ?_, fun i j l k h1 h2 h3 h4 h5 h6 => ?_, fun q i l z h1 h2 h3 h4 h5 => ?_, fun q l z h1 h2 h3 h4 => ?_⟩
  · rw [ez] at hi
    exact (k3 i hi l hl).cg (fun w hw => ec i l w hi hl hw)
  · by_cases e : q = b
    · subst e
      rw [elb] at hl
      by_cases e2 : l = k
      · subst e2; exact lvn
      · exact (k4 q hq l (by omega)).cg (fun w hw => egb l w (by omega) hw)
    · rw [elo q hq e] at hl
      exact (k4 q hq l hl).cg (fun w hw => ego q l w hq e hl hw)
  · rw [ez] at hi
    rw [u _ (by omega)] at hbq
    rw [ec i l 0 hi hl (by decide)]
    exact k5 i hi l hl q hq (by omega) hbq
  · rw [elo q hq (by omega)] at hl
    rw [ego q l 0 hq (by omega) hl (by decide)]
    exact k6 q hq (by omega) l hl
  · rw [ez] at hi
    rw [u _ (by omega), u _ (by omega), u _ (by omega)]
    exact k10 i hi
  · by_cases e : q = b
    · subst e
      exact ⟨k + 1, by omega, by rw [hf', tkF_at]⟩
    · exact ⟨lkF f q, hl4 q hq, by rw [hf', tkF_n (by omega) (by omega)]; exact hlk q hq⟩
  · rw [ez] at h1 h2
    rw [u _ (by omega), u _ (by omega)] at h5
    rw [ec i l 0 h1 h3 (by decide), ec j k 0 h2 h4 (by decide)] at h6
    exact k12 i j l k h1 h2 h3 h4 h5 h6
  · rw [ez] at h2
    rw [u _ (by omega)] at h5
    rw [ec i l 0 h2 h3 (by decide)]
    by_cases e : q = b
    · subst e
      rw [elb] at h4
      by_cases e2 : z = k
      · subst e2
        rw [egn0]
        exact k5 i h2 l h3 q h1 (by omega) h5
      · rw [egb z 0 (by omega) (by decide)]
        exact k13 q i l z h1 h2 h3 (by omega) h5
    · rw [elo q h1 e] at h4
      rw [ego q z 0 h1 e h4 (by decide)]
      exact k13 q i l z h1 h2 h3 h4 h5
  · by_cases e : q = b
    · subst e
      rw [elb] at h2 h3
      by_cases e1 : l = k
      · by_cases e2 : z = k
        · omega
        · subst e1
          rw [egn0, egb z 0 (by omega) (by decide)] at h4
          exact absurd h4.symm (k6 q h1 (by omega) z (by omega))
      · by_cases e2 : z = k
        · subst e2
          rw [egn0, egb l 0 (by omega) (by decide)] at h4
          exact absurd h4 (k6 q h1 (by omega) l (by omega))
        · rw [egb l 0 (by omega) (by decide), egb z 0 (by omega) (by decide)] at h4
          exact k14 q l z h1 (by omega) (by omega) h4
    · rw [elo q h1 e] at h2 h3
      rw [ego q l 0 h1 e h2 (by decide), ego q z 0 h1 e h3 (by decide)] at h4
      exact k14 q l z h1 h2 h3 h4
theorem flF_n {f : Nat → Int32} {b n j : Nat} (h1 : j ≠ 202) (h2 : j ≠ 16 + 17 * b) (h3 : j < 50 + 19 * n ∨ 50 + 19 * n + 19 ≤ j) : flF f b n j = f j := by
  unfold flF
  rw [if_neg h1, if_neg h2, if_neg (by omega), if_neg (by omega), if_neg (by omega)]
theorem flF_c {f : Nat → Int32} {b n k : Nat} (hb : b < 2) (hn : n < 8) (hk : k < 16) : flF f b n (50 + 19 * n + 3 + k) = f (16 + 17 * b + 1 + k) := by
  unfold flF
  rw [if_neg (by omega), if_neg (by omega), if_neg (by omega), if_neg (by omega), if_pos (by omega), show 50 + 19 * n + 3 + k - (50 + 19 * n + 3) = k by omega]
theorem flF_b {f : Nat → Int32} {b n : Nat} (hb : b < 2) (hn : n < 8) : flF f b n (50 + 19 * n) = nI b ∧ flF f b n (50 + 19 * n + 1) = 0 ∧ flF f b n (50 + 19 * n + 2) = 0 ∧ flF f b n 202 = nI (n + 1) ∧ flF f b n (16 + 17 * b) = 0 := by
  unfold flF
  refine ⟨?_, ?_, ?_, ?_, ?_⟩
  · rw [if_neg (by omega), if_neg (by omega), if_pos rfl]
  · rw [if_neg (by omega), if_neg (by omega), if_neg (by omega), if_pos (by omega)]
  · rw [if_neg (by omega), if_neg (by omega), if_neg (by omega), if_pos (by omega)]
  · rw [if_pos rfl]
  · rw [if_neg (by omega), if_pos rfl]
theorem GQ.fall {P : Pl} {m b : Nat} {f : Nat → Int32} (h : GQ P m (b + 1) f) (hb : b < 2) (hbP : b < pB P) (hk4 : lkF f b = 4) (hn : szF f < 8) : GQ P m (b + 1) (flF f b (szF f)) := by
  obtain ⟨n, hnn⟩ : ∃ n, n = szF f := ⟨_, rfl⟩
  rw [← hnn] at hn ⊢
  have hlk := fun b (hb : b < 2) => (h.lk hb).1
  have hl4 := fun b (hb : b < 2) => (h.lk hb).2
  obtain ⟨k1, k2, k3, k4, k5, k6, k7, k8, k9, k10, k11, k12, k13, k14⟩ := h
  obtain ⟨f', hf'⟩ : ∃ f', f' = flF f b n := ⟨_, rfl⟩
  obtain ⟨b1, b2, b3, b4, b5⟩ := flF_b (f := f) hb hn
  rw [← hf'] at b1 b2 b3 b4 b5 ⊢
  rw [← hnn] at k3 k5 k10 k12 k13
  have u : ∀ j, j ≠ 202 → j ≠ 16 + 17 * b → (j < 50 + 19 * n ∨ 50 + 19 * n + 19 ≤ j) → f' j = f j := fun j h1 h2 h3 => by rw [hf']; exact flF_n h1 h2 h3
  have ez : szF f' = n + 1 := by unfold szF; rw [b4, nI_clamp (by omega)]
  have elb : lkF f' b = 0 := by unfold lkF; rw [b5]; rfl
  have elo : ∀ q, q < 2 → q ≠ b → lkF f' q = lkF f q := fun q hq hne => by unfold lkF; rw [u _ (by omega) (by omega) (by omega)]
  have ec : ∀ i l w, i < n → l < 4 → w < 4 → cI f' i l w = cI f i l w := fun i l w h1 h2 h3 => u _ (by omega) (by omega) (by omega)
  have en : ∀ l w, l < 4 → w < 4 → cI f' n l w = gB_ f b l w := fun l w h2 h3 => by
    show f' (50 + 19 * n + 3 + (4 * l + w)) = _
    rw [hf', flF_c hb hn (by omega)]
    rfl
  have ego : ∀ q l w, q < 2 → q ≠ b → l < lkF f q → w < 4 → gB_ f' q l w = gB_ f q l w := fun q l w h1 h2 h3 h4 => by
    have := hl4 q h1
    exact u _ (by omega) (by omega) (by omega)
  have eb : ∀ i, i < n → f' (50 + 19 * i) = f (50 + 19 * i) := fun i hi => u _ (by omega) (by omega) (by omega)
  refine ⟨⟨n + 1, by omega, b4⟩, by rw [u _ (by omega) (by omega) (by omega)]; exact k2, fun i hi l hl => ?_, fun q hq l hl => ?_, fun i hi l hl q hq hj hbq => ?_, fun q hq hj l hl => ?_, by rw [u _ (by omega) (by omega) (by omega)]; exact k7, fun p hp => by rw [u _ (by omega) (by omega) (by omega)]; exact k8 p hp, fun p hp => by rw [u _ (by omega) (by omega) (by omega)]; exact k9 p hp, fun i hi => ?_, fun q hq => ?_, fun i j l k h1 h2 h3 h4 h5 h6 => ?_, fun q i l z h1 h2 h3 h4 h5 => ?_, fun q l z h1 h2 h3 h4 => ?_⟩
  · rw [ez] at hi
    by_cases e : i = n
    · subst e
      exact (k4 b hb l (by omega)).cg (fun w hw => en l w hl hw)
    · exact (k3 i (by omega) l hl).cg (fun w hw => ec i l w (by omega) hl hw)
  · by_cases e : q = b
    · subst e
      rw [elb] at hl
      exact absurd hl (by omega)
    · rw [elo q hq e] at hl
      exact (k4 q hq l hl).cg (fun w hw => ego q l w hq e hl hw)
  · rw [ez] at hi
    by_cases e : i = n
    · subst e
      rw [b1] at hbq
      have := (nI_eq (by omega) (by omega)).mp hbq
      omega
    · rw [eb i (by omega)] at hbq
      rw [ec i l 0 (by omega) hl (by decide)]
      exact k5 i (by omega) l hl q hq hj hbq
  · rw [elo q hq (by omega)] at hl
    rw [ego q l 0 hq (by omega) hl (by decide)]
    exact k6 q hq hj l hl
  · rw [ez] at hi
    by_cases e : i = n
    · subst e
      exact ⟨⟨b, hb, hbP, b1⟩, ⟨0, by omega, b2⟩, ⟨0, by omega, b3⟩⟩
    · rw [eb i (by omega), u (50 + 19 * i + 1) (by omega) (by omega) (by omega), u (50 + 19 * i + 2) (by omega) (by omega) (by omega)]
      exact k10 i (by omega)
  · by_cases e : q = b
    · subst e
      exact ⟨0, by omega, b5⟩
    · exact ⟨lkF f q, hl4 q hq, by rw [u _ (by omega) (by omega) (by omega)]; exact hlk q hq⟩
  · rw [ez] at h1 h2
    by_cases e1 : i = n
    · by_cases e2 : j = n
      · subst e1 e2
        rw [en l 0 h3 (by decide), en k 0 h4 (by decide)] at h6
        exact ⟨rfl, k14 b l k hb (by omega) (by omega) h6⟩
      · subst e1
        rw [b1, eb j (by omega)] at h5
        rw [en l 0 h3 (by decide), ec j k 0 (by omega) h4 (by decide)] at h6
        exact absurd h6.symm (k13 b j k l hb (by omega) h4 (by omega) h5.symm)
    · by_cases e2 : j = n
      · subst e2
        rw [b1, eb i (by omega)] at h5
        rw [en k 0 h4 (by decide), ec i l 0 (by omega) h3 (by decide)] at h6
        exact absurd h6 (k13 b i l k hb (by omega) h3 (by omega) h5)
      · rw [eb i (by omega), eb j (by omega)] at h5
        rw [ec i l 0 (by omega) h3 (by decide), ec j k 0 (by omega) h4 (by decide)] at h6
        exact k12 i j l k (by omega) (by omega) h3 h4 h5 h6
  · rw [ez] at h2
    by_cases e : q = b
    · subst e
      rw [elb] at h4
      exact absurd h4 (by omega)
    · rw [elo q h1 e] at h4
      by_cases e1 : i = n
      · subst e1
        rw [b1] at h5
        exact absurd ((nI_eq (by omega) (by omega)).mp h5).symm e
      · rw [eb i (by omega)] at h5
        rw [ec i l 0 (by omega) h3 (by decide), ego q z 0 h1 e h4 (by decide)]
        exact k13 q i l z h1 (by omega) h3 h4 h5
  · by_cases e : q = b
    · subst e
      rw [elb] at h2
      exact absurd h2 (by omega)
    · rw [elo q h1 e] at h2 h3
      rw [ego q l 0 h1 e h2 (by decide), ego q z 0 h1 e h3 (by decide)] at h4
      exact k14 q l z h1 h2 h3 h4

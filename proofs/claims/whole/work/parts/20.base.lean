/-! the shape of the heap behind the two constructors -/
def SHs (d : Nat) : Nat × Nat := if d = 0 then (4, 10) else if d = 1 then (11, 8) else if d = 2 then (11, 2) else if d ≤ 5 then (8, 5) else if d % 2 = 0 then (5, 5) else (8, 16)
def SHx (a : Nat) : Nat × Nat := match a with
  | 1 => (6, 10)
  | 2 => (8, 24)
  | 3 => (2, 6)
  | 4 => (8, 2)
  | 5 => (8, 2)
  | 6 => (8, 5)
  | 7 => (2, 6)
  | 8 => (8, 2)
  | 9 => (8, 2)
  | 10 => (8, 5)
  | 37 => (1, 3)
  | 38 => (12, 12)
  | 351 => (12, 2)
  | 352 => (10, 2)
  | 353 => (0, 4)
  | 354 => (8, 8)
  | 355 => (8, 8)
  | 356 => (8, 256)
  | 357 => (3, 5)
  | 358 => (8, 6)
  | 359 => (8, 6)
  | 360 => (8, 384)
  | 361 => (8, 384)
  | 414 => (7, 29)
  | 415 => (8, 24)
  | 416 => (8, 2)
  | 417 => (8, 2)
  | 418 => (8, 5)
  | 419 => (8, 2)
  | 420 => (8, 2)
  | 421 => (8, 5)
  | 422 => (8, 205)
  | 423 => (8, 2460)
  | 424 => (9, 12)
  | 425 => (8, 410)
  | 426 => (9, 2)
  | 427 => (10, 2)
  | 428 => (8, 256)
  | 429 => (8, 256)
  | 430 => (8, 6)
  | 431 => (8, 6)
  | _ => (99, 0)
def SH : Sh := fun a => if 11 ≤ a ∧ a ≤ 36 then SHs (a - 11) else if 39 ≤ a ∧ a ≤ 350 then SHs ((a - 39) % 26) else if 362 ≤ a ∧ a ≤ 413 then SHs ((a - 362) % 26) else SHx a
/-- where scenes begin -/
def scB (a : Nat) : Bool := a == 11 || a == 362 || a == 388 || (decide (39 ≤ a) && (decide (a ≤ 325) && (a - 39) % 26 == 0))
theorem scB_all : ∀ a, a < 432 → scB a = true → ∀ d, d < 26 → SH (a + d) = SHs d := by decide +kernel
theorem scB_le {a : Nat} (h : scB a = true) : 11 ≤ a ∧ a ≤ 388 := by
  simp only [scB, Bool.or_eq_true, beq_iff_eq, Bool.and_eq_true, decide_eq_true_eq] at h
  omega
theorem scB_sh {a d : Nat} (h : scB a = true) (hd : d < 26) : SH (a + d) = SHs d := scB_all a (by have := scB_le h; omega) h d hd
theorem iz_of {sh : Sh} {ci a n : Nat} (h : sh a = (ci, n)) : iz sh ci a = true := by simp [iz, h]
theorem ix_of {sh : Sh} {kd a n i : Nat} (h : sh a = (kd, n)) (hi : i < n) (hn : n < 2 ^ 31) : ix sh kd a (nI i) = true := by
  have h1 : (0 : Int32) ≤ nI i := nI_pos' (by omega)
  have h2 : (nI i).toNatClampNeg = i := nI_clamp (by omega)
  simp [ix, h, h1, h2, hi]
theorem ixC_of {sh : Sh} {a n p k : Nat} (h : sh a = (8, n)) (hi : p + k ≤ n) (hn : n < 2 ^ 31) : ixC sh a (nI p) (nI k) = true := by
  have h1 : (0 : Int32) ≤ nI p := nI_pos' (by omega)
  have h2 : (nI p).toNatClampNeg = p := nI_clamp (by omega)
  have h3 : (0 : Int32) ≤ nI k := nI_pos' (by omega)
  have h4 : (nI k).toNatClampNeg = k := nI_clamp (by omega)
  simp [ixC, h, h1, h2, h3, h4, hi]
theorem ixn_of {N i : Nat} (hi : i < N) (hn : N < 2 ^ 31) : ixn N (nI i) = true := by
  have h1 : (0 : Int32) ≤ nI i := nI_pos' (by omega)
  have h2 : (nI i).toNatClampNeg = i := nI_clamp (by omega)
  simp [ixn, h1, h2, hi]
/-- two memories are one at some cells -/
def same (P : Nat → Prop) (μ μ' : Mu) : Prop := ∀ b, P b → (∀ k, gI μ' b k = gI μ b k) ∧ (∀ k, gJ μ' b k = gJ μ b k) ∧ (∀ k, gR μ' b k = gR μ b k)
theorem same.rf {P : Nat → Prop} {μ : Mu} : same P μ μ := fun _ _ => ⟨fun _ => rfl, fun _ => rfl, fun _ => rfl⟩
theorem same.trans {P : Nat → Prop} {μ μ1 μ2 : Mu} (h : same P μ μ1) (h2 : same P μ1 μ2) : same P μ μ2 := fun b hb => ⟨fun k => ((h2 b hb).1 k).trans ((h b hb).1 k), fun k => ((h2 b hb).2.1 k).trans ((h b hb).2.1 k), fun k => ((h2 b hb).2.2 k).trans ((h b hb).2.2 k)⟩
theorem same.mono {P P2 : Nat → Prop} {μ μ' : Mu} (h : same P μ μ') (hp : ∀ b, P2 b → P b) : same P2 μ μ' := fun b hb => h b (hp b hb)
theorem same.I {P : Nat → Prop} {μ μ' : Mu} (h : same P μ μ') {b : Nat} (hb : P b) (k : Nat) : gI μ' b k = gI μ b k := (h b hb).1 k
theorem same.J {P : Nat → Prop} {μ μ' : Mu} (h : same P μ μ') {b : Nat} (hb : P b) (k : Nat) : gJ μ' b k = gJ μ b k := (h b hb).2.1 k
theorem same.R {P : Nat → Prop} {μ μ' : Mu} (h : same P μ μ') {b : Nat} (hb : P b) (k : Nat) : gR μ' b k = gR μ b k := (h b hb).2.2 k
theorem same_sI {P : Nat → Prop} {μ : Mu} {a k : Nat} {v : Int32} (h : ¬ P a) : same P μ (sI μ a k v) := fun b hb => ⟨fun j => by rw [gI_sI, if_neg (fun e : b = a => h (e ▸ hb))], fun _ => rfl, fun _ => rfl⟩
theorem same_sJ {P : Nat → Prop} {μ : Mu} {a k : Nat} {v : Int64} (h : ¬ P a) : same P μ (sJ μ a k v) := fun b hb => ⟨fun _ => rfl, fun j => by rw [gJ_sJ, if_neg (fun e : b = a => h (e ▸ hb))], fun _ => rfl⟩
theorem same_sR {P : Nat → Prop} {μ : Mu} {a k : Nat} {v : Nat} (h : ¬ P a) : same P μ (sR μ a k v) := fun b hb => ⟨fun _ => rfl, fun _ => rfl, fun j => by rw [gR_sR, if_neg (fun e : b = a => h (e ▸ hb))]⟩
theorem gI_cpI (μ : Mu) (a0 a sp dp k b j : Nat) : gI (cpI μ a0 a sp dp k) b j = if b = a then (if dp ≤ j ∧ j < dp + k then gI μ a0 (sp + (j - dp)) else gI μ a j) else gI μ b j := by
  simp only [gI, cpI, va_cpy]
  split <;> rfl
theorem gJ_cpI (μ : Mu) (a0 a sp dp k b j : Nat) : gJ (cpI μ a0 a sp dp k) b j = gJ μ b j := rfl
theorem gR_cpI (μ : Mu) (a0 a sp dp k b j : Nat) : gR (cpI μ a0 a sp dp k) b j = gR μ b j := rfl
theorem same_cpI {P : Nat → Prop} {μ : Mu} {a0 a sp dp k : Nat} (h : ¬ P a) : same P μ (cpI μ a0 a sp dp k) := fun b hb => ⟨fun j => by rw [gI_cpI, if_neg (fun e : b = a => h (e ▸ hb))], fun _ => rfl, fun _ => rfl⟩
theorem gd_t {α : Type} {o : Option α} : gd true o = o := rfl
theorem gd_of {α : Type} {b : Bool} {o : Option α} (h : b = true) : gd b o = o := by rw [h]; rfl
theorem FU_eq : FU = 65536 := rfl
/-- numbers -/
theorem lit_nI (n : Nat) : (OfNat.ofNat n : Int32) = nI n := rfl
theorem clampLit (n : Nat) (h : n < 2 ^ 31) : (OfNat.ofNat n : Int32).toNatClampNeg = n := nI_clamp h
/-- an int of a small range as a Nat -/
theorem nI_inR {x : Int32} {n : Nat} (h0 : ¬ x < 0) (h1 : ¬ nI n ≤ x) (hn : n < 2 ^ 31) : ∃ i, i < n ∧ x = nI i := by
  obtain ⟨j, hj, rfl⟩ := nI_of h0
  refine ⟨j, ?_, rfl⟩
  rcases Nat.lt_or_ge j n with q | q
  · exact q
  · exact absurd (nI_le q hj) h1
def b01 (p : Prop) [Decidable p] : Int32 := if p then 1 else 0

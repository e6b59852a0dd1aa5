/-! the words of the shallow programs -/
def FU : Nat := 65536
def gd {α : Type} (b : Bool) (o : Option α) : Option α := match b with
  | true => o
  | false => none
def bd {α β : Type} (x : α) (f : α → β) : β := f x
def ca {α β : Type} (o : Option α) (f : α → Option β) : Option β := match o with
  | some a => f a
  | none => none
def ca2 {α β : Type} (o : Option (α × Mu)) (f : α → Mu → Option β) : Option β := match o with
  | some (a, m) => f a m
  | none => none
def ca3 {β : Type} (o : Option (Nat × Sh × Mu)) (f : Nat → Sh → Mu → Option β) : Option β := match o with
  | some (n, s, m) => f n s m
  | none => none
theorem gd_1 {α : Type} {b : Bool} {o : Option α} {x : α} (h : gd b o = some x) : b = true ∧ o = some x := by
  cases b
  · cases h
  · exact ⟨rfl, h⟩
theorem bd_1 {α β : Type} {x : α} {f : α → β} {y : β} (h : bd x f = y) : ∃ z, z = x ∧ f z = y := ⟨x, rfl, h⟩
theorem ca_1 {α β : Type} {o : Option α} {f : α → Option β} {x : β} (h : ca o f = some x) : ∃ a, o = some a ∧ f a = some x := by
  cases o with
  | none => cases h
  | some a => exact ⟨a, rfl, h⟩
theorem ca2_1 {α β : Type} {o : Option (α × Mu)} {f : α → Mu → Option β} {x : β} (h : ca2 o f = some x) : ∃ a m, o = some (a, m) ∧ f a m = some x := by
  cases o with
  | none => cases h
  | some a => exact ⟨a.1, a.2, rfl, h⟩
theorem ca3_1 {β : Type} {o : Option (Nat × Sh × Mu)} {f : Nat → Sh → Mu → Option β} {x : β} (h : ca3 o f = some x) : ∃ n s m, o = some (n, s, m) ∧ f n s m = some x := by
  cases o with
  | none => cases h
  | some a => exact ⟨a.1, a.2.1, a.2.2, rfl, h⟩
theorem it_t {α : Type} {c : Prop} [Decidable c] {A B x : α} (hc : c) (h : (if c then A else B) = x) : A = x := (if_pos hc).symm.trans h
theorem it_f {α : Type} {c : Prop} [Decidable c] {A B x : α} (hc : ¬ c) (h : (if c then A else B) = x) : B = x := (if_neg hc).symm.trans h
def ixn (N : Nat) (i : Int32) : Bool := decide (0 ≤ i) && decide (i.toNatClampNeg < N)
theorem ixn_eq {N : Nat} {i : Int32} (h : ixn N i = true) : vp_in i N := by
  simp only [ixn, Bool.and_eq_true, decide_eq_true_eq] at h
  exact vp_in_mk h.1 h.2
def nzI (x : Int32) : Bool := decide (x ≠ 0)
def nzJ (x : Int64) : Bool := decide (x ≠ 0)
theorem nzI_eq {x : Int32} (h : nzI x = true) : ¬ x = 0 := by simpa [nzI] using h
theorem nzJ_eq {x : Int64} (h : nzJ x = true) : ¬ x = 0 := by simpa [nzJ] using h
def roomB (a b c d : Nat) : Bool := decide (a ≤ b) && decide (c ≤ d)
theorem roomB_eq {a b c d : Nat} (h : roomB a b c d = true) : a ≤ b ∧ c ≤ d := by simpa [roomB] using h
def eqB (a b c d : Nat) : Bool := decide (a = b) && decide (c = d)
theorem eqB_eq {a b c d : Nat} (h : eqB a b c d = true) : a = b ∧ c = d := by simpa [eqB] using h
def eq1 (a b : Nat) : Bool := decide (a = b)
theorem eq1_eq {a b : Nat} (h : eq1 a b = true) : a = b := by simpa [eq1] using h
def nn0 (a : Nat) : Bool := decide (a ≠ 0)
theorem nn0_eq {a : Nat} (h : nn0 a = true) : a ≠ 0 := by simpa [nn0] using h
section SX
variable {l : Launch} {G : Gl} {Qf : List Frame → Array Value → State → State → Prop} {c0 : Cf} {n n' : Nat} {sh sh' : Sh} {kc kc' js js' : Nat} {μ μ' : Mu} {pc pc' : Nat} {lc lc' : List (Option AV)} {st st' : List AV}
theorem s_as (h : kc' = kc ∧ js' = js ∧ pc' = pc ∧ st' = st) (k : Sj l G Qf c0 n sh kc' js' μ pc' lc st') : Sj l G Qf c0 n sh kc js μ pc lc st := by
  obtain ⟨rfl, rfl, rfl, rfl⟩ := h
  exact k
theorem s_mu (h : μ' = μ) (k : Sj l G Qf c0 n sh kc js μ' pc lc st) : Sj l G Qf c0 n sh kc js μ pc lc st := h ▸ k
theorem s_nsm (h : n' = n ∧ sh' = sh ∧ μ' = μ) (k : Sj l G Qf c0 n' sh' kc js μ' pc lc st) : Sj l G Qf c0 n sh kc js μ pc lc st := by
  obtain ⟨rfl, rfl, rfl⟩ := h
  exact k
theorem s_topI {x y : Int32} (h : y = x) (k : Sj l G Qf c0 n sh kc js μ pc lc (vi y :: st)) : Sj l G Qf c0 n sh kc js μ pc lc (vi x :: st) := h ▸ k
theorem s_topJ {x y : Int64} (h : y = x) (k : Sj l G Qf c0 n sh kc js μ pc lc (vl y :: st)) : Sj l G Qf c0 n sh kc js μ pc lc (vl x :: st) := h ▸ k
theorem s_topR {x y : Nat} (h : y = x) (k : Sj l G Qf c0 n sh kc js μ pc lc (vr y :: st)) : Sj l G Qf c0 n sh kc js μ pc lc (vr x :: st) := h ▸ k
theorem s_tab {dflt lo hi : Int} {offs : Array Int} {len : Nat} {x : Int32} {off : Int} {tgt : Nat} (v : Int32) (hx : x = v) (hd : decode c0.1 pc = .ok (.tableswitch dflt lo hi offs, len)) (h1 : ¬ v.toInt < lo) (h2 : ¬ hi < v.toInt) (ho : offs[(v.toInt - lo).toNat]? = some off) (ht : (pc : Int) + off = (tgt : Int)) (k : Sj l G Qf c0 n sh kc js μ tgt lc st) : Sj l G Qf c0 n sh kc js μ pc lc (vi x :: st) := by
  subst hx
  exact s_tabIn hd h1 h2 ho ht k
theorem s_lk {dflt : Int} {ps : Array (Int × Int)} {len : Nat} {x : Int32} {off : Int} {tgt : Nat} (v : Int32) (hx : x = v) (hd : decode c0.1 pc = .ok (.lookupswitch dflt ps, len)) (hp : (ps.toList.zip (ps.toList.drop 1)).all (fun (a, next) => a.1 < next.1) = true) (ho : Op.lookupswitch.offset ps.toList dflt v.toInt = off) (ht : (pc : Int) + off = (tgt : Int)) (k : Sj l G Qf c0 n sh kc js μ tgt lc st) : Sj l G Qf c0 n sh kc js μ pc lc (vi x :: st) := by
  subst hx
  exact s_lookup hd hp ho ht k
end SX

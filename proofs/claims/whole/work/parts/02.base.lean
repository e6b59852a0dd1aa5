/-! The abstract memory: cells are numbered 1, 2, .. (0 is null) in the order in which they are made; sh tells of each its kind and its length; ints, longs and references lie in three memories. -/
abbrev Mu : Type := (Nat → Nat → Int32) × (Nat → Nat → Int64) × (Nat → Nat → Nat)
abbrev Sh : Type := Nat → Nat × Nat
def gI (μ : Mu) (a k : Nat) : Int32 := μ.1 a k
def gJ (μ : Mu) (a k : Nat) : Int64 := μ.2.1 a k
def gR (μ : Mu) (a k : Nat) : Nat := μ.2.2 a k
def up2 {α : Type} (f : Nat → Nat → α) (a k : Nat) (v : α) : Nat → Nat → α := fun b j => if b = a then (if j = k then v else f b j) else f b j
def sI (μ : Mu) (a k : Nat) (v : Int32) : Mu := (up2 μ.1 a k v, μ.2.1, μ.2.2)
def sJ (μ : Mu) (a k : Nat) (v : Int64) : Mu := (μ.1, up2 μ.2.1 a k v, μ.2.2)
def sR (μ : Mu) (a k : Nat) (v : Nat) : Mu := (μ.1, μ.2.1, up2 μ.2.2 a k v)
/-- a value: an int, a long, a cell's number, or the address of a row that was there before -/
abbrev AV : Type := Int32 ⊕ (Int64 ⊕ (Nat ⊕ Nat))
abbrev vi (x : Int32) : AV := .inl x
abbrev vl (x : Int64) : AV := .inr (.inl x)
abbrev vr (x : Nat) : AV := .inr (.inr (.inl x))
abbrev vq (x : Nat) : AV := .inr (.inr (.inr x))
def cat : AV → Nat
  | .inl _ => 1
  | .inr (.inl _) => 2
  | .inr (.inr _) => 1
/-- what stays while the law runs: class numbers and slots, array classes, the first new address less one, HUNDREDS, the script -/
abbrev Gl : Type := va_G × (Nat → ClassId) × Nat × Nat × Nat × Nat × (Nat → Int32)
def gZ (G : Gl) : Nat := G.2.2.1
def gT (G : Gl) : Nat := G.2.2.2.1
def gB (G : Gl) : Nat := G.2.2.2.2.1
def gL (G : Gl) : Nat := G.2.2.2.2.2.1
def gX (G : Gl) : Nat → Int32 := G.2.2.2.2.2.2
def ro (G : Gl) (r : Nat) : Option Nat := if r = 0 then none else some (gZ G + r)
def rf (G : Gl) (r : Nat) : Value := va_rf (ro G r)
def av (G : Gl) : AV → Value
  | .inl x => .int x
  | .inr (.inl x) => .long x
  | .inr (.inr (.inl r)) => rf G r
  | .inr (.inr (.inr q)) => .ref q
theorem rf_nz {G : Gl} {r : Nat} (h : r ≠ 0) : rf G r = .ref (gZ G + r) := by simp [rf, ro, h, va_rf]
theorem rf_z {G : Gl} : rf G 0 = .null := by simp [rf, ro, va_rf]
theorem av_cat (G : Gl) (v : AV) : (av G v).category = cat v := by
  rcases v with x | x | r | q
  · rfl
  · rfl
  · by_cases h : r = 0
    · subst h; show (rf G 0).category = 1; rw [rf_z]; rfl
    · show (rf G r).category = 1; rw [rf_nz h]; rfl
  · rfl
def fty : Nat → Nat → FieldType
  | 0 => tyX0
  | 1 => tyX1
  | 2 => tyX2
  | 3 => tyX3
  | 4 => tyX4
  | 5 => tyX5
  | 6 => tyX6
  | _ => tyX7
def fN : Nat → Nat
  | 0 => 4
  | 1 => 3
  | 2 => 6
  | 3 => 5
  | 4 => 10
  | 5 => 5
  | 6 => 10
  | _ => 29
def fv (G : Gl) (ty : FieldType) (x : Int32) (y : Int64) (r : Nat) : Value := match ty with
  | .int => .int x
  | .boolean => .int x
  | .long => .long y
  | _ => rf G r
def flds (G : Gl) (ci : Nat) (μ : Mu) (a : Nat) : List Value := (List.range (fN ci)).map (fun k => fv G (fty ci k) (gI μ a k) (gJ μ a k) (gR μ a k))
def arow (G : Gl) (kd n : Nat) (μ : Mu) (a : Nat) : vp_A :=
  if kd = 9 then (n, .inr (.inl (gJ μ a))) else if kd = 11 ∨ kd = 12 then (n, .inr (.inr (.inr (.inr (fun k => ro G (gR μ a k)))))) else (n, .inl (gI μ a))
def ent (G : Gl) (sh : Sh) (μ : Mu) (a : Nat) : va_E := if (sh a).1 < 8 then .inr ((sh a).1, flds G (sh a).1 μ a) else .inl (G.2.1 (sh a).1, arow G (sh a).1 (sh a).2 μ a)
def wl (G : Gl) (n : Nat) (sh : Sh) (μ : Mu) : va_W := (List.range n).map (fun i => (gZ G + (i + 1), ent G sh μ (i + 1)))
def cls8 : List vw_C := [("StripsOfFour$Parts", TX0, 4), ("StripsOfFour$Past", TX1, 3), ("StripsOfFour$Plan", TX2, 6), ("StripsOfFour$Rows", TX3, 5), ("StripsOfFour$Scene", TX4, 10), ("StripsOfFour$Strip", TX5, 5), ("StripsOfFour", TX6, 10), ("StripsOfFourModel", TX7, 29)]
def tys5 (G : Gl) : List (ClassId × FieldType) := [(G.2.1 8, .int), (G.2.1 9, .long), (G.2.1 10, .boolean), (G.2.1 11, .object "StripsOfFour$Strip"), (G.2.1 12, .object "StripsOfFour$Scene")]
def AA (G : Gl) : Nat → Prop := fun q => gZ G < q
def hun (j : Nat) : Int32 := [1, 100, 10000, 1000000, 100000000].getD j 0
/-- what is known of the machine at a state: classes, array classes, HUNDREDS, the script -/
def Ks (G : Gl) (U : State) : Prop := va_K G.1 cls8 (tys5 G) U ∧ va_Z "StripsOfFour" "HUNDREDS" "[I" (.ref (gT G)) (AA G) U U.heap ∧ va_T .int (gT G) 5 (fun j => .int (hun j)) (AA G) U U.heap ∧ va_X (gB G) (gL G) (gX G) U U.heap ∧ (∀ w ∈ lw_n, va_Nw w U) ∧ va_AO "StripsOfFour$Strip" U ∧ va_AO "StripsOfFour$Scene" U ∧ gB G ≤ gZ G ∧ gZ G < U.heap.size
/-- the heap holds the abstract memory -/
def Hw (G : Gl) (n : Nat) (sh : Sh) (μ : Mu) (H : Heap) : Prop := va_P G.1 cls8 (wl G n sh μ) H ∧ ∀ a, (a = 0 ∨ n < a) → (sh a).1 = 99
theorem Ks.warm {G : Gl} {s U : State} (h : Ks G s) (hW : s.WarmedH U.vm) (hz : s.heap.size ≤ U.heap.size) (hq : ∀ q : Nat, q < s.heap.size → ¬ AA G q → U.heap[q]? = s.heap[q]?) : Ks G U := by
  obtain ⟨h1, h2, h3, h4, h5, h6, h7, h8, h9⟩ := h
  refine ⟨va_K.moved hW.alike h1, (h2.moved hW.alike).kept hq, (h3.moved hW.alike).kept hq, (h4.moved hW.alike).kept (hq _ (by omega) (by unfold AA; omega)), fun w hw => ?_, va_AO.moved hW.alike h6, va_AO.moved hW.alike h7, h8, by omega⟩
  have hn := (List.mem_filter.mp hw).2
  have h0 := h5 w hw
  cases w <;> first | exact va_Nw.warmM hW h0 | (simp [lw_isN] at hn)
theorem Ks.same {G : Gl} {s U : State} (h : Ks G s) (hv : s.vm = U.vm) (hh : s.heap = U.heap) : Ks G U := by
  obtain ⟨h1, h2, h3, h4, h5, h6, h7, h8, h9⟩ := h
  have hA : s.vm.Alike U.vm := hv ▸ Vm.Alike.refl s.vm
  refine ⟨va_K.moved hA h1, hh ▸ (h2.moved hA), hh ▸ (h3.moved hA), hh ▸ (h4.moved hA), fun w hw => ?_, va_AO.moved hA h6, va_AO.moved hA h7, h8, hh ▸ h9⟩
  have hn := (List.mem_filter.mp hw).2
  have h0 := h5 w hw
  cases w <;> first | exact va_Nw.same rfl hv h0 | (simp [lw_isN] at hn)
theorem wl_get {G : Gl} {n : Nat} {sh : Sh} {μ : Mu} {a : Nat} (h0 : a ≠ 0) (h1 : a ≤ n) : (wl G n sh μ)[a - 1]? = some (gZ G + a, ent G sh μ a) := by
  have h2 : a - 1 < n := by omega
  have h3 : a - 1 + 1 = a := by omega
  simp [wl, h2, h3]
theorem wl_D {G : Gl} {n : Nat} {sh : Sh} {μ : Mu} : va_D (AA G) (wl G n sh μ) := by
  have key : ∀ (k : Nat) (q : Nat × va_E), (wl G n sh μ)[k]? = some q → q.1 = gZ G + (k + 1) := by
    intro k q hk
    have hl : k < n := by simpa [wl] using (List.getElem?_eq_some_iff.mp hk).1
    simp [wl, hl] at hk
    rw [← hk]
  refine ⟨fun i j p q hi hj hpq => ?_, fun k q hk => ?_⟩
  · have e1 := key i p hi
    have e2 := key j q hj
    omega
  · have e1 := key k q hk
    unfold AA
    omega
/-- one cell changed -/
theorem wl_set {G : Gl} {n : Nat} {sh : Sh} {μ μ' : Mu} {a : Nat} (h0 : a ≠ 0) (h1 : a ≤ n) (ho : ∀ b, b ≠ a → ent G sh μ' b = ent G sh μ b) : (wl G n sh μ).set (a - 1) (gZ G + a, ent G sh μ' a) = wl G n sh μ' := by
  apply List.ext_getElem?
  intro k
  by_cases hk : k = a - 1
  · subst hk
    rw [List.getElem?_set_self (by simp [wl]; omega), wl_get h0 h1]
  · rw [List.getElem?_set_ne (Ne.symm hk)]
    by_cases hl : k < n
    · have e := ho (k + 1) (by omega)
      simp [wl, hl, e]
    · simp [wl, hl]
theorem ent_oth {G : Gl} {sh : Sh} {μ μ' : Mu} {b : Nat} (h1 : ∀ k, gI μ' b k = gI μ b k) (h2 : ∀ k, gJ μ' b k = gJ μ b k) (h3 : ∀ k, gR μ' b k = gR μ b k) : ent G sh μ' b = ent G sh μ b := by
  have e1 : gI μ' b = gI μ b := funext h1
  have e2 : gJ μ' b = gJ μ b := funext h2
  have e3 : gR μ' b = gR μ b := funext h3
  simp only [ent, flds, arow, e1, e2, e3]
theorem Hw.ok {G : Gl} {n : Nat} {sh : Sh} {μ : Mu} {H : Heap} (h : Hw G n sh μ H) {a : Nat} (ha : (sh a).1 ≠ 99) : a ≠ 0 ∧ a ≤ n := by
  refine ⟨fun e => ha (h.2 a (Or.inl e)), ?_⟩
  rcases Nat.lt_or_ge n a with q | q
  · exact absurd (h.2 a (Or.inr q)) ha
  · exact q
theorem ent_obj {G : Gl} {sh : Sh} {μ : Mu} {a ci : Nat} (h : (sh a).1 = ci) (hc : ci < 8) : ent G sh μ a = .inr (ci, flds G ci μ a) := by
  subst h
  simp [ent, hc]
theorem ent_arr {G : Gl} {sh : Sh} {μ : Mu} {a kd : Nat} (h : (sh a).1 = kd) (hc : ¬ kd < 8) : ent G sh μ a = .inl (G.2.1 kd, arow G kd (sh a).2 μ a) := by
  subst h
  simp [ent, hc]
/-- the heap after a write to one cell -/
theorem Hw.set {G : Gl} {n : Nat} {sh : Sh} {μ μ' : Mu} {H H1 : Heap} {a : Nat} (h : Hw G n sh μ H) (h0 : a ≠ 0) (h1 : a ≤ n) (ho : ∀ b, b ≠ a → ent G sh μ' b = ent G sh μ b) (hP : va_P G.1 cls8 ((wl G n sh μ).set (a - 1) (gZ G + a, ent G sh μ' a)) H1) : Hw G n sh μ' H1 := ⟨wl_set h0 h1 ho ▸ hP, h.2⟩
/-- of a class: its place in the list, its words, its fields -/
def Cl (ci : Nat) (C : String) (T : u_T) (N : Nat) : Prop := cls8[ci]? = some (C, T, N) ∧ (∀ w ∈ u_ws C T N, w ∈ lw_g) ∧ fN ci = N ∧ (∀ k, k < N → parseFieldDescriptor (T k).2.2.1 = some (fty ci k)) ∧ (∀ a, a < N → ∀ b, b < N → a ≠ b → (T a).2.1 ≠ (T b).2.1) ∧ ci < 8
theorem cl_0 : Cl 0 "StripsOfFour$Parts" TX0 4 := ⟨rfl, inX0, rfl, tyX0_ok, nmX0, by decide⟩
theorem cl_1 : Cl 1 "StripsOfFour$Past" TX1 3 := ⟨rfl, inX1, rfl, tyX1_ok, nmX1, by decide⟩
theorem cl_2 : Cl 2 "StripsOfFour$Plan" TX2 6 := ⟨rfl, inX2, rfl, tyX2_ok, nmX2, by decide⟩
theorem cl_3 : Cl 3 "StripsOfFour$Rows" TX3 5 := ⟨rfl, inX3, rfl, tyX3_ok, nmX3, by decide⟩
theorem cl_4 : Cl 4 "StripsOfFour$Scene" TX4 10 := ⟨rfl, inX4, rfl, tyX4_ok, nmX4, by decide⟩
theorem cl_5 : Cl 5 "StripsOfFour$Strip" TX5 5 := ⟨rfl, inX5, rfl, tyX5_ok, nmX5, by decide⟩
theorem cl_6 : Cl 6 "StripsOfFour" TX6 10 := ⟨rfl, inX6, rfl, tyX6_ok, nmX6, by decide⟩
theorem cl_7 : Cl 7 "StripsOfFourModel" TX7 29 := ⟨rfl, inX7, rfl, tyX7_ok, nmX7, by decide⟩
/-! the locals -/
def Lc (G : Gl) (ls : Array Slot) (nL : Nat) (lc : List (Option AV)) : Prop := ls.size = nL ∧ lv_wf ls ∧ ∀ (i : Nat) (v : AV), lc[i]? = some (some v) → ls[i]? = some (.val (av G v))
def lkill (lc : List (Option AV)) (i : Nat) : List (Option AV) := match i with
  | 0 => lc
  | j + 1 => match lc[j]? with
    | some (some (.inr (.inl _))) => lc.set j none
    | _ => lc
def lset1 (lc : List (Option AV)) (i : Nat) (v : AV) : List (Option AV) := (lkill lc i).set i (some v)
def lset2 (lc : List (Option AV)) (i : Nat) (v : AV) : List (Option AV) := ((lkill lc i).set i (some v)).set (i + 1) none
def lmask (lc : List (Option AV)) (ms : List Bool) : List (Option AV) := List.zipWith (fun o b => match b with | true => o | false => none) lc ms
def lvl (G : Gl) (lc : List (Option AV)) : List (Nat × Value) := (List.range lc.length).filterMap (fun j => match lc[j]? with
  | some (some v) => some (j, av G v)
  | _ => none)
theorem lvl_mem {G : Gl} {lc : List (Option AV)} {q : Nat × Value} : q ∈ lvl G lc ↔ ∃ v, lc[q.1]? = some (some v) ∧ q.2 = av G v := by
  simp only [lvl, List.mem_filterMap, List.mem_range]
  constructor
  · rintro ⟨j, hj, h⟩
    cases hl : lc[j]? with
    | none => simp [hl] at h
    | some o =>
      cases o with
      | none => simp [hl] at h
      | some v =>
        simp [hl] at h
        subst h
        exact ⟨v, hl, rfl⟩
  · rintro ⟨v, h1, h2⟩
    refine ⟨q.1, (List.getElem?_eq_some_iff.mp h1).1, ?_⟩
    simp [h1, ← h2]
theorem Lc.has {G : Gl} {ls : Array Slot} {nL : Nat} {lc : List (Option AV)} (h : Lc G ls nL lc) : lv_has ls nL (lvl G lc) := by
  refine ⟨h.1, h.2.1, fun q hq => ?_⟩
  obtain ⟨v, h1, h2⟩ := lvl_mem.mp hq
  rw [h2]
  exact h.2.2 _ _ h1
theorem Lc.at {G : Gl} {ls : Array Slot} {nL : Nat} {lc : List (Option AV)} (h : Lc G ls nL lc) {i : Nat} {v : AV} (hi : lc[i]? = some (some v)) : ls[i]? = some (.val (av G v)) := h.2.2 i v hi
theorem Lc.mask {G : Gl} {ls : Array Slot} {nL : Nat} {lc lc' : List (Option AV)} (h : Lc G ls nL lc) (ms : List Bool) (hm : lmask lc ms = lc') : Lc G ls nL lc' := by
  refine ⟨h.1, h.2.1, fun i v hi => h.2.2 i v ?_⟩
  subst hm
  simp only [lmask, List.getElem?_zipWith] at hi
  cases h1 : lc[i]? with
  | none => simp [h1] at hi
  | some o =>
    cases h2 : ms[i]? with
    | none => simp [h1, h2] at hi
    | some b =>
      cases b
      · simp [h1, h2] at hi
      · simpa [h1, h2] using hi
theorem lkill_get {lc : List (Option AV)} {i j : Nat} {v : AV} (h : (lkill lc i)[j]? = some (some v)) : lc[j]? = some (some v) ∧ (j + 1 = i → cat v ≠ 2) := by
  cases i with
  | zero => exact ⟨h, fun e => absurd e (by omega)⟩
  | succ k =>
    simp only [lkill] at h
    split at h
    · rename_i x hx
      by_cases hj : j = k
      · subst hj
        rw [List.getElem?_set_self (List.getElem?_eq_some_iff.mp hx).1] at h
        cases h
      · rw [List.getElem?_set_ne (Ne.symm hj)] at h
        exact ⟨h, fun e => absurd (by omega) hj⟩
    · rename_i hx
      refine ⟨h, fun e hc => ?_⟩
      have hjk : j = k := by omega
      subst hjk
      rcases v with x | x | x
      · cases hc
      · exact hx x h
      · cases hc
theorem Lc.set1 {G : Gl} {ls' : Array Slot} {nL : Nat} {lc : List (Option AV)} {i : Nat} {v : AV} (hl : lv_has ls' nL ((i, av G v) :: (lvl G lc).filter (fun q => !(q.1 == i) && !(q.1 + 1 == i && q.2.category == 2)))) : Lc G ls' nL (lset1 lc i v) := by
  refine ⟨hl.1, hl.2.1, fun j w hj => ?_⟩
  by_cases hji : j = i
  · subst hji
    unfold lset1 at hj
    rw [List.getElem?_set] at hj
    simp only [if_true] at hj
    split at hj
    · cases hj
      exact hl.2.2 (j, av G v) List.mem_cons_self
    · cases hj
  · unfold lset1 at hj
    rw [List.getElem?_set_ne (Ne.symm hji)] at hj
    obtain ⟨h1, h2⟩ := lkill_get hj
    refine hl.2.2 (j, av G w) (List.mem_cons_of_mem _ (List.mem_filter.mpr ⟨lvl_mem.mpr ⟨w, h1, rfl⟩, ?_⟩))
    simp only [Bool.and_eq_true, Bool.not_eq_true', beq_eq_false_iff_ne, ne_eq, hji, not_false_eq_true, true_and, Bool.and_eq_false_iff]
    by_cases hj2 : j + 1 = i
    · right
      have := h2 hj2
      rw [av_cat]
      simpa using this
    · left
      exact hj2
theorem Lc.set2 {G : Gl} {ls' : Array Slot} {nL : Nat} {lc : List (Option AV)} {i : Nat} {v : AV} (hl : lv_has ls' nL ((i, av G v) :: (lvl G lc).filter (fun q => !(q.1 == i) && (!(q.1 == i + 1) && !(q.1 + 1 == i && q.2.category == 2))))) : Lc G ls' nL (lset2 lc i v) := by
  refine ⟨hl.1, hl.2.1, fun j w hj => ?_⟩
  unfold lset2 at hj
  by_cases hji1 : j = i + 1
  · subst hji1
    rw [List.getElem?_set] at hj
    simp only [if_true] at hj
    split at hj <;> cases hj
  · rw [List.getElem?_set_ne (Ne.symm hji1)] at hj
    by_cases hji : j = i
    · subst hji
      rw [List.getElem?_set] at hj
      simp only [if_true] at hj
      split at hj
      · cases hj
        exact hl.2.2 (j, av G v) List.mem_cons_self
      · cases hj
    · rw [List.getElem?_set_ne (Ne.symm hji)] at hj
      obtain ⟨h1, h2⟩ := lkill_get hj
      refine hl.2.2 (j, av G w) (List.mem_cons_of_mem _ (List.mem_filter.mpr ⟨lvl_mem.mpr ⟨w, h1, rfl⟩, ?_⟩))
      simp only [Bool.and_eq_true, Bool.not_eq_true', beq_eq_false_iff_ne, ne_eq, hji, hji1, not_false_eq_true, true_and, Bool.and_eq_false_iff]
      by_cases hj2 : j + 1 = i
      · right
        have := h2 hj2
        rw [av_cat]
        simpa using this
      · left
        exact hj2

def R_law : String := "StripsOfFourLaw"
def lw_P (b : Addr) (xs : List Int32) (args : Array Value) (s : State) : Prop := args = #[.ref b] ∧ s.IntsAt b xs ∧ xs.length ≤ 2560 ∧ (Jvm.Cond.and given_1 narrow_1).before args s = true
def lw_Q (_ : Array Value) (s : State) (o : Outcome) (t : State) : Prop := o = .returned (some (.int 1)) ∧ Framed s o t [] 600000 7302250
def lw_Z (below : List Frame) (a : Array Value) (s : State) : State → Prop := fun t => ∃ o, t.status = .running ∧ Ended t below o ∧ lw_Q a s o t
/-- the law's own end, with 1 on the stack, nothing written that was there before, its room as the claim has it -/
theorem lw_ret {p : Program} {l : Launch} {e : Env} {s : State} {m : MethodId} {below : List Frame} {meth : Method} {c : Code} {b : Nat} (hx : p.tables.exec = Jvm.exec) (hb : c.code = code) (hr : meth.sig.returnType = ret) (hlocks : meth.locks = false) {pc : Nat} {H : Heap} {ls : Array Slot} (hdg : decode code pc = .ok (.ireturn, 1)) : W p l e room_1 s m #[Value.ref b] below meth c H [] 600000 7302250 (lw_Z below #[Value.ref b] s) (F0 m pc ls [.int 1]) := by
  intro T hT X
  obtain ⟨fs, hret, hrun, hended, hW, hframe⟩ := X.leave (v := some (.int 1)) (hlocks := hlocks) (fun h => by rw [hr] at h; cases h)
  have hmeth' : T.vm.method? m = some meth := X.method'
  refine ⟨T.setFrames fs, ?_, .returned (some (.int 1)), hrun, hended, rfl, ⟨_, rfl⟩, hW, hframe⟩
  jvm_step X.here [X.here.top, hx, hb, hdg, hmeth', hr, ret, narrow_b1]
  (try refine ⟨rfl, ?_⟩); (try refine ⟨rfl, ?_⟩)
  first | (intro acts; rw [hret _ acts rfl rfl rfl]) | rw [hret _ _ rfl rfl rfl]
  exact Steps.refl _
/-- what holds at the law's entry: the machine, the code, the tables' words (any of lw_tbl by 'hts w (by decide +kernel)'), the script of L ints xs at the cell b, what the Statement gives of the start (any of its parts by flat_of_before) -/
def lw_At (p : Program) (s : State) (m : MethodId) (meth : Method) (c : Code) (b L : Nat) (xs : Nat → Int32) : Prop :=
  p.tables.exec = Jvm.exec ∧ c.code = code ∧ meth.sig.returnType = ret ∧ c.maxLocals = 4 ∧ s.vm.findClass R_law = some m.cls ∧ (∀ w ∈ lw_tbl, w.before #[Value.ref b] s = true) ∧ va_X b L xs s s.heap ∧ b < s.heap.size ∧ meth.locks = false ∧ (Jvm.Cond.and given_1 narrow_1).before #[Value.ref b] s = true
def QL (G : Gl) : List Frame → Array Value → State → State → Prop := fun below args s t => args = #[Value.ref (gB G)] → lw_Z below args s t
theorem s_lawret {l : Launch} {G : Gl} {n : Nat} {sh : Sh} {kc js : Nat} {μ : Mu} {pc : Nat} {lc : List (Option AV)} (hd : decode code pc = .ok (.ireturn, 1)) (h1 : kc = n) (h2 : kc ≤ 600000 ∧ js ≤ 7302250) : Sj l G (QL G) (code, 4, "StripsOfFourLaw", "law", some .boolean, room_1) n sh kc js μ pc lc [vi 1] := by
  intro p e s m args below meth c H locs ls cx ks hz hw hS hl
  by_cases ha : args = #[Value.ref (gB G)]
  · subst ha
    have hf : ∀ q ∈ locs, s.heap.size ≤ q.base := fun q hq => by
      have := hS.2.2 q hq
      unfold AA at this
      omega
    have key : W p l e room_1 s m #[Value.ref (gB G)] below meth c H locs kc js (lw_Z below #[Value.ref (gB G)] s) (F0 m pc ls [.int 1]) := by
      refine va_forget hf (W.widen (k := 600000) (n := 7302250) h2.1 h2.2 ?_)
      exact lw_ret cx.1 cx.2.1 cx.2.2.2.2.2.1 cx.2.2.2.2.2.2.1 hd
    intro T hT X
    obtain ⟨t, a1, b1⟩ := key T hT X
    exact ⟨t, a1, fun _ => b1⟩
  · intro T hT X
    exact ⟨_, Steps.refl _, fun h => absurd h ha⟩

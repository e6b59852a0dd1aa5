set_option maxHeartbeats 4000000 in
set_option maxRecDepth 100000 in
theorem whole_start {p : Program} {e : Env} {s : State} {m : MethodId} {below : List Frame} {meth : Method} {c : Code} (l : Launch) {b L : Nat} {xs : Nat → Int32} (hL : L ≤ 2560) (C0 : lw_At p s m meth c b L xs) : W p l e room_1 s m #[Value.ref b] below meth c s.heap [] 0 0 (lw_Z below #[Value.ref b] s) (entryFrame m ([Value.ref b] : List Value).toArray 4) := by
  obtain ⟨hx, hb, hr, hml, hown, hts, hX, hbl, hlocks, hgv⟩ := id C0
  have hg : ∀ w ∈ lw_g, w.before #[Value.ref b] s = true := fun w hw => hts w (lw_gt hw)
  have wn : ∀ w ∈ lw_n, va_Nw w s := fun w hw => by
    have hn := (List.mem_filter.mp hw).2
    have h0 := hts w (List.mem_filter.mp hw).1
    cases w <;> first | exact va_Nw.of rfl h0 | (simp [lw_isN] at hn)
  obtain ⟨c0, i0, k0⟩ := u_known (C := "StripsOfFour$Parts") (T := TX0) (N := 4) (n := 4) hg inX0 (hts (.instantiable "StripsOfFour$Parts" 4) (by decide +kernel))
  obtain ⟨c1, i1, k1⟩ := u_known (C := "StripsOfFour$Past") (T := TX1) (N := 3) (n := 3) hg inX1 (hts (.instantiable "StripsOfFour$Past" 3) (by decide +kernel))
  obtain ⟨c2, i2, k2⟩ := u_known (C := "StripsOfFour$Plan") (T := TX2) (N := 6) (n := 6) hg inX2 (hts (.instantiable "StripsOfFour$Plan" 6) (by decide +kernel))
  obtain ⟨c3, i3, k3⟩ := u_known (C := "StripsOfFour$Rows") (T := TX3) (N := 5) (n := 5) hg inX3 (hts (.instantiable "StripsOfFour$Rows" 5) (by decide +kernel))
  obtain ⟨c4, i4, k4⟩ := u_known (C := "StripsOfFour$Scene") (T := TX4) (N := 10) (n := 10) hg inX4 (hts (.instantiable "StripsOfFour$Scene" 10) (by decide +kernel))
  obtain ⟨c5, i5, k5⟩ := u_known (C := "StripsOfFour$Strip") (T := TX5) (N := 5) (n := 5) hg inX5 (hts (.instantiable "StripsOfFour$Strip" 5) (by decide +kernel))
  obtain ⟨c6, i6, k6⟩ := u_known (C := "StripsOfFour") (T := TX6) (N := 10) (n := 10) hg inX6 (hts (.instantiable "StripsOfFour" 10) (by decide +kernel))
  obtain ⟨c7, i7, k7⟩ := u_known (C := "StripsOfFourModel") (T := TX7) (N := 29) (n := 29) hg inX7 (hts (.instantiable "StripsOfFourModel" 29) (by decide +kernel))
  obtain ⟨dC, dI, hKc⟩ : ∃ (dC : Nat → ClassId) (dI : Nat → Nat → Nat), ∀ (k : Nat) (q : vw_C), cls8[k]? = some q → u_Kn s q.1 q.2.1 q.2.2 (dC k) (dI k) := by
    refine ⟨fun k => match k with | 0 => c0 | 1 => c1 | 2 => c2 | 3 => c3 | 4 => c4 | 5 => c5 | 6 => c6 | _ => c7, fun k => match k with | 0 => i0 | 1 => i1 | 2 => i2 | 3 => i3 | 4 => i4 | 5 => i5 | 6 => i6 | _ => i7, ?_⟩
    intro k q hq
    match k, hq with
    | 0, hq => cases hq; exact k0
    | 1, hq => cases hq; exact k1
    | 2, hq => cases hq; exact k2
    | 3, hq => cases hq; exact k3
    | 4, hq => cases hq; exact k4
    | 5, hq => cases hq; exact k5
    | 6, hq => cases hq; exact k6
    | 7, hq => cases hq; exact k7
    | k + 8, hq => simp [cls8] at hq
  obtain ⟨aI, kI, mI, fI, gI_, hI⟩ := Cond.arrayClass_spec (hts (.arrayClass .int) (by decide +kernel))
  obtain ⟨aJ, kJ, mJ, fJ, gJ_, hJ⟩ := Cond.arrayClass_spec (hts (.arrayClass .long) (by decide +kernel))
  obtain ⟨aZ, kZ, mZ, fZ, gZ_, hZ⟩ := Cond.arrayClass_spec (hts (.arrayClass .boolean) (by decide +kernel))
  have ao1 := hts (.arrayOver (.object "StripsOfFour$Strip")) (by decide +kernel)
  have ao2 := hts (.arrayOver (.object "StripsOfFour$Scene")) (by decide +kernel)
  obtain ⟨mS, aS, kS, hmS, -, gS_, hS_, fS⟩ := Cond.arrayOver_spec ao1
  obtain ⟨mC, aC, kC, hmC, -, gC_, hC_, fC⟩ := Cond.arrayOver_spec ao2
  have hs := flat_of_before _ hgv
  have hA : ∀ a : Nat, a < s.heap.size → ¬ (fun q : Nat => s.heap.size - 1 < q) a := fun a ha h => by
    have : s.heap.size - 1 < a := h
    omega
  obtain ⟨t, ht, hT⟩ := va_Tof (tm := .static "StripsOfFour" "HUNDREDS" "[I") (ty := .int) (N := 5) (f := fun j => .int (hun j)) (A := fun q : Nat => s.heap.size - 1 < q) (args := #[Value.ref b]) (s := s) (by decide) (hs _ (by decide +kernel)) (va_eqt (z := 5) (hs _ (by decide +kernel))) (fun j hj => by
    rcases (show j = 0 ∨ j = 1 ∨ j = 2 ∨ j = 3 ∨ j = 4 by omega) with rfl | rfl | rfl | rfl | rfl
    · exact va_eqt (z := 1) (hs _ (by decide +kernel))
    · exact va_eqt (z := 100) (hs _ (by decide +kernel))
    · exact va_eqt (z := 10000) (hs _ (by decide +kernel))
    · exact va_eqt (z := 1000000) (hs _ (by decide +kernel))
    · exact va_eqt (z := 100000000) (hs _ (by decide +kernel))) hA
  have hZs := va_Zof (A := fun q : Nat => s.heap.size - 1 < q) (hts (.laysStatic "StripsOfFour" "HUNDREDS" "[I") (by decide +kernel)) (hts (.initialized "StripsOfFour") (by decide +kernel)) ht hA
  let G : Gl := ((dC, dI), (fun k => match k with | 8 => aI | 9 => aJ | 10 => aZ | 11 => aS | _ => aC), s.heap.size - 1, t, b, L, xs)
  have hK : va_K G.1 cls8 (tys5 G) s := by
    refine ⟨hKc, fun k q hk => ?_⟩
    match k, hk with
    | 0, hk => cases hk; exact ⟨fun n z => ⟨fun _ h => (by cases h), kI, gI_, mI, hI⟩, fI⟩
    | 1, hk => cases hk; exact ⟨fun n z => ⟨fun _ h => (by cases h), kJ, gJ_, mJ, hJ⟩, fJ⟩
    | 2, hk => cases hk; exact ⟨fun n z => ⟨fun _ h => (by cases h), kZ, gZ_, mZ, hZ⟩, fZ⟩
    | 3, hk => cases hk; exact ⟨fun n z => ⟨fun _ h => (by cases h), kS, gS_, mS, hS_⟩, kS, mS, gS_, hS_, hmS, fS⟩
    | 4, hk => cases hk; exact ⟨fun n z => ⟨fun _ h => (by cases h), kC, gC_, mC, hC_⟩, kC, mC, gC_, hC_, hmC, fC⟩
    | k + 5, hk => simp [tys5] at hk
  have hks : Ks G s := ⟨hK, hZs, hT, hX, wn, va_AO.of ao1, va_AO.of ao2, (by show b ≤ s.heap.size - 1; omega), (by show s.heap.size - 1 < s.heap.size; omega)⟩
  have hSj : Sj l G (QL G) c_L_law 0 sh0 0 0 μ0 0 [some (vq (gB G)), none, none, none] [] := t_L_law rfl rfl (law_ok L xs hL)
  have hle := lv_entry ([.ref b]) (n := 4) (Nat.le_of_ble_eq_true rfl)
  rw [lg_entry_eq]
  have hlc : Lc G ((lg_sl [Value.ref b] ++ List.replicate (4 - (lg_sl [Value.ref b]).length) Slot.unset).toArray) 4 [some (vq (gB G)), none, none, none] := by
    refine ⟨hle.1, hle.2.1, fun i v hi => ?_⟩
    match i, hi with
    | 0, hi => cases hi; exact hle.2.2 (0, .ref b) List.mem_cons_self
    | 1, hi => cases hi
    | 2, hi => cases hi
    | 3, hi => cases hi
    | i + 4, hi => simp at hi
  have key := hSj p e s m #[Value.ref b] below meth c s.heap [] _ ⟨hx, hb, hml, hown, hg, hr, hlocks, fun h => absurd h (by decide)⟩ hks (by show s.heap.size + 0 = s.heap.size - 1 + 1 + 0; omega) ⟨(fun k q h => by simp [wl] at h), fun a _ => rfl⟩ va_S.rf hlc
  intro T hT X
  obtain ⟨t', a1, b1⟩ := key T hT X
  exact ⟨t', a1, b1 rfl⟩
-- ===== YOUR PART ENDS =====
set_option maxHeartbeats 4000000 in
theorem lw_walk (l : Launch) (b : Addr) (xs : List Int32) : MetFree l x (headSpec (Jvm.Cond.code x code maxLocals ret :: tables_1) room_1) (lw_P b xs) (fun _ _ _ _ _ => True) lw_Q := by
  refine MetFree.of_bodyS (code := code) (maxLocals := maxLocals) (ret := ret) (by decide) ?_ ?_
  · intro args s m h hn
    obtain ⟨meth, c, h1, h2, h3, h4, h5, h6, -, -⟩ := Cond.code_spec hn (atoms_spec (ws := Jvm.Cond.code x code maxLocals ret :: tables_1) h _ List.mem_cons_self)
    exact ⟨meth, c, h1, h2, h3, h4, h5, h6⟩
  · intro p e s m args below meth c s₁ B hml0 hP _
    obtain ⟨rfl, hx, hbd, hgv⟩ := hP
    obtain ⟨scr, harrAt, hlist, hof, hsmall⟩ := hx
    obtain ⟨hcb, hkn, -, -⟩ := State.arrayAt?_spec harrAt
    have hown : s.vm.findClass R_law = some m.cls := findClass_of_methodNamed B.named
    have hts0 : ∀ c ∈ (Jvm.Cond.code x code maxLocals ret :: tables_1), c.before #[Value.ref b] s = true := atoms_spec (ws := Jvm.Cond.code x code maxLocals ret :: tables_1) B.pre
    have hts : ∀ w ∈ lw_tbl, w.before #[Value.ref b] s = true := k2_hts_sels lw_privs (fun w hw => hts0 w (List.mem_cons_of_mem _ hw)) lw_privs_ok
    have hml : c.maxLocals = 4 := B.maxLocals_eq (hts0 _ List.mem_cons_self)
    have X₀ : Stand p l e room_1 s m #[Value.ref b] below meth c s₁ [] 0 0 := Stand.of_body B
    have hh0 : s₁.heap = s.heap := by rw [B.state]; rfl
    have hsz : scr.slots.size = xs.length := by rw [← Array.length_toList, hlist, List.length_map]
    have hval : ∀ j : Nat, j < xs.length → scr.slots[j]? = some (.int (xs.getD j 0)) := fun j hj => by
      rw [← Array.getElem?_toList, hlist]
      simp [hj]
    have hbl : b < s.heap.size := (Array.getElem?_eq_some_iff.mp hcb).1
    have hX : va_X b xs.length (fun j => xs.getD j 0) s s.heap := ⟨scr, hcb, hof, hkn, hsz, hval⟩
    have K : W p l e room_1 s m #[Value.ref b] below meth c s₁.heap [] 0 0 (lw_Z below #[Value.ref b] s) (entryFrame m ([Value.ref b] : List Value).toArray 4) := by
      rw [hh0]
      exact whole_start l hbd ⟨B.exec, B.bytes, B.returns, hml, hown, hts, hX, hbl, B.notSynchronized, hgv⟩
    obtain ⟨t, a1, o, b1, b2, b3⟩ := K s₁ rfl X₀
    exact ⟨t, o, a1, b1, b2, b3⟩
theorem lw_pre_spec {args : Array Value} {s : State} (h : (Jvm.Cond.and given_1 narrow_1).before args s = true) (hr : rest_1_c.before args s = true) : ∃ (b : Addr) (xs : List Int32), lw_P b xs args s := by
  have hs := flat_of_before _ h
  have hq := flat_of_before _ hr
  have hc : (Cond.count 1).before args s = true := hs _ (by decide +kernel)
  have harr : (Cond.arrayOf (.arg 0) .int).before args s = true := hs _ (by decide +kernel)
  have hle : (Cond.le (.length (.arg 0)) (.int 2560)).before args s = true := hs _ (by decide +kernel)
  have hlen : (Cond.isInt (.length (.arg 0))).before args s = true := hq _ (by decide +kernel)
  have hall : (Cond.all (.arg 0) (.isInt (.elem (.arg 0) (.index 0)))).before args s = true := hq _ (by decide +kernel)
  obtain ⟨b, xs, hb, hx⟩ := State.ints_of_pre rfl harr hlen hall
  have hsm : xs.length < 2 ^ 31 := hx.choose_spec.2.2.2
  have hev : (Term.length (.arg 0)).eval args s none [] s = some (.int xs.length.toInt32) := hx.length_eval hb
  have hv := Cond.le_ints hev (show (Term.int 2560).eval args s none [] s = some (.int 2560) from rfl)
  have hd : xs.length.toInt32 ≤ 2560 := by
    simpa [Cond.before, Cond.holds, hv] using hle
  have hN : xs.length ≤ 2560 := (Int32.ofNat_le_ofNat hsm (by decide)).mp (show Int32.ofNat xs.length ≤ Int32.ofNat 2560 from hd)
  exact ⟨b, xs, Cond.one_arg hc (show args[0]? = some (.ref b) from hb), hx, hN, h⟩
theorem lw_comes (l : Launch) : Comes l x (Jvm.Cond.code x code maxLocals ret :: tables_1) room_1 (fun tb e args s => Calls_1 tb e args s ∧ rest_1 tb e args s ∧ Pre_1 tb e args s)
    (fun _ _ args s o t => lw_Q args s o t) := by
  intro p e ha hc hk s m args below hf hfit hheap happ hpre
  obtain ⟨b, xs, hP⟩ := lw_pre_spec hpre.2.2 hpre.2.1
  obtain ⟨k, o, h1, h2, h3, hQ⟩ := lw_walk l b xs p e ha hc hk s m args below hf ((Spec.applies_iff_loose hf).mp happ).1 hP trivial
  exact ⟨k, o, h1, h2, h3, hQ⟩
theorem lw_frame {s t : State} {o : Outcome} {args : Array Value} (h : Framed s o t [] 600000 7302250) :
    Framed s o t (fieldLocs frame_1_writes args s ++ arrayLocs frame_1_arrays args s ++ staticLocs frame_1_statics s) 600000 7302250 := h
theorem lw_limb (L : Cond) (hL : ∀ (args : Array Value) (s t : State), L.after args s (.returned (some (.int 1))) t = true) :
    ArmFor flags0 classFile x code maxLocals ret World_1 tables_1 room_1 Calls_1 rest_1 Pre_1
      (fun tb e a s o t => postC L tb e a s o t ∧ Framed s o t (fieldLocs frame_1_writes a s ++ arrayLocs frame_1_arrays a s ++ staticLocs frame_1_statics s) 600000 7302250) := by
  intro l _ _ _ p e ha hc hk s m args below hf hfit hheap happ hpre
  obtain ⟨k, o, h1, h2, h3, rfl, hF⟩ := lw_comes l p e ha hc hk s m args below hf hfit hheap happ hpre
  exact ⟨k, _, h1, h2, h3, hL args s _, lw_frame hF⟩
theorem i_vc : Claimed_1_1 ∧ Claimed_1_2 := ⟨lw_limb limb_1_1 (fun args s t => by simp [limb_1_1, Cond.after, Cond.holds, Cond.value]), lw_limb limb_1_2 (fun args s t => Cond.after_iff.mpr (by
  first | (rw [show limb_1_2 = Cond.eq .result (.int 1) from rfl, Cond.eq_ints (x := 1) (y := 1) rfl rfl]; simp; done) | (simp [limb_1_2, Cond.value, Term.eval]; done)))⟩

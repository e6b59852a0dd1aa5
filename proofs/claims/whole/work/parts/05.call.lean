/-! new cells -/
def shn (sh : Sh) (a kd len : Nat) : Sh := fun b => if b = a then (kd, len) else sh b
def zr (μ : Mu) (a : Nat) : Mu := (fun b j => if b = a then 0 else μ.1 b j, fun b j => if b = a then 0 else μ.2.1 b j, fun b j => if b = a then 0 else μ.2.2 b j)
theorem gI_zr (μ : Mu) (a b j : Nat) : gI (zr μ a) b j = if b = a then 0 else gI μ b j := rfl
theorem gJ_zr (μ : Mu) (a b j : Nat) : gJ (zr μ a) b j = if b = a then 0 else gJ μ b j := rfl
theorem gR_zr (μ : Mu) (a b j : Nat) : gR (zr μ a) b j = if b = a then 0 else gR μ b j := rfl
theorem ent_new {G : Gl} {sh : Sh} {μ : Mu} {a b kd len : Nat} (h : b ≠ a) : ent G (shn sh a kd len) (zr μ a) b = ent G sh μ b := by
  have e : shn sh a kd len b = sh b := by simp [shn, h]
  have e1 : gI (zr μ a) b = gI μ b := funext fun j => by rw [gI_zr, if_neg h]
  have e2 : gJ (zr μ a) b = gJ μ b := funext fun j => by rw [gJ_zr, if_neg h]
  have e3 : gR (zr μ a) b = gR μ b := funext fun j => by rw [gR_zr, if_neg h]
  simp only [ent, flds, arow, e, e1, e2, e3]
theorem wl_push {G : Gl} {n : Nat} {sh : Sh} {μ : Mu} {kd len : Nat} : wl G (n + 1) (shn sh (n + 1) kd len) (zr μ (n + 1)) = wl G n sh μ ++ [(gZ G + (n + 1), ent G (shn sh (n + 1) kd len) (zr μ (n + 1)) (n + 1))] := by
  simp only [wl, List.range_succ, List.map_append, List.map_cons, List.map_nil]
  congr 1
  apply List.map_congr_left
  intro i hi
  have := List.mem_range.mp hi
  rw [ent_new (by omega)]
/-- where the new cell lies: nowhere else is room -/
theorem new_at {G : Gl} {n : Nat} {sh : Sh} {μ : Mu} {H1 : Heap} {q : Nat} {x : va_E} (hP : va_P G.1 cls8 (wl G n sh μ ++ [(q, x)]) H1) (hD : va_D (AA G) (wl G n sh μ ++ [(q, x)])) (hs : H1.size ≤ gZ G + 1 + n + 1) : q = gZ G + (n + 1) := by
  have hl : (wl G n sh μ).length = n := by simp [wl]
  have hq : (wl G n sh μ ++ [(q, x)])[n]? = some (q, x) := by rw [List.getElem?_append_right (by omega), hl, Nat.sub_self]; rfl
  have h1 := (hP n _ hq).lt
  have h2 : gZ G < q := hD.2 n _ hq
  have h1' : q < H1.size := h1
  by_cases he : q = gZ G + (n + 1)
  · exact he
  · have h3 : q - gZ G - 1 < n := by omega
    have h4 := wl_get (G := G) (n := n) (sh := sh) (μ := μ) (a := q - gZ G) (by omega) (by omega)
    rw [← List.getElem?_append_left (by omega) (l₂ := [(q, x)])] at h4
    have h5 := hD.1 (q - gZ G - 1) n _ _ h4 hq (by show gZ G + (q - gZ G) = q; omega)
    omega
theorem Hw.push {G : Gl} {n : Nat} {sh : Sh} {μ : Mu} {H H1 : Heap} {kd len : Nat} (h : Hw G n sh μ H) (hP : va_P G.1 cls8 (wl G n sh μ ++ [(gZ G + (n + 1), ent G (shn sh (n + 1) kd len) (zr μ (n + 1)) (n + 1))]) H1) : Hw G (n + 1) (shn sh (n + 1) kd len) (zr μ (n + 1)) H1 := by
  refine ⟨wl_push ▸ hP, fun a ha => ?_⟩
  have hne : a ≠ n + 1 := by omega
  simp only [shn, hne, if_false]
  exact h.2 a (by omega)
def okty : FieldType → Bool
  | .int => true
  | .long => true
  | .boolean => true
  | .object _ => true
  | .array _ => true
  | _ => false
theorem okty_all : ∀ ci, ci < 8 → ∀ k, k < fN ci → okty (fty ci k) = true := by decide
theorem fv_def {G : Gl} {t : FieldType} (h : okty t = true) : defaultValue t = fv G t 0 0 0 := by
  cases t <;> first | rfl | exact rf_z.symm | (simp [okty] at h)
section SN
variable {l : Launch} {G : Gl} {Qf : List Frame → Array Value → State → State → Prop} {c0 : Cf} {n : Nat} {sh : Sh} {kc js : Nat} {μ : Mu} {pc : Nat} {lc lc' : List (Option AV)} {st : List AV}
theorem s_new {ci idx N : Nat} {C : String} {T : u_T} (hC : Cl ci C T N) (hd : decode c0.1 pc = .ok (.new idx, 3)) (h1 : Cond.classLink c0.2.2.1 idx C ∈ lw_g) (h2 : Cond.instantiable C N ∈ lw_g) (h3 : Cond.initialized C ∈ lw_g) (hr : kc + 1 ≤ c0.2.2.2.2.2.cells ∧ js + N ≤ c0.2.2.2.2.2.slots) (kk : Sj l G Qf c0 (n + 1) (shn sh (n + 1) ci N) (kc + 1) (js + N) (zr μ (n + 1)) (pc + 3) lc (vr (n + 1) :: st)) : Sj l G Qf c0 n sh kc js μ pc lc st := by
  intro p e s m args below meth c H locs ls cx ks hz hw hS hl
  obtain ⟨c1, c2, c3, c4, c5, c6⟩ := hC
  have hA : ∀ q, s.heap.size ≤ q → AA G q := fun q hq => by
    have := ks.2.2.2.2.2.2.2.2
    unfold AA
    omega
  have en : ent G (shn sh (n + 1) ci N) (zr μ (n + 1)) (n + 1) = .inr (ci, flds G ci (zr μ (n + 1)) (n + 1)) := ent_obj (by simp [shn]) c6
  refine va_new (fs := flds G ci (zr μ (n + 1)) (n + 1)) cx.1 cx.2.1 cx.2.2.2.2.1 c2 (fty ci) c4 cx.2.2.2.1 (cx.2.2.2.2.1 _ h1) (cx.2.2.2.2.1 _ h2) (cx.2.2.2.2.1 _ h3) ks.1 hw.1 wl_D hS hA c1 (fun j hj => ?_) hr.1 hr.2 hd (fun q H1 hP hD hS1 => W.sz fun hsz => ?_)
  · have hj' : j < fN ci := by omega
    rw [vp_V, List.getD_eq_getElem?_getD, flds_get hj', fv_def (G := G) (okty_all ci c6 j hj'), gI_zr, gJ_zr, gR_zr, if_pos rfl, if_pos rfl, if_pos rfl]
    rfl
  · have hq := new_at hP hD (by omega)
    subst hq
    have ee : av G (vr (n + 1)) = .ref (gZ G + (n + 1)) := rf_nz (by omega)
    have hk := kk p e s m args below meth c H1 locs ls cx ks (by omega) (hw.push (by rw [en]; exact hP)) hS1 hl
    rw [List.map_cons, ee] at hk
    exact hk
theorem s_newa {kd : Nat} {at_ : ArrayType} {ty : FieldType} {z : Int32} {N : Nat} (hk : (kd = 8 ∧ ty = .int) ∨ (kd = 9 ∧ ty = .long) ∨ (kd = 10 ∧ ty = .boolean)) (hd : decode c0.1 pc = .ok (.newarray at_, 2)) (hty : newarray.typeOf at_ = ty) (h1 : Cond.arrayClass ty ∈ lw_g) (hn : ¬ z < 0) (hN : z.toNatClampNeg = N) (hb : N ≤ 65536) (hr : kc + 1 ≤ c0.2.2.2.2.2.cells ∧ js + N ≤ c0.2.2.2.2.2.slots) (kk : Sj l G Qf c0 (n + 1) (shn sh (n + 1) kd N) (kc + 1) (js + N) (zr μ (n + 1)) (pc + 2) lc (vr (n + 1) :: st)) : Sj l G Qf c0 n sh kc js μ pc lc (vi z :: st) := by
  intro p e s m args below meth c H locs ls cx ks hz hw hS hl
  have hA : ∀ q, s.heap.size ≤ q → AA G q := fun q hq => by
    have := ks.2.2.2.2.2.2.2.2
    unfold AA
    omega
  have hsh : shn sh (n + 1) kd N (n + 1) = (kd, N) := by simp [shn]
  have en : ent G (shn sh (n + 1) kd N) (zr μ (n + 1)) (n + 1) = .inl (G.2.1 kd, arow G kd N (zr μ (n + 1)) (n + 1)) := by
    rw [ent_arr (kd := kd) (by rw [hsh]) (by omega), hsh]
  have gi : gI (zr μ (n + 1)) (n + 1) = fun _ => 0 := funext fun j => by rw [gI_zr, if_pos rfl]
  have gj : gJ (zr μ (n + 1)) (n + 1) = fun _ => 0 := funext fun j => by rw [gJ_zr, if_pos rfl]
  have hcell : ∀ cA : ClassId, vp_cell cA (arow G kd N (zr μ (n + 1)) (n + 1)) = arrV cA N (fun _ => defaultValue ty) := by
    intro cA
    rcases hk with ⟨rfl, rfl⟩ | ⟨rfl, rfl⟩ | ⟨rfl, rfl⟩
    · show vp_cell cA (N, .inl (gI (zr μ (n + 1)) (n + 1))) = _
      rw [gi]; rfl
    · show vp_cell cA (N, .inr (.inl (gJ (zr μ (n + 1)) (n + 1)))) = _
      rw [gj]; rfl
    · show vp_cell cA (N, .inl (gI (zr μ (n + 1)) (n + 1))) = _
      rw [gi]; rfl
  have hby : N * componentBytes ty ≤ 536870912 := by
    rcases hk with ⟨-, rfl⟩ | ⟨-, rfl⟩ | ⟨-, rfl⟩ <;> (simp [componentBytes]; try omega)
  refine va_newa (a0 := arow G kd N (zr μ (n + 1)) (n + 1)) cx.1 cx.2.1 (by rw [hty]; exact cx.2.2.2.2.1 _ h1) hty ks.1 hw.1 wl_D hS hA hcell hn hN hby hr.1 hr.2 hd (fun q cA H1 hK hP hD hS1 => W.sz fun hsz => ?_)
  have hcA : cA = G.2.1 kd := by
    have k1 := (hK.2 5 (cA, ty) (by simp [tys5])).2
    rcases hk with ⟨rfl, rfl⟩ | ⟨rfl, rfl⟩ | ⟨rfl, rfl⟩
    · have k2 := (ks.1.2 0 (G.2.1 8, .int) rfl).2
      exact Option.some.inj ((show s.vm.findClass _ = some cA from k1).symm.trans k2)
    · have k2 := (ks.1.2 1 (G.2.1 9, .long) rfl).2
      exact Option.some.inj ((show s.vm.findClass _ = some cA from k1).symm.trans k2)
    · have k2 := (ks.1.2 2 (G.2.1 10, .boolean) rfl).2
      exact Option.some.inj ((show s.vm.findClass _ = some cA from k1).symm.trans k2)
  subst hcA
  have hq := new_at hP hD (by omega)
  subst hq
  have ee : av G (vr (n + 1)) = .ref (gZ G + (n + 1)) := rf_nz (by omega)
  have hk := kk p e s m args below meth c H1 locs ls cx ks (by omega) (hw.push (by rw [en]; exact hP)) hS1 hl
  rw [List.map_cons, ee] at hk
  exact hk
theorem s_newq {kd ti idx : Nat} {C : String} {z : Int32} {N : Nat} (hk : (kd = 11 ∧ ti = 3 ∧ C = "StripsOfFour$Strip") ∨ (kd = 12 ∧ ti = 4 ∧ C = "StripsOfFour$Scene")) (hd : decode c0.1 pc = .ok (.anewarray idx, 3)) (h1 : Cond.classLink c0.2.2.1 idx C ∈ lw_g) (hn : ¬ z < 0) (hN : z.toNatClampNeg = N) (hb : N ≤ 65536) (hr : kc + 1 ≤ c0.2.2.2.2.2.cells ∧ js + N ≤ c0.2.2.2.2.2.slots) (kk : Sj l G Qf c0 (n + 1) (shn sh (n + 1) kd N) (kc + 1) (js + N) (zr μ (n + 1)) (pc + 3) lc (vr (n + 1) :: st)) : Sj l G Qf c0 n sh kc js μ pc lc (vi z :: st) := by
  intro p e s m args below meth c H locs ls cx ks hz hw hS hl
  have hA : ∀ q, s.heap.size ≤ q → AA G q := fun q hq => by
    have := ks.2.2.2.2.2.2.2.2
    unfold AA
    omega
  have hsh : shn sh (n + 1) kd N (n + 1) = (kd, N) := by simp [shn]
  have en : ent G (shn sh (n + 1) kd N) (zr μ (n + 1)) (n + 1) = .inl (G.2.1 kd, N, .inr (.inr (.inr (.inr (fun _ => none))))) := by
    rw [ent_arr (kd := kd) (by rw [hsh]) (by omega), hsh]
    have gr : (fun k => ro G (gR (zr μ (n + 1)) (n + 1) k)) = fun _ => none := funext fun j => by rw [gR_zr, if_pos rfl]; simp [ro]
    rcases hk with ⟨rfl, -⟩ | ⟨rfl, -⟩
    · show (Sum.inl (G.2.1 11, N, .inr (.inr (.inr (.inr (fun k => ro G (gR (zr μ (n + 1)) (n + 1) k)))))) : va_E) = _
      rw [gr]
    · show (Sum.inl (G.2.1 12, N, .inr (.inr (.inr (.inr (fun k => ro G (gR (zr μ (n + 1)) (n + 1) k)))))) : va_E) = _
      rw [gr]
  have hAO : va_AO C s := by
    rcases hk with ⟨-, -, rfl⟩ | ⟨-, -, rfl⟩
    · exact ks.2.2.2.2.2.1
    · exact ks.2.2.2.2.2.2.1
  refine va_newq cx.1 cx.2.1 cx.2.2.2.1 (cx.2.2.2.2.1 _ h1) hAO ks.1 hw.1 wl_D hS hA hn hN (by omega) hr.1 hr.2 hd (fun q cA H1 hK hP hD hS1 => W.sz fun hsz => ?_)
  have hcA : cA = G.2.1 kd := by
    obtain ⟨-, kA, comp, -, -, -, k1⟩ := hK.2 5 (cA, .object C) (by simp [tys5])
    rcases hk with ⟨rfl, -, rfl⟩ | ⟨rfl, -, rfl⟩
    · obtain ⟨-, kA2, comp2, -, -, -, k2⟩ := ks.1.2 3 (G.2.1 11, .object "StripsOfFour$Strip") rfl
      exact Option.some.inj (k1.symm.trans k2)
    · obtain ⟨-, kA2, comp2, -, -, -, k2⟩ := ks.1.2 4 (G.2.1 12, .object "StripsOfFour$Scene") rfl
      exact Option.some.inj (k1.symm.trans k2)
  subst hcA
  have hq := new_at hP hD (by omega)
  subst hq
  have ee : av G (vr (n + 1)) = .ref (gZ G + (n + 1)) := rf_nz (by omega)
  have hk := kk p e s m args below meth c H1 locs ls cx ks (by omega) (hw.push (by rw [en]; exact hP)) hS1 hl
  rw [List.map_cons, ee] at hk
  exact hk
theorem s_objInit {idx a : Nat} (hd : decode c0.1 pc = .ok (.invokespecial idx, 3)) (h0 : a ≠ 0) (h1 : Cond.methodLink c0.2.2.1 idx objectInit ∈ lw_g) (h2 : Cond.instanceMethod objectInit ∈ lw_g) (h3 : Cond.code objectInit ⟨#[0xb1]⟩ 1 none ∈ lw_g) (hf : 1 ≤ c0.2.2.2.2.2.frames) (hlo : (st.map cat).sum + 12 ≤ c0.2.2.2.2.2.locals) (kk : Sj l G Qf c0 n sh kc js μ (pc + 3) lc st) : Sj l G Qf c0 n sh kc js μ pc lc (vr a :: st) := by
  intro p e s m args below meth c H locs ls cx ks hz hw hS hl
  have ee : av G (vr a) = .ref (gZ G + a) := rf_nz h0
  rw [List.map_cons, ee]
  refine W.objInit cx.1 cx.2.1 cx.2.2.2.1 (cx.2.2.2.2.1 _ h1) (cx.2.2.2.2.1 _ h2) (cx.2.2.2.2.1 _ h3) rfl (by rw [cx.2.2.1]; exact hl.1) rfl hd hf ?_ (kk p e s m args below meth c H locs ls cx ks hz hw hS hl)
  show 2 * 0 + ((st.map (av G)).map fun v => v.category).sum + 12 ≤ _
  rw [List.map_map, show ((fun v : Value => v.category) ∘ av G) = cat from funext fun v => av_cat G v]
  omega
/-- arraycopy of ints between rows of ints -/
def cpI (μ : Mu) (a0 a : Nat) (sp dp k : Nat) : Mu := (fun b => if b = a then va_cpy (gI μ a0) (gI μ a) sp dp k else μ.1 b, μ.2.1, μ.2.2)
def ixC (sh : Sh) (a : Nat) (p k : Int32) : Bool := (sh a).1 == 8 && (decide (0 ≤ p) && (decide (0 ≤ k) && decide (p.toNatClampNeg + k.toNatClampNeg ≤ (sh a).2)))
theorem s_copyI {idx a0 a : Nat} {sp dp k : Int32} (hd : decode c0.1 pc = .ok (.invokestatic idx, 3)) (hok : ixC sh a0 sp k = true) (hok2 : ixC sh a dp k = true) (h1 : Cond.methodLink c0.2.2.1 idx arraycopyName ∈ lw_g) (h2 : Cond.native arraycopyName ∈ lw_g) (h3 : Cond.static arraycopyName ∈ lw_g) (h4 : Cond.initialized "java/lang/System" ∈ lw_g) (hf : 1 ≤ c0.2.2.2.2.2.frames) (hlo : (st.map cat).sum + (nativeFrameWords "java/lang/System" "arraycopy" 5 + 11) ≤ c0.2.2.2.2.2.locals) (kk : Sj l G Qf c0 n sh kc js (cpI μ a0 a sp.toNatClampNeg dp.toNatClampNeg k.toNatClampNeg) (pc + 3) lc st) : Sj l G Qf c0 n sh kc js μ pc lc (vi k :: vi dp :: vr a :: vi sp :: vr a0 :: st) := by
  intro p e s m args below meth c H locs ls cx ks hz hw hS hl
  simp only [ixC, Bool.and_eq_true, beq_iff_eq, decide_eq_true_eq] at hok hok2
  obtain ⟨ha0, p1, p2, p3⟩ := hok
  obtain ⟨ha, q1, q2, q3⟩ := hok2
  obtain ⟨z0, z1⟩ := hw.ok (a := a0) (by omega)
  obtain ⟨y0, y1⟩ := hw.ok (a := a) (by omega)
  have he0 : (wl G n sh μ)[a0 - 1]? = some (gZ G + a0, .inl (G.2.1 8, (sh a0).2, .inl (gI μ a0))) := by rw [wl_get z0 z1, ent_arr ha0 (by decide)]; rfl
  have he : (wl G n sh μ)[a - 1]? = some (gZ G + a, .inl (G.2.1 8, (sh a).2, .inl (gI μ a))) := by rw [wl_get y0 y1, ent_arr ha (by decide)]; rfl
  have ee0 : av G (vr a0) = .ref (gZ G + a0) := rf_nz z0
  have ee : av G (vr a) = .ref (gZ G + a) := rf_nz y0
  rw [List.map_cons, List.map_cons, List.map_cons, List.map_cons, List.map_cons, ee, ee0]
  refine va_copyi cx.1 cx.2.1 (by rw [cx.2.2.1]; exact hl.1.symm) cx.2.2.2.1 (cx.2.2.2.2.1 _ h1) (cx.2.2.2.2.1 _ h2) (cx.2.2.2.2.1 _ h3) (cx.2.2.2.2.1 _ h4) ks.1 hw.1 wl_D hS (a0 - 1) (a - 1) 0 0 he0 he rfl rfl rfl (Int32.not_lt.mpr p1) (Int32.not_lt.mpr q1) (Int32.not_lt.mpr p2) p3 q3 (fun i hi => rfl) hf ?_ hd (fun H1 locs1 hP hD hS1 => ?_)
  · rw [List.map_map, show ((fun v : Value => v.category) ∘ av G) = cat from funext fun v => av_cat G v]
    exact hlo
  · have hgI : ∀ b, b ≠ a → ∀ j, gI (cpI μ a0 a sp.toNatClampNeg dp.toNatClampNeg k.toNatClampNeg) b j = gI μ b j := fun b hb j => by simp [gI, cpI, hb]
    refine kk p e s m args below meth c H1 locs1 ls cx ks hz (hw.set y0 y1 (fun b hb => ent_oth (hgI b hb) (fun j => rfl) (fun j => rfl)) ?_) hS1 hl
    have er : gI (cpI μ a0 a sp.toNatClampNeg dp.toNatClampNeg k.toNatClampNeg) a = va_cpy (gI μ a0) (gI μ a) sp.toNatClampNeg dp.toNatClampNeg k.toNatClampNeg := by
      funext j
      simp [gI, cpI]
    have en : ent G sh (cpI μ a0 a sp.toNatClampNeg dp.toNatClampNeg k.toNatClampNeg) a = .inl (G.2.1 8, (sh a).2, .inl (va_cpy (gI μ a0) (gI μ a) sp.toNatClampNeg dp.toNatClampNeg k.toNatClampNeg)) := by
      rw [ent_arr ha (by decide), ← er]
      rfl
    rw [en]
    exact hP
end SN
/-! contracts -/
def Ct (l : Launch) (G : Gl) (y : MethodName) (bytes : ByteArray) (maxL : Nat) (ret : Option FieldType) (rm : Room) (n : Nat) (sh : Sh) (μ : Mu) (as : List AV) (v : Option Value) (n' : Nat) (sh' : Sh) (μ' : Mu) : Prop :=
  Met l y (.code y bytes maxL ret :: lw_g) rm (va_Pc (as.map (av G)) (fun U => Ks G U ∧ Hw G n sh μ U.heap ∧ U.heap.size = gZ G + 1 + n)) (fun _ st o t => o = .returned v ∧ Hw G n' sh' μ' t.heap ∧ va_F (AA G) st t) rm.cells rm.slots (AA G)
def lent : List AV → List (Option AV)
  | [] => []
  | .inr (.inl x) :: r => some (vl x) :: none :: lent r
  | v :: r => some v :: lent r
theorem lent_args (G : Gl) : ∀ (as : List AV) (o i : Nat) (v : AV), (lent as)[i]? = some (some v) → (o + i, av G v) ∈ lv_args o (as.map (av G))
  | [], o, i, v, h => by simp [lent] at h
  | .inl x :: r, o, i, v, h => by
    cases i with
    | zero => simp [lent] at h; subst h; exact List.mem_cons_self
    | succ i =>
      have h' : (lent r)[i]? = some (some v) := by simpa [lent] using h
      have ih := lent_args G r (o + 1) i v h'
      rw [show o + 1 + i = o + (i + 1) by omega] at ih
      exact List.mem_cons_of_mem _ ih
  | .inr (.inl x) :: r, o, i, v, h => by
    match i, h with
    | 0, h => simp [lent] at h; subst h; exact List.mem_cons_self
    | 1, h => simp [lent] at h
    | i + 2, h =>
      have h' : (lent r)[i]? = some (some v) := by simpa [lent] using h
      have ih := lent_args G r (o + 2) i v h'
      rw [show o + 2 + i = o + (i + 2) by omega] at ih
      exact List.mem_cons_of_mem _ ih
  | .inr (.inr x) :: r, o, i, v, h => by
    cases i with
    | zero => simp [lent] at h; subst h; exact List.mem_cons_self
    | succ i =>
      have h' : (lent r)[i]? = some (some v) := by simpa [lent] using h
      have ih := lent_args G r (o + 1) i v h'
      rw [show o + 1 + i = o + (i + 1) by omega] at ih
      have hc : (av G (.inr (.inr x))).category = 1 := av_cat G _
      show (o + (i + 1), av G v) ∈ (o, av G (.inr (.inr x))) :: lv_args (if (av G (.inr (.inr x))).category = 2 then o + 2 else o + 1) (r.map (av G))
      rw [hc]
      exact List.mem_cons_of_mem _ ih
theorem lg_sl_len (G : Gl) (as : List AV) : (lg_sl (as.map (av G))).length = (as.map cat).sum := by
  induction as with
  | nil => rfl
  | cons v r ih =>
    simp only [lg_sl, List.map_cons, List.flatMap_cons, List.length_append, List.sum_cons] at ih ⊢
    rw [ih, av_cat]
    rcases v with x | x | x <;> rfl
theorem Met.ofWF {l : Launch} {y : MethodName} {ws ws' : List Cond} {rm : Room} {Pc : Array Value → State → Prop} {Qc : Array Value → State → Outcome → State → Prop} {mc ms : Nat} {free : Addr → Prop} {cc : ByteArray} {maxL : Nat} {ret : Option FieldType} (hy : plainFor y = true) (hw : ws = Cond.code y cc maxL ret :: ws')
    (body : ∀ p e s m args below meth c s₁, BodyLoose p l y (headSpec ws rm) cc maxL ret e s m args below meth c s₁ → c.maxLocals = maxL → Pc args s →
      W p l e (headSpec ws rm).room s m args below meth c s.heap [] 0 0 (MQ below Qc args s mc ms free) (entryFrame m args maxL)) : Met l y ws rm Pc Qc mc ms free := by
  refine MetFree.of_bodySF (code := cc) (maxLocals := maxL) (ret := ret) hy (fun args s m h hn => ?_) (fun p e s m args below meth c s₁ B hml hP _ => ?_)
  · obtain ⟨meth, c, h1, h2, h3, h4, h5, h6, -, -⟩ := Cond.code_spec hn (atoms_spec (ws := ws) h _ (by rw [hw]; exact List.mem_cons_self))
    exact ⟨meth, c, h1, h2, h3, h4, h5, h6⟩
  · have hh0 : s₁.heap = s.heap := by rw [B.state]; rfl
    obtain ⟨t, a1, o, b1, b2, b3⟩ := body p e s m args below meth c s₁ B hml hP s₁ hh0 (Stand.of_body B)
    exact ⟨t, o, a1, b1, b2, ⟨b3.1, b3.2⟩⟩
theorem Ct.of {l : Launch} {G : Gl} {y : MethodName} {bytes : ByteArray} {maxL : Nat} {ret : Option FieldType} {rm : Room} {n : Nat} {sh : Sh} {μ : Mu} {as : List AV} {v : Option Value} {n' : Nat} {sh' : Sh} {μ' : Mu} {lc : List (Option AV)} (hy : plainFor y = true) (ha : (as.map cat).sum ≤ maxL) (hlc : lent as ++ List.replicate (maxL - (as.map cat).sum) none = lc) (h : Sj l G (Qm G v n' sh' μ' rm.cells rm.slots) (bytes, maxL, y.cls, y.name, ret, rm) n sh 0 0 μ 0 lc []) : Ct l G y bytes maxL ret rm n sh μ as v n' sh' μ' := by
  refine Met.ofWF (cc := bytes) (maxL := maxL) (ret := ret) hy rfl ?_
  intro p e s m args below meth c s₁ B hml hv
  obtain ⟨rfl, hK, hH, hZ⟩ := hv
  have hts := atoms_spec (ws := .code y bytes maxL ret :: lw_g) B.pre
  have hown : s.vm.findClass y.cls = some m.cls := findClass_of_methodNamed B.named
  have hnm : meth.name = y.name := (name_of_methodNamed B.named B.method).1
  have hl := lv_entry (as.map (av G)) (n := maxL) (by rw [lg_sl_len]; exact ha)
  rw [lg_entry_eq]
  refine h p e s m _ below meth c s.heap [] _ ⟨B.exec, B.bytes, hml, hown, fun w hw => hts w (List.mem_cons_of_mem _ hw), B.returns, B.notSynchronized, fun h => hnm.trans h⟩ hK (by omega) hH va_S.rf ⟨hl.1, hl.2.1, fun i w hi => ?_⟩
  subst hlc
  by_cases hil : i < (lent as).length
  · rw [List.getElem?_append_left hil] at hi
    have := lent_args G as 0 i w hi
    rw [Nat.zero_add] at this
    exact hl.2.2 _ this
  · rw [List.getElem?_append_right (by omega), List.getElem?_replicate] at hi
    split at hi <;> simp at hi
/-- what the tables say of a method that is called -/
def Yb (y : MethodName) (bytes : ByteArray) (maxL : Nat) (ret : Option FieldType) (k : Nat) : Prop := Cond.code y bytes maxL ret ∈ lw_g ∧ Cond.initialized y.cls ∈ lw_g ∧ (y.cls ≠ "java/lang/invoke/MethodHandle" ∧ y.cls ≠ "java/lang/invoke/VarHandle" ∧ (parseMethodDescriptor y.desc).map (fun d => d.parameters.length) = some k)
section SC
variable {l : Launch} {G : Gl} {Qf : List Frame → Array Value → State → State → Prop} {c0 : Cf} {n : Nat} {sh : Sh} {kc js : Nat} {μ : Mu} {pc : Nat} {lc lc' : List (Option AV)} {st stk : List AV}
theorem ct_blind {as : List AV} : FrameBlind (va_Pc (as.map (av G)) (fun U => Ks G U ∧ Hw G n sh μ U.heap ∧ U.heap.size = gZ G + 1 + n)) := fun a U g mk q => ⟨q.1, q.2.1.same rfl rfl, q.2.2⟩
theorem ct_pre {as : List AV} {s : State} {H : Heap} {locs : List Loc} (ks : Ks G s) (hS : va_S (AA G) s.heap H locs) (hw : Hw G n sh μ H) (hs : H.size ≤ gZ G + 1 + n) (U : State) (hU : U.heap = H) (hW : s.WarmedH U.vm) : va_Pc (as.map (av G)) (fun U => Ks G U ∧ Hw G n sh μ U.heap ∧ U.heap.size = gZ G + 1 + n) (as.map (av G)).toArray U := by
  refine ⟨rfl, ks.warm hW (by rw [hU]; exact hS.1) (fun q h1 h2 => by rw [hU]; exact hS.2.1 q h1 h2), by rw [hU]; exact hw, ?_⟩
  have := hw.low hS ks.2.2.2.2.2.2.2.2
  rw [hU]
  omega
theorem run_W {p : Program} {e : Env} {R : Room} {s : State} {m : MethodId} {args : Array Value} {below : List Frame} {meth : Method} {c : Code} {H : Heap} {locs : List Loc} {Q : State → Prop} {ls : Array Slot} {rest st0 : List Value} {mc ms n' : Nat} {sh' : Sh} {μ' : Mu} {v : Option Value} (hr : va_Run p l e R s m args below meth c H locs kc js mc ms (F0 m pc ls st0) rest (fun st o t => o = .returned v ∧ Hw G n' sh' μ' t.heap ∧ va_F (AA G) st t) (AA G)) (hS : va_S (AA G) s.heap H locs)
    (kk : ∀ (H1 : Heap) (locs1 : List Loc), Hw G n' sh' μ' H1 → va_S (AA G) s.heap H1 locs1 → W p l e R s m args below meth c H1 locs1 (kc + mc) (js + ms) Q (F0 m (pc + 3) ls (v.toList ++ rest))) : W p l e R s m args below meth c H locs kc js Q (F0 m pc ls st0) := by
  intro T hT X
  obtain ⟨w, st₀, t, T', L, h0, X', hL, e1, e2, ⟨hv, hH, hz, hk⟩, st⟩ := hr T hT X
  cases hv
  rw [h0] at hz hk
  obtain ⟨t2, a1, b1⟩ := kk T'.heap (locs ++ L) (by rw [e1]; exact hH) ⟨Nat.le_trans hS.1 (by rw [e1]; exact hz), fun q h1 h2 => by rw [e1, hk q (Nat.lt_of_lt_of_le h1 hS.1) h2]; exact hS.2.1 q h1 h2, fun q hq => by
      rcases List.mem_append.mp hq with h | h
      · exact hS.2.2 q h
      · exact hL q h⟩ T' rfl X'
  exact ⟨t2, st t2 a1, b1⟩
theorem cat_sum : ((st.map (av G)).map fun v => v.category).sum = (st.map cat).sum := by
  rw [List.map_map, show ((fun v : Value => v.category) ∘ av G) = cat from funext fun v => av_cat G v]
variable {y : MethodName} {bytes : ByteArray} {maxL : Nat} {ret : Option FieldType} {rm : Room} {as : List AV} {v : Option Value} {vo : List AV} {n' : Nat} {sh' : Sh} {μ' : Mu} {idx : Nat}
theorem s_callV {a ci N : Nat} {C : String} {T : u_T} (hM : Ct l G y bytes maxL ret rm n sh μ (vr a :: as) v n' sh' μ') (hC : Cl ci C T N) (hok : iz sh ci a = true) (hd : decode c0.1 pc = .ok (.invokevirtual idx, 3)) (hy : Yb y bytes maxL ret as.length) (w1 : Cond.methodLink c0.2.2.1 idx y ∈ lw_g) (w2 : Cond.instanceMethod y ∈ lw_g) (w3 : Cond.selects C y y ∈ lw_g) (hR : rm.frames + 1 ≤ c0.2.2.2.2.2.frames ∧ 8 + (maxL + 11) + rm.locals ≤ c0.2.2.2.2.2.locals) (hc : kc + rm.cells ≤ c0.2.2.2.2.2.cells ∧ js + rm.slots ≤ c0.2.2.2.2.2.slots) (hst : (st.map cat).sum ≤ 8) (hsk : as.reverse ++ vr a :: st = stk) (hv : v.toList = vo.map (av G)) (hn : n' = n + rm.cells) (kk : Sj l G Qf c0 n' sh' (kc + rm.cells) (js + rm.slots) μ' (pc + 3) lc (vo ++ st)) : Sj l G Qf c0 n sh kc js μ pc lc stk := by
  subst hsk
  intro p e s m args below meth c H locs ls cx ks hz hw hS hl
  refine W.sz fun hsz => ?_
  obtain ⟨c1, c2, c3, c4, c5, c6⟩ := hC
  have ha := iz_eq hok
  obtain ⟨h0, h1⟩ := hw.ok (a := a) (by omega)
  have he : (wl G n sh μ)[a - 1]? = some (gZ G + a, .inr (ci, flds G ci μ a)) := by rw [wl_get h0 h1, ent_obj ha c6]
  have ee : av G (vr a) = .ref (gZ G + a) := rf_nz h0
  have hts := cx.2.2.2.2.1
  have hpre := ct_pre (as := vr a :: as) ks hS hw (by omega)
  rw [show (vr a :: as).map (av G) = Value.ref (gZ G + a) :: as.map (av G) by rw [List.map_cons, ee]] at hpre
  unfold Ct at hM
  rw [show (vr a :: as).map (av G) = Value.ref (gZ G + a) :: as.map (av G) by rw [List.map_cons, ee]] at hM
  have hbl := ct_blind (G := G) (n := n) (sh := sh) (μ := μ) (as := vr a :: as)
  rw [show (vr a :: as).map (av G) = Value.ref (gZ G + a) :: as.map (av G) by rw [List.map_cons, ee]] at hbl
  have hrun := va_runV (As := as.map (av G)) (rest := st.map (av G)) (below := below) (g := F0 m pc ls ((as.reverse ++ vr a :: st).map (av G))) (cells := kc) (slots := js) (locs := locs) (meth := meth) (e := e) (R := c0.2.2.2.2.2) (nL := c0.2.1) (cc := c0.1) (Ts := lw_g) ⟨cx.1, cx.2.1, cx.2.2.1, cx.2.2.2.1, hts⟩ hM ⟨callB_of as.length hts (lw_goodIn hy.1) rfl rfl rfl (hts _ hy.2.1) (hts _ w1) hy.2.2 hR, hts _ w2, hts _ w3⟩ ⟨hbl, va_recv ks.1 hw.1 (q := (C, T, N)) c1 he, hpre⟩ rfl (by rw [List.length_map]) hl.1 (by show (as.reverse ++ vr a :: st).map (av G) = _; rw [List.map_append, List.map_reverse, List.map_cons, ee]) (lv_room (by rw [cat_sum]; exact hst)) hd hc
  refine run_W hrun hS (fun H1 locs1 hH hS1 => ?_)
  have hk := kk p e s m args below meth c H1 locs1 ls cx ks (by omega) hH hS1 hl
  rw [List.map_append, ← hv] at hk
  exact hk
theorem s_callS (hM : Ct l G y bytes maxL ret rm n sh μ as v n' sh' μ') (hd : decode c0.1 pc = .ok (.invokestatic idx, 3)) (hy : Yb y bytes maxL ret as.length) (w1 : Cond.methodLink c0.2.2.1 idx y ∈ lw_g) (w2 : Cond.static y ∈ lw_g) (hR : rm.frames + 1 ≤ c0.2.2.2.2.2.frames ∧ 8 + (maxL + 11) + rm.locals ≤ c0.2.2.2.2.2.locals) (hc : kc + rm.cells ≤ c0.2.2.2.2.2.cells ∧ js + rm.slots ≤ c0.2.2.2.2.2.slots) (hst : (st.map cat).sum ≤ 8) (hsk : as.reverse ++ st = stk) (hv : v.toList = vo.map (av G)) (hn : n' = n + rm.cells) (kk : Sj l G Qf c0 n' sh' (kc + rm.cells) (js + rm.slots) μ' (pc + 3) lc (vo ++ st)) : Sj l G Qf c0 n sh kc js μ pc lc stk := by
  subst hsk
  intro p e s m args below meth c H locs ls cx ks hz hw hS hl
  refine W.sz fun hsz => ?_
  have hts := cx.2.2.2.2.1
  have hrun := va_runS (As := as.map (av G)) (rest := st.map (av G)) (below := below) (g := F0 m pc ls ((as.reverse ++ st).map (av G))) (cells := kc) (slots := js) (locs := locs) (meth := meth) (e := e) (R := c0.2.2.2.2.2) (nL := c0.2.1) (cc := c0.1) (Ts := lw_g) ⟨cx.1, cx.2.1, cx.2.2.1, cx.2.2.2.1, hts⟩ hM ⟨callB_of as.length hts (lw_goodIn hy.1) rfl rfl rfl (hts _ hy.2.1) (hts _ w1) hy.2.2 hR, hts _ w2⟩ ⟨ct_blind, ct_pre ks hS hw (by omega)⟩ rfl (by rw [List.length_map]) hl.1 (by show (as.reverse ++ st).map (av G) = _; rw [List.map_append, List.map_reverse]) (lv_room (by rw [cat_sum]; exact hst)) hd hc
  refine run_W hrun hS (fun H1 locs1 hH hS1 => ?_)
  have hk := kk p e s m args below meth c H1 locs1 ls cx ks (by omega) hH hS1 hl
  rw [List.map_append, ← hv] at hk
  exact hk
theorem s_callSN {host : String} (hM : Ct l G y bytes maxL ret rm n sh μ as v n' sh' μ') (hd : decode c0.1 pc = .ok (.invokestatic idx, 3)) (hy : Yb y bytes maxL ret as.length) (w1 : Cond.methodLinkNest c0.2.2.1 idx y host ∈ lw_n) (w2 : Cond.static y ∈ lw_g) (hR : rm.frames + 1 ≤ c0.2.2.2.2.2.frames ∧ 8 + (maxL + 11) + rm.locals ≤ c0.2.2.2.2.2.locals) (hc : kc + rm.cells ≤ c0.2.2.2.2.2.cells ∧ js + rm.slots ≤ c0.2.2.2.2.2.slots) (hst : (st.map cat).sum ≤ 8) (hsk : as.reverse ++ st = stk) (hv : v.toList = vo.map (av G)) (hn : n' = n + rm.cells) (kk : Sj l G Qf c0 n' sh' (kc + rm.cells) (js + rm.slots) μ' (pc + 3) lc (vo ++ st)) : Sj l G Qf c0 n sh kc js μ pc lc stk := by
  subst hsk
  intro p e s m args below meth c H locs ls cx ks hz hw hS hl
  refine W.sz fun hsz => ?_
  have hts := cx.2.2.2.2.1
  have hrun := va_runSN (As := as.map (av G)) (rest := st.map (av G)) (below := below) (g := F0 m pc ls ((as.reverse ++ st).map (av G))) (cells := kc) (slots := js) (locs := locs) (meth := meth) (e := e) (R := c0.2.2.2.2.2) (nL := c0.2.1) (cc := c0.1) (Ts := lw_g) ⟨cx.1, cx.2.1, cx.2.2.1, cx.2.2.2.1, hts⟩ hM ⟨va_cnB as.length hts (lw_goodIn hy.1) rfl rfl rfl (ks.2.2.2.2.1 _ w1) (hts _ hy.2.1) hy.2.2 hR, hts _ w2, trivial⟩ ⟨ct_blind, ct_pre ks hS hw (by omega)⟩ rfl (by rw [List.length_map]) hl.1 (by show (as.reverse ++ st).map (av G) = _; rw [List.map_append, List.map_reverse]) (lv_room (by rw [cat_sum]; exact hst)) hd hc
  refine run_W hrun hS (fun H1 locs1 hH hS1 => ?_)
  have hk := kk p e s m args below meth c H1 locs1 ls cx ks (by omega) hH hS1 hl
  rw [List.map_append, ← hv] at hk
  exact hk
theorem s_callI {a : Nat} (hM : Ct l G y bytes maxL none rm n sh μ (vr a :: as) none n' sh' μ') (h0 : a ≠ 0) (hd : decode c0.1 pc = .ok (.invokespecial idx, 3)) (hy : Yb y bytes maxL none as.length) (w1 : Cond.methodLink c0.2.2.1 idx y ∈ lw_g) (w2 : Cond.instanceMethod y ∈ lw_g) (hin : y.name = "<init>") (hR : rm.frames + 1 ≤ c0.2.2.2.2.2.frames ∧ 8 + (maxL + 11) + rm.locals ≤ c0.2.2.2.2.2.locals) (hc : kc + rm.cells ≤ c0.2.2.2.2.2.cells ∧ js + rm.slots ≤ c0.2.2.2.2.2.slots) (hst : (st.map cat).sum ≤ 8) (hsk : as.reverse ++ vr a :: st = stk) (hn : n' = n + rm.cells) (kk : Sj l G Qf c0 n' sh' (kc + rm.cells) (js + rm.slots) μ' (pc + 3) lc st) : Sj l G Qf c0 n sh kc js μ pc lc stk := by
  subst hsk
  intro p e s m args below meth c H locs ls cx ks hz hw hS hl
  refine W.sz fun hsz => ?_
  have ee : av G (vr a) = .ref (gZ G + a) := rf_nz h0
  have hts := cx.2.2.2.2.1
  have hpre := ct_pre (as := vr a :: as) ks hS hw (by omega)
  rw [show (vr a :: as).map (av G) = Value.ref (gZ G + a) :: as.map (av G) by rw [List.map_cons, ee]] at hpre
  unfold Ct at hM
  rw [show (vr a :: as).map (av G) = Value.ref (gZ G + a) :: as.map (av G) by rw [List.map_cons, ee]] at hM
  have hbl := ct_blind (G := G) (n := n) (sh := sh) (μ := μ) (as := vr a :: as)
  rw [show (vr a :: as).map (av G) = Value.ref (gZ G + a) :: as.map (av G) by rw [List.map_cons, ee]] at hbl
  have hrun := va_runI (As := as.map (av G)) (rest := st.map (av G)) (below := below) (g := F0 m pc ls ((as.reverse ++ vr a :: st).map (av G))) (cells := kc) (slots := js) (locs := locs) (meth := meth) (e := e) (R := c0.2.2.2.2.2) (nL := c0.2.1) (cc := c0.1) (Ts := lw_g) ⟨cx.1, cx.2.1, cx.2.2.1, cx.2.2.2.1, hts⟩ hM ⟨callB_of as.length hts (lw_goodIn hy.1) rfl rfl rfl (hts _ hy.2.1) (hts _ w1) hy.2.2 hR, hin, hts _ w2⟩ ⟨hbl, hpre⟩ rfl (by rw [List.length_map]) hl.1 (by show (as.reverse ++ vr a :: st).map (av G) = _; rw [List.map_append, List.map_reverse, List.map_cons, ee]) (lv_room (by rw [cat_sum]; exact hst)) hd hc
  refine run_W hrun hS (fun H1 locs1 hH hS1 => ?_)
  exact kk p e s m args below meth c H1 locs1 ls cx ks (by omega) hH hS1 hl
theorem s_callIN {a : Nat} {host : String} (hM : Ct l G y bytes maxL none rm n sh μ (vr a :: as) none n' sh' μ') (h0 : a ≠ 0) (hd : decode c0.1 pc = .ok (.invokespecial idx, 3)) (hy : Yb y bytes maxL none as.length) (w1 : Cond.methodLinkNest c0.2.2.1 idx y host ∈ lw_n) (w2 : Cond.instanceMethod y ∈ lw_g) (hin : y.name = "<init>") (hR : rm.frames + 1 ≤ c0.2.2.2.2.2.frames ∧ 8 + (maxL + 11) + rm.locals ≤ c0.2.2.2.2.2.locals) (hc : kc + rm.cells ≤ c0.2.2.2.2.2.cells ∧ js + rm.slots ≤ c0.2.2.2.2.2.slots) (hst : (st.map cat).sum ≤ 8) (hsk : as.reverse ++ vr a :: st = stk) (hn : n' = n + rm.cells) (kk : Sj l G Qf c0 n' sh' (kc + rm.cells) (js + rm.slots) μ' (pc + 3) lc st) : Sj l G Qf c0 n sh kc js μ pc lc stk := by
  subst hsk
  intro p e s m args below meth c H locs ls cx ks hz hw hS hl
  refine W.sz fun hsz => ?_
  have ee : av G (vr a) = .ref (gZ G + a) := rf_nz h0
  have hts := cx.2.2.2.2.1
  have hpre := ct_pre (as := vr a :: as) ks hS hw (by omega)
  rw [show (vr a :: as).map (av G) = Value.ref (gZ G + a) :: as.map (av G) by rw [List.map_cons, ee]] at hpre
  unfold Ct at hM
  rw [show (vr a :: as).map (av G) = Value.ref (gZ G + a) :: as.map (av G) by rw [List.map_cons, ee]] at hM
  have hbl := ct_blind (G := G) (n := n) (sh := sh) (μ := μ) (as := vr a :: as)
  rw [show (vr a :: as).map (av G) = Value.ref (gZ G + a) :: as.map (av G) by rw [List.map_cons, ee]] at hbl
  have hrun := va_runIN (As := as.map (av G)) (rest := st.map (av G)) (below := below) (g := F0 m pc ls ((as.reverse ++ vr a :: st).map (av G))) (cells := kc) (slots := js) (locs := locs) (meth := meth) (e := e) (R := c0.2.2.2.2.2) (nL := c0.2.1) (cc := c0.1) (Ts := lw_g) ⟨cx.1, cx.2.1, cx.2.2.1, cx.2.2.2.1, hts⟩ hM ⟨va_cnB as.length hts (lw_goodIn hy.1) rfl rfl rfl (ks.2.2.2.2.1 _ w1) (hts _ hy.2.1) hy.2.2 hR, hin, hts _ w2⟩ ⟨hbl, hpre⟩ rfl (by rw [List.length_map]) hl.1 (by show (as.reverse ++ vr a :: st).map (av G) = _; rw [List.map_append, List.map_reverse, List.map_cons, ee]) (lv_room (by rw [cat_sum]; exact hst)) hd hc
  refine run_W hrun hS (fun H1 locs1 hH hS1 => ?_)
  exact kk p e s m args below meth c H1 locs1 ls cx ks (by omega) hH hS1 hl
end SC

def iz (sh : Sh) (ci a : Nat) : Bool := (sh a).1 == ci
def ix (sh : Sh) (kd a : Nat) (i : Int32) : Bool := (sh a).1 == kd && (decide (0 ≤ i) && decide (i.toNatClampNeg < (sh a).2))
theorem iz_eq {sh : Sh} {ci a : Nat} (h : iz sh ci a = true) : (sh a).1 = ci := by simpa [iz] using h
theorem vp_in_mk {i : Int32} {n : Nat} (h1 : 0 ≤ i) (h2 : i.toNatClampNeg < n) : vp_in i n := fun h => h.elim (fun q => absurd h1 (Int32.not_le.mpr q)) (fun q => absurd h2 (Nat.not_lt.mpr q))
theorem ix_eq {sh : Sh} {kd a : Nat} {i : Int32} (h : ix sh kd a i = true) : (sh a).1 = kd ∧ vp_in i (sh a).2 := by
  simp only [ix, Bool.and_eq_true, beq_iff_eq, decide_eq_true_eq] at h
  exact ⟨h.1, vp_in_mk h.2.1 h.2.2⟩
def RefTy (t : FieldType) : Prop := (∀ (G : Gl) x y r, fv G t x y r = rf G r) ∧ ∀ v, (v = .null ∨ ∃ q, v = .ref q) → narrow t v = v ∧ fits t v = true
theorem rt_arr (t : FieldType) : RefTy (.array t) := ⟨fun _ _ _ _ => rfl, fun v h => by rcases h with rfl | ⟨q, rfl⟩ <;> exact ⟨rfl, rfl⟩⟩
theorem rt_obj (t : String) : RefTy (.object t) := ⟨fun _ _ _ _ => rfl, fun v h => by rcases h with rfl | ⟨q, rfl⟩ <;> exact ⟨rfl, rfl⟩⟩
theorem rf_form (G : Gl) (r : Nat) : rf G r = .null ∨ ∃ q, rf G r = .ref q := by
  by_cases h : r = 0
  · subst h; exact Or.inl rf_z
  · exact Or.inr ⟨_, rf_nz h⟩
theorem gI_sI (μ : Mu) (a k : Nat) (v : Int32) (b j : Nat) : gI (sI μ a k v) b j = if b = a then (if j = k then v else gI μ b j) else gI μ b j := rfl
theorem gJ_sI (μ : Mu) (a k : Nat) (v : Int32) (b j : Nat) : gJ (sI μ a k v) b j = gJ μ b j := rfl
theorem gR_sI (μ : Mu) (a k : Nat) (v : Int32) (b j : Nat) : gR (sI μ a k v) b j = gR μ b j := rfl
theorem gI_sJ (μ : Mu) (a k : Nat) (v : Int64) (b j : Nat) : gI (sJ μ a k v) b j = gI μ b j := rfl
theorem gJ_sJ (μ : Mu) (a k : Nat) (v : Int64) (b j : Nat) : gJ (sJ μ a k v) b j = if b = a then (if j = k then v else gJ μ b j) else gJ μ b j := rfl
theorem gR_sJ (μ : Mu) (a k : Nat) (v : Int64) (b j : Nat) : gR (sJ μ a k v) b j = gR μ b j := rfl
theorem gI_sR (μ : Mu) (a k : Nat) (v : Nat) (b j : Nat) : gI (sR μ a k v) b j = gI μ b j := rfl
theorem gJ_sR (μ : Mu) (a k : Nat) (v : Nat) (b j : Nat) : gJ (sR μ a k v) b j = gJ μ b j := rfl
theorem gR_sR (μ : Mu) (a k : Nat) (v : Nat) (b j : Nat) : gR (sR μ a k v) b j = if b = a then (if j = k then v else gR μ b j) else gR μ b j := rfl
theorem flds_get {G : Gl} {ci k : Nat} {μ : Mu} {a : Nat} (hk : k < fN ci) : (flds G ci μ a)[k]? = some (fv G (fty ci k) (gI μ a k) (gJ μ a k) (gR μ a k)) := by simp [flds, hk]
theorem flds_len {G : Gl} {ci : Nat} {μ : Mu} {a : Nat} : (flds G ci μ a).length = fN ci := by simp [flds]
theorem flds_set {G : Gl} {ci k : Nat} {μ μ' : Mu} {a : Nat} {v : Value} (hk : k < fN ci) (hv : v = fv G (fty ci k) (gI μ' a k) (gJ μ' a k) (gR μ' a k)) (ho : ∀ j, j ≠ k → gI μ' a j = gI μ a j ∧ gJ μ' a j = gJ μ a j ∧ gR μ' a j = gR μ a j) : (flds G ci μ a).set k v = flds G ci μ' a := by
  apply List.ext_getElem?
  intro j
  by_cases hj : j = k
  · subst hj
    rw [List.getElem?_set_self (by rw [flds_len]; exact hk), flds_get hk, hv]
  · rw [List.getElem?_set_ne (Ne.symm hj)]
    obtain ⟨h1, h2, h3⟩ := ho j hj
    by_cases hl : j < fN ci
    · rw [flds_get hl, flds_get hl, h1, h2, h3]
    · rw [List.getElem?_eq_none (by rw [flds_len]; omega), List.getElem?_eq_none (by rw [flds_len]; omega)]
section SH
variable {l : Launch} {G : Gl} {Qf : List Frame → Array Value → State → State → Prop} {c0 : Cf} {n : Nat} {sh : Sh} {kc js : Nat} {μ : Mu} {pc : Nat} {lc lc' : List (Option AV)} {st : List AV}
theorem s_get {a ci k idx N : Nat} {C : String} {T : u_T} {v : AV} (hC : Cl ci C T N) (hd : decode c0.1 pc = .ok (.getfield idx, 3)) (hok : iz sh ci a = true) (hk : k < N) (hf : Cond.fieldLink c0.2.2.1 idx (T k).1 (T k).2.1 (T k).2.2.1 ∈ lw_g) (hv : fv G (fty ci k) (gI μ a k) (gJ μ a k) (gR μ a k) = av G v) (kk : Sj l G Qf c0 n sh kc js μ (pc + 3) lc (v :: st)) : Sj l G Qf c0 n sh kc js μ pc lc (vr a :: st) := by
  intro p e s m args below meth c H locs ls cx ks hz hw hS hl
  obtain ⟨c1, c2, c3, c4, c5, c6⟩ := hC
  have ha := iz_eq hok
  obtain ⟨h0, h1⟩ := hw.ok (a := a) (by omega)
  have he : (wl G n sh μ)[a - 1]? = some (gZ G + a, .inr (ci, flds G ci μ a)) := by rw [wl_get h0 h1, ent_obj ha c6]
  have ee : av G (vr a) = .ref (gZ G + a) := rf_nz h0
  rw [List.map_cons, ee]
  exact va_get cx.1 cx.2.1 cx.2.2.2.2.1 c2 cx.2.2.2.1 ks.1 hw.1 (a - 1) he c1 k hk (cx.2.2.2.2.1 _ hf) (fun _ h => h) (by rw [flds_get (by omega), hv]) hd (kk p e s m args below meth c H locs ls cx ks hz hw hS hl)
theorem s_getI {a ci k idx N : Nat} {C : String} {T : u_T} (hC : Cl ci C T N) (hd : decode c0.1 pc = .ok (.getfield idx, 3)) (hok : iz sh ci a = true) (hk : k < N) (hf : Cond.fieldLink c0.2.2.1 idx (T k).1 (T k).2.1 (T k).2.2.1 ∈ lw_g) (ht : fty ci k = .int) (kk : Sj l G Qf c0 n sh kc js μ (pc + 3) lc (vi (gI μ a k) :: st)) : Sj l G Qf c0 n sh kc js μ pc lc (vr a :: st) := s_get hC hd hok hk hf (by rw [ht]; rfl) kk
theorem s_getJ {a ci k idx N : Nat} {C : String} {T : u_T} (hC : Cl ci C T N) (hd : decode c0.1 pc = .ok (.getfield idx, 3)) (hok : iz sh ci a = true) (hk : k < N) (hf : Cond.fieldLink c0.2.2.1 idx (T k).1 (T k).2.1 (T k).2.2.1 ∈ lw_g) (ht : fty ci k = .long) (kk : Sj l G Qf c0 n sh kc js μ (pc + 3) lc (vl (gJ μ a k) :: st)) : Sj l G Qf c0 n sh kc js μ pc lc (vr a :: st) := s_get hC hd hok hk hf (by rw [ht]; rfl) kk
theorem s_getR {a ci k idx N : Nat} {C : String} {T : u_T} (hC : Cl ci C T N) (hd : decode c0.1 pc = .ok (.getfield idx, 3)) (hok : iz sh ci a = true) (hk : k < N) (hf : Cond.fieldLink c0.2.2.1 idx (T k).1 (T k).2.1 (T k).2.2.1 ∈ lw_g) (ht : RefTy (fty ci k)) (kk : Sj l G Qf c0 n sh kc js μ (pc + 3) lc (vr (gR μ a k) :: st)) : Sj l G Qf c0 n sh kc js μ pc lc (vr a :: st) := s_get hC hd hok hk hf (by rw [ht.1]; rfl) kk
theorem s_put {a ci k idx N : Nat} {C : String} {T : u_T} {v : AV} {μ' : Mu} (hC : Cl ci C T N) (hd : decode c0.1 pc = .ok (.putfield idx, 3)) (hok : iz sh ci a = true) (hk : k < N) (hf : Cond.fieldLink c0.2.2.1 idx (T k).1 (T k).2.1 (T k).2.2.1 ∈ lw_g) (hfin : (T k).2.2.2 = false) (hnf : narrow (fty ci k) (av G v) = av G v ∧ fits (fty ci k) (av G v) = true) (hv : av G v = fv G (fty ci k) (gI μ' a k) (gJ μ' a k) (gR μ' a k)) (ho : ∀ b j, (b ≠ a ∨ j ≠ k) → gI μ' b j = gI μ b j ∧ gJ μ' b j = gJ μ b j ∧ gR μ' b j = gR μ b j) (kk : Sj l G Qf c0 n sh kc js μ' (pc + 3) lc st) : Sj l G Qf c0 n sh kc js μ pc lc (v :: vr a :: st) := by
  intro p e s m args below meth c H locs ls cx ks hz hw hS hl
  obtain ⟨c1, c2, c3, c4, c5, c6⟩ := hC
  have ha := iz_eq hok
  obtain ⟨h0, h1⟩ := hw.ok (a := a) (by omega)
  have he : (wl G n sh μ)[a - 1]? = some (gZ G + a, .inr (ci, flds G ci μ a)) := by rw [wl_get h0 h1, ent_obj ha c6]
  have ee : av G (vr a) = .ref (gZ G + a) := rf_nz h0
  rw [List.map_cons, List.map_cons, ee]
  have hset : (flds G ci μ a).set k (av G v) = flds G ci μ' a := flds_set (by omega) hv (fun j hj => ho a j (Or.inr hj))
  refine va_put cx.1 cx.2.1 cx.2.2.2.2.1 c2 (fty ci) c4 c5 cx.2.2.2.1 ks.1 hw.1 wl_D hS (a - 1) he c1 k hk (cx.2.2.2.2.1 _ hf) (fun _ h => h) hfin (c4 k hk) hnf.1 hnf.2 (by rw [flds_len]; omega) hd (fun H1 locs1 hP hD hS1 => ?_)
  refine kk p e s m args below meth c H1 locs1 ls cx ks hz (hw.set h0 h1 (fun b hb => ent_oth (fun j => (ho b j (Or.inl hb)).1) (fun j => (ho b j (Or.inl hb)).2.1) (fun j => (ho b j (Or.inl hb)).2.2)) ?_) hS1 hl
  rw [ent_obj ha c6, ← hset]
  exact hP
theorem s_putI {a ci k idx N : Nat} {C : String} {T : u_T} {x : Int32} (hC : Cl ci C T N) (hd : decode c0.1 pc = .ok (.putfield idx, 3)) (hok : iz sh ci a = true) (hk : k < N) (hf : Cond.fieldLink c0.2.2.1 idx (T k).1 (T k).2.1 (T k).2.2.1 ∈ lw_g) (hfin : (T k).2.2.2 = false) (ht : fty ci k = .int) (kk : Sj l G Qf c0 n sh kc js (sI μ a k x) (pc + 3) lc st) : Sj l G Qf c0 n sh kc js μ pc lc (vi x :: vr a :: st) := s_put (μ' := sI μ a k x) hC hd hok hk hf hfin (by rw [ht]; exact ⟨rfl, rfl⟩) (by rw [ht, gI_sI, if_pos rfl, if_pos rfl]; rfl) (fun b j h => ⟨by rw [gI_sI]; rcases h with h | h <;> simp [h], rfl, rfl⟩) kk
theorem s_putJ {a ci k idx N : Nat} {C : String} {T : u_T} {x : Int64} (hC : Cl ci C T N) (hd : decode c0.1 pc = .ok (.putfield idx, 3)) (hok : iz sh ci a = true) (hk : k < N) (hf : Cond.fieldLink c0.2.2.1 idx (T k).1 (T k).2.1 (T k).2.2.1 ∈ lw_g) (hfin : (T k).2.2.2 = false) (ht : fty ci k = .long) (kk : Sj l G Qf c0 n sh kc js (sJ μ a k x) (pc + 3) lc st) : Sj l G Qf c0 n sh kc js μ pc lc (vl x :: vr a :: st) := s_put (μ' := sJ μ a k x) hC hd hok hk hf hfin (by rw [ht]; exact ⟨rfl, rfl⟩) (by rw [ht, gJ_sJ, if_pos rfl, if_pos rfl]; rfl) (fun b j h => ⟨rfl, by rw [gJ_sJ]; rcases h with h | h <;> simp [h], rfl⟩) kk
theorem s_putR {a ci k idx N : Nat} {C : String} {T : u_T} {x : Nat} (hC : Cl ci C T N) (hd : decode c0.1 pc = .ok (.putfield idx, 3)) (hok : iz sh ci a = true) (hk : k < N) (hf : Cond.fieldLink c0.2.2.1 idx (T k).1 (T k).2.1 (T k).2.2.1 ∈ lw_g) (hfin : (T k).2.2.2 = false) (ht : RefTy (fty ci k)) (kk : Sj l G Qf c0 n sh kc js (sR μ a k x) (pc + 3) lc st) : Sj l G Qf c0 n sh kc js μ pc lc (vr x :: vr a :: st) := s_put (μ' := sR μ a k x) hC hd hok hk hf hfin (ht.2 _ (rf_form G x)) (by rw [ht.1, gR_sR, if_pos rfl, if_pos rfl]; rfl) (fun b j h => ⟨rfl, rfl, by rw [gR_sR]; rcases h with h | h <;> simp [h]⟩) kk
theorem s_putF {a ci k idx N : Nat} {C : String} {T : u_T} {v : AV} {μ' : Mu} (hC : Cl ci C T N) (hd : decode c0.1 pc = .ok (.putfield idx, 3)) (hok : iz sh ci a = true) (hk : k < N) (hf : Cond.fieldLink c0.2.2.1 idx (T k).1 (T k).2.1 (T k).2.2.1 ∈ lw_g) (hfin : (T k).2.2.2 = true) (hin : c0.2.2.2.1 = "<init>") (hdc : (T k).1 = c0.2.2.1) (hnf : narrow (fty ci k) (av G v) = av G v ∧ fits (fty ci k) (av G v) = true) (hv : av G v = fv G (fty ci k) (gI μ' a k) (gJ μ' a k) (gR μ' a k)) (ho : ∀ b j, (b ≠ a ∨ j ≠ k) → gI μ' b j = gI μ b j ∧ gJ μ' b j = gJ μ b j ∧ gR μ' b j = gR μ b j) (kk : Sj l G Qf c0 n sh kc js μ' (pc + 3) lc st) : Sj l G Qf c0 n sh kc js μ pc lc (v :: vr a :: st) := by
  intro p e s m args below meth c H locs ls cx ks hz hw hS hl
  obtain ⟨c1, c2, c3, c4, c5, c6⟩ := hC
  have ha := iz_eq hok
  obtain ⟨h0, h1⟩ := hw.ok (a := a) (by omega)
  have he : (wl G n sh μ)[a - 1]? = some (gZ G + a, .inr (ci, flds G ci μ a)) := by rw [wl_get h0 h1, ent_obj ha c6]
  have ee : av G (vr a) = .ref (gZ G + a) := rf_nz h0
  rw [List.map_cons, List.map_cons, ee]
  have hset : (flds G ci μ a).set k (av G v) = flds G ci μ' a := flds_set (by omega) hv (fun j hj => ho a j (Or.inr hj))
  refine va_putF cx.1 cx.2.1 cx.2.2.2.2.1 c2 (fty ci) c4 c5 cx.2.2.2.1 ks.1 hw.1 wl_D hS (a - 1) he c1 k hk (cx.2.2.2.2.1 _ hf) (fun _ h => h) hfin (cx.2.2.2.2.2.2.2 hin) hdc (c4 k hk) hnf.1 hnf.2 (by rw [flds_len]; omega) hd (fun H1 locs1 hP hD hS1 => ?_)
  refine kk p e s m args below meth c H1 locs1 ls cx ks hz (hw.set h0 h1 (fun b hb => ent_oth (fun j => (ho b j (Or.inl hb)).1) (fun j => (ho b j (Or.inl hb)).2.1) (fun j => (ho b j (Or.inl hb)).2.2)) ?_) hS1 hl
  rw [ent_obj ha c6, ← hset]
  exact hP
theorem s_putFI {a ci k idx N : Nat} {C : String} {T : u_T} {x : Int32} (hC : Cl ci C T N) (hd : decode c0.1 pc = .ok (.putfield idx, 3)) (hok : iz sh ci a = true) (hk : k < N) (hf : Cond.fieldLink c0.2.2.1 idx (T k).1 (T k).2.1 (T k).2.2.1 ∈ lw_g) (hfin : (T k).2.2.2 = true) (hin : c0.2.2.2.1 = "<init>") (hdc : (T k).1 = c0.2.2.1) (ht : fty ci k = .int) (kk : Sj l G Qf c0 n sh kc js (sI μ a k x) (pc + 3) lc st) : Sj l G Qf c0 n sh kc js μ pc lc (vi x :: vr a :: st) := s_putF (μ' := sI μ a k x) hC hd hok hk hf hfin hin hdc (by rw [ht]; exact ⟨rfl, rfl⟩) (by rw [ht, gI_sI, if_pos rfl, if_pos rfl]; rfl) (fun b j h => ⟨by rw [gI_sI]; rcases h with h | h <;> simp [h], rfl, rfl⟩) kk
theorem s_putFJ {a ci k idx N : Nat} {C : String} {T : u_T} {x : Int64} (hC : Cl ci C T N) (hd : decode c0.1 pc = .ok (.putfield idx, 3)) (hok : iz sh ci a = true) (hk : k < N) (hf : Cond.fieldLink c0.2.2.1 idx (T k).1 (T k).2.1 (T k).2.2.1 ∈ lw_g) (hfin : (T k).2.2.2 = true) (hin : c0.2.2.2.1 = "<init>") (hdc : (T k).1 = c0.2.2.1) (ht : fty ci k = .long) (kk : Sj l G Qf c0 n sh kc js (sJ μ a k x) (pc + 3) lc st) : Sj l G Qf c0 n sh kc js μ pc lc (vl x :: vr a :: st) := s_putF (μ' := sJ μ a k x) hC hd hok hk hf hfin hin hdc (by rw [ht]; exact ⟨rfl, rfl⟩) (by rw [ht, gJ_sJ, if_pos rfl, if_pos rfl]; rfl) (fun b j h => ⟨rfl, by rw [gJ_sJ]; rcases h with h | h <;> simp [h], rfl⟩) kk
theorem s_putFR {a ci k idx N : Nat} {C : String} {T : u_T} {x : Nat} (hC : Cl ci C T N) (hd : decode c0.1 pc = .ok (.putfield idx, 3)) (hok : iz sh ci a = true) (hk : k < N) (hf : Cond.fieldLink c0.2.2.1 idx (T k).1 (T k).2.1 (T k).2.2.1 ∈ lw_g) (hfin : (T k).2.2.2 = true) (hin : c0.2.2.2.1 = "<init>") (hdc : (T k).1 = c0.2.2.1) (ht : RefTy (fty ci k)) (kk : Sj l G Qf c0 n sh kc js (sR μ a k x) (pc + 3) lc st) : Sj l G Qf c0 n sh kc js μ pc lc (vr x :: vr a :: st) := s_putF (μ' := sR μ a k x) hC hd hok hk hf hfin hin hdc (ht.2 _ (rf_form G x)) (by rw [ht.1, gR_sR, if_pos rfl, if_pos rfl]; rfl) (fun b j h => ⟨rfl, rfl, by rw [gR_sR]; rcases h with h | h <;> simp [h]⟩) kk
theorem s_iald {a : Nat} {i : Int32} (hd : decode c0.1 pc = .ok (.iaload, 1)) (hok : ix sh 8 a i = true) (kk : Sj l G Qf c0 n sh kc js μ (pc + 1) lc (vi (gI μ a i.toNatClampNeg) :: st)) : Sj l G Qf c0 n sh kc js μ pc lc (vi i :: vr a :: st) := by
  intro p e s m args below meth c H locs ls cx ks hz hw hS hl
  obtain ⟨ha, hi⟩ := ix_eq hok
  obtain ⟨h0, h1⟩ := hw.ok (a := a) (by omega)
  have he : (wl G n sh μ)[a - 1]? = some (gZ G + a, .inl (G.2.1 8, (sh a).2, .inl (gI μ a))) := by rw [wl_get h0 h1, ent_arr ha (by decide)]; rfl
  have ee : av G (vr a) = .ref (gZ G + a) := rf_nz h0
  rw [List.map_cons, List.map_cons, ee]
  exact va_iald cx.1 cx.2.1 ks.1 hw.1 (a - 1) 0 he rfl hi hd (kk p e s m args below meth c H locs ls cx ks hz hw hS hl)
theorem s_zald {a : Nat} {i : Int32} (hd : decode c0.1 pc = .ok (.baload, 1)) (hok : ix sh 10 a i = true) (kk : Sj l G Qf c0 n sh kc js μ (pc + 1) lc (vi (gI μ a i.toNatClampNeg) :: st)) : Sj l G Qf c0 n sh kc js μ pc lc (vi i :: vr a :: st) := by
  intro p e s m args below meth c H locs ls cx ks hz hw hS hl
  obtain ⟨ha, hi⟩ := ix_eq hok
  obtain ⟨h0, h1⟩ := hw.ok (a := a) (by omega)
  have he : (wl G n sh μ)[a - 1]? = some (gZ G + a, .inl (G.2.1 10, (sh a).2, .inl (gI μ a))) := by rw [wl_get h0 h1, ent_arr ha (by decide)]; rfl
  have ee : av G (vr a) = .ref (gZ G + a) := rf_nz h0
  rw [List.map_cons, List.map_cons, ee]
  exact va_zald cx.1 cx.2.1 ks.1 hw.1 (a - 1) 2 he rfl hi hd (kk p e s m args below meth c H locs ls cx ks hz hw hS hl)
theorem s_lald {a : Nat} {i : Int32} (hd : decode c0.1 pc = .ok (.laload, 1)) (hok : ix sh 9 a i = true) (kk : Sj l G Qf c0 n sh kc js μ (pc + 1) lc (vl (gJ μ a i.toNatClampNeg) :: st)) : Sj l G Qf c0 n sh kc js μ pc lc (vi i :: vr a :: st) := by
  intro p e s m args below meth c H locs ls cx ks hz hw hS hl
  obtain ⟨ha, hi⟩ := ix_eq hok
  obtain ⟨h0, h1⟩ := hw.ok (a := a) (by omega)
  have he : (wl G n sh μ)[a - 1]? = some (gZ G + a, .inl (G.2.1 9, (sh a).2, .inr (.inl (gJ μ a)))) := by rw [wl_get h0 h1, ent_arr ha (by decide)]; rfl
  have ee : av G (vr a) = .ref (gZ G + a) := rf_nz h0
  rw [List.map_cons, List.map_cons, ee]
  exact va_lald cx.1 cx.2.1 ks.1 hw.1 (a - 1) 1 he rfl hi hd (kk p e s m args below meth c H locs ls cx ks hz hw hS hl)
theorem s_aald11 {a : Nat} {i : Int32} (hd : decode c0.1 pc = .ok (.aaload, 1)) (hok : ix sh 11 a i = true) (kk : Sj l G Qf c0 n sh kc js μ (pc + 1) lc (vr (gR μ a i.toNatClampNeg) :: st)) : Sj l G Qf c0 n sh kc js μ pc lc (vi i :: vr a :: st) := by
  intro p e s m args below meth c H locs ls cx ks hz hw hS hl
  obtain ⟨ha, hi⟩ := ix_eq hok
  obtain ⟨h0, h1⟩ := hw.ok (a := a) (by omega)
  have he : (wl G n sh μ)[a - 1]? = some (gZ G + a, .inl (G.2.1 11, (sh a).2, .inr (.inr (.inr (.inr (fun k => ro G (gR μ a k))))))) := by rw [wl_get h0 h1, ent_arr ha (by decide)]; rfl
  have ee : av G (vr a) = .ref (gZ G + a) := rf_nz h0
  rw [List.map_cons, List.map_cons, ee]
  exact va_aldq cx.1 cx.2.1 ks.1 hw.1 (a - 1) 3 he rfl hi hd (kk p e s m args below meth c H locs ls cx ks hz hw hS hl)
theorem s_aald12 {a : Nat} {i : Int32} (hd : decode c0.1 pc = .ok (.aaload, 1)) (hok : ix sh 12 a i = true) (kk : Sj l G Qf c0 n sh kc js μ (pc + 1) lc (vr (gR μ a i.toNatClampNeg) :: st)) : Sj l G Qf c0 n sh kc js μ pc lc (vi i :: vr a :: st) := by
  intro p e s m args below meth c H locs ls cx ks hz hw hS hl
  obtain ⟨ha, hi⟩ := ix_eq hok
  obtain ⟨h0, h1⟩ := hw.ok (a := a) (by omega)
  have he : (wl G n sh μ)[a - 1]? = some (gZ G + a, .inl (G.2.1 12, (sh a).2, .inr (.inr (.inr (.inr (fun k => ro G (gR μ a k))))))) := by rw [wl_get h0 h1, ent_arr ha (by decide)]; rfl
  have ee : av G (vr a) = .ref (gZ G + a) := rf_nz h0
  rw [List.map_cons, List.map_cons, ee]
  exact va_aldq cx.1 cx.2.1 ks.1 hw.1 (a - 1) 4 he rfl hi hd (kk p e s m args below meth c H locs ls cx ks hz hw hS hl)
theorem s_iast {a : Nat} {i : Int32} {x : Int32} (hd : decode c0.1 pc = .ok (.iastore, 1)) (hok : ix sh 8 a i = true) (kk : Sj l G Qf c0 n sh kc js (sI μ a i.toNatClampNeg x) (pc + 1) lc st) : Sj l G Qf c0 n sh kc js μ pc lc (vi x :: vi i :: vr a :: st) := by
  intro p e s m args below meth c H locs ls cx ks hz hw hS hl
  obtain ⟨ha, hi⟩ := ix_eq hok
  obtain ⟨h0, h1⟩ := hw.ok (a := a) (by omega)
  have he : (wl G n sh μ)[a - 1]? = some (gZ G + a, .inl (G.2.1 8, (sh a).2, .inl (gI μ a))) := by rw [wl_get h0 h1, ent_arr ha (by decide)]; rfl
  have ee : av G (vr a) = .ref (gZ G + a) := rf_nz h0
  rw [List.map_cons, List.map_cons, List.map_cons, ee]
  refine va_iast cx.1 cx.2.1 ks.1 hw.1 wl_D hS (a - 1) 0 he rfl hi hd (fun H1 locs1 hP hD hS1 => ?_)
  refine kk p e s m args below meth c H1 locs1 ls cx ks hz (hw.set h0 h1 (fun b hb => ent_oth (fun j => by rw [gI_sI, if_neg hb]) (fun j => rfl) (fun j => rfl)) ?_) hS1 hl
  have er : gI (sI μ a i.toNatClampNeg x) a = upd (gI μ a) i.toNatClampNeg x := by
    funext j
    rw [gI_sI, if_pos rfl]
    rfl
  have en : ent G sh (sI μ a i.toNatClampNeg x) a = .inl (G.2.1 8, (sh a).2, .inl (upd (gI μ a) i.toNatClampNeg x)) := by
    rw [ent_arr ha (by decide), ← er]
    rfl
  rw [en]
  exact hP
theorem s_zast {a : Nat} {i : Int32} {x : Int32} (hd : decode c0.1 pc = .ok (.bastore, 1)) (hok : ix sh 10 a i = true) (kk : Sj l G Qf c0 n sh kc js (sI μ a i.toNatClampNeg (x &&& 1)) (pc + 1) lc st) : Sj l G Qf c0 n sh kc js μ pc lc (vi x :: vi i :: vr a :: st) := by
  intro p e s m args below meth c H locs ls cx ks hz hw hS hl
  obtain ⟨ha, hi⟩ := ix_eq hok
  obtain ⟨h0, h1⟩ := hw.ok (a := a) (by omega)
  have he : (wl G n sh μ)[a - 1]? = some (gZ G + a, .inl (G.2.1 10, (sh a).2, .inl (gI μ a))) := by rw [wl_get h0 h1, ent_arr ha (by decide)]; rfl
  have ee : av G (vr a) = .ref (gZ G + a) := rf_nz h0
  rw [List.map_cons, List.map_cons, List.map_cons, ee]
  refine va_zast cx.1 cx.2.1 ks.1 hw.1 wl_D hS (a - 1) 2 he rfl hi hd (fun H1 locs1 hP hD hS1 => ?_)
  refine kk p e s m args below meth c H1 locs1 ls cx ks hz (hw.set h0 h1 (fun b hb => ent_oth (fun j => by rw [gI_sI, if_neg hb]) (fun j => rfl) (fun j => rfl)) ?_) hS1 hl
  have er : gI (sI μ a i.toNatClampNeg (x &&& 1)) a = upd (gI μ a) i.toNatClampNeg (x &&& 1) := by
    funext j
    rw [gI_sI, if_pos rfl]
    rfl
  have en : ent G sh (sI μ a i.toNatClampNeg (x &&& 1)) a = .inl (G.2.1 10, (sh a).2, .inl (upd (gI μ a) i.toNatClampNeg (x &&& 1))) := by
    rw [ent_arr ha (by decide), ← er]
    rfl
  rw [en]
  exact hP
theorem s_last {a : Nat} {i : Int32} {x : Int64} (hd : decode c0.1 pc = .ok (.lastore, 1)) (hok : ix sh 9 a i = true) (kk : Sj l G Qf c0 n sh kc js (sJ μ a i.toNatClampNeg x) (pc + 1) lc st) : Sj l G Qf c0 n sh kc js μ pc lc (vl x :: vi i :: vr a :: st) := by
  intro p e s m args below meth c H locs ls cx ks hz hw hS hl
  obtain ⟨ha, hi⟩ := ix_eq hok
  obtain ⟨h0, h1⟩ := hw.ok (a := a) (by omega)
  have he : (wl G n sh μ)[a - 1]? = some (gZ G + a, .inl (G.2.1 9, (sh a).2, .inr (.inl (gJ μ a)))) := by rw [wl_get h0 h1, ent_arr ha (by decide)]; rfl
  have ee : av G (vr a) = .ref (gZ G + a) := rf_nz h0
  rw [List.map_cons, List.map_cons, List.map_cons, ee]
  refine va_last cx.1 cx.2.1 ks.1 hw.1 wl_D hS (a - 1) 1 he rfl hi hd (fun H1 locs1 hP hD hS1 => ?_)
  refine kk p e s m args below meth c H1 locs1 ls cx ks hz (hw.set h0 h1 (fun b hb => ent_oth (fun j => rfl) (fun j => by rw [gJ_sJ, if_neg hb]) (fun j => rfl)) ?_) hS1 hl
  have er : gJ (sJ μ a i.toNatClampNeg x) a = vp_updL (gJ μ a) i.toNatClampNeg x := by
    funext j
    rw [gJ_sJ, if_pos rfl]
    rfl
  have en : ent G sh (sJ μ a i.toNatClampNeg x) a = .inl (G.2.1 9, (sh a).2, .inr (.inl (vp_updL (gJ μ a) i.toNatClampNeg x))) := by
    rw [ent_arr ha (by decide), ← er]
    rfl
  rw [en]
  exact hP
theorem s_aast11 {a v : Nat} {i : Int32} (hd : decode c0.1 pc = .ok (.aastore, 1)) (hok : ix sh 11 a i = true) (hov : iz sh 5 v = true) (kk : Sj l G Qf c0 n sh kc js (sR μ a i.toNatClampNeg v) (pc + 1) lc st) : Sj l G Qf c0 n sh kc js μ pc lc (vr v :: vi i :: vr a :: st) := by
  intro p e s m args below meth c H locs ls cx ks hz hw hS hl
  obtain ⟨ha, hi⟩ := ix_eq hok
  have hb := iz_eq hov
  obtain ⟨h0, h1⟩ := hw.ok (a := a) (by omega)
  obtain ⟨g0, g1⟩ := hw.ok (a := v) (by omega)
  have he : (wl G n sh μ)[a - 1]? = some (gZ G + a, .inl (G.2.1 11, (sh a).2, .inr (.inr (.inr (.inr (fun k => ro G (gR μ a k))))))) := by rw [wl_get h0 h1, ent_arr ha (by decide)]; rfl
  have hv : (wl G n sh μ)[v - 1]? = some (gZ G + v, .inr (5, flds G 5 μ v)) := by rw [wl_get g0 g1, ent_obj hb (by decide)]
  have ee : av G (vr a) = .ref (gZ G + a) := rf_nz h0
  have ev : av G (vr v) = .ref (gZ G + v) := rf_nz g0
  rw [List.map_cons, List.map_cons, List.map_cons, ee, ev]
  refine va_astq (r := cls8[5]) cx.1 cx.2.1 ks.1 hw.1 wl_D hS (a - 1) 3 (v - 1) 5 he rfl hv rfl hi hd (fun H1 locs1 hP hD hS1 => ?_)
  refine kk p e s m args below meth c H1 locs1 ls cx ks hz (hw.set h0 h1 (fun b hb => ent_oth (fun j => rfl) (fun j => rfl) (fun j => by rw [gR_sR, if_neg hb])) ?_) hS1 hl
  have er : (fun k => ro G (gR (sR μ a i.toNatClampNeg v) a k)) = va_up (fun k => ro G (gR μ a k)) i.toNatClampNeg (some (gZ G + v)) := by
    funext j
    rw [gR_sR, if_pos rfl]
    by_cases hj : j = i.toNatClampNeg
    · rw [if_pos hj, hj]; simp [va_up, ro, g0]
    · rw [if_neg hj]; simp [va_up, hj]
  have en : ent G sh (sR μ a i.toNatClampNeg v) a = .inl (G.2.1 11, (sh a).2, .inr (.inr (.inr (.inr (va_up (fun k => ro G (gR μ a k)) i.toNatClampNeg (some (gZ G + v))))))) := by
    rw [ent_arr ha (by decide), ← er]
    rfl
  rw [en]
  exact hP
theorem s_aast12 {a v : Nat} {i : Int32} (hd : decode c0.1 pc = .ok (.aastore, 1)) (hok : ix sh 12 a i = true) (hov : iz sh 4 v = true) (kk : Sj l G Qf c0 n sh kc js (sR μ a i.toNatClampNeg v) (pc + 1) lc st) : Sj l G Qf c0 n sh kc js μ pc lc (vr v :: vi i :: vr a :: st) := by
  intro p e s m args below meth c H locs ls cx ks hz hw hS hl
  obtain ⟨ha, hi⟩ := ix_eq hok
  have hb := iz_eq hov
  obtain ⟨h0, h1⟩ := hw.ok (a := a) (by omega)
  obtain ⟨g0, g1⟩ := hw.ok (a := v) (by omega)
  have he : (wl G n sh μ)[a - 1]? = some (gZ G + a, .inl (G.2.1 12, (sh a).2, .inr (.inr (.inr (.inr (fun k => ro G (gR μ a k))))))) := by rw [wl_get h0 h1, ent_arr ha (by decide)]; rfl
  have hv : (wl G n sh μ)[v - 1]? = some (gZ G + v, .inr (4, flds G 4 μ v)) := by rw [wl_get g0 g1, ent_obj hb (by decide)]
  have ee : av G (vr a) = .ref (gZ G + a) := rf_nz h0
  have ev : av G (vr v) = .ref (gZ G + v) := rf_nz g0
  rw [List.map_cons, List.map_cons, List.map_cons, ee, ev]
  refine va_astq (r := cls8[4]) cx.1 cx.2.1 ks.1 hw.1 wl_D hS (a - 1) 4 (v - 1) 4 he rfl hv rfl hi hd (fun H1 locs1 hP hD hS1 => ?_)
  refine kk p e s m args below meth c H1 locs1 ls cx ks hz (hw.set h0 h1 (fun b hb => ent_oth (fun j => rfl) (fun j => rfl) (fun j => by rw [gR_sR, if_neg hb])) ?_) hS1 hl
  have er : (fun k => ro G (gR (sR μ a i.toNatClampNeg v) a k)) = va_up (fun k => ro G (gR μ a k)) i.toNatClampNeg (some (gZ G + v)) := by
    funext j
    rw [gR_sR, if_pos rfl]
    by_cases hj : j = i.toNatClampNeg
    · rw [if_pos hj, hj]; simp [va_up, ro, g0]
    · rw [if_neg hj]; simp [va_up, hj]
  have en : ent G sh (sR μ a i.toNatClampNeg v) a = .inl (G.2.1 12, (sh a).2, .inr (.inr (.inr (.inr (va_up (fun k => ro G (gR μ a k)) i.toNatClampNeg (some (gZ G + v))))))) := by
    rw [ent_arr ha (by decide), ← er]
    rfl
  rw [en]
  exact hP
theorem s_alen8 {a : Nat} (hd : decode c0.1 pc = .ok (.arraylength, 1)) (hok : iz sh 8 a = true) (kk : Sj l G Qf c0 n sh kc js μ (pc + 1) lc (vi (nI (sh a).2) :: st)) : Sj l G Qf c0 n sh kc js μ pc lc (vr a :: st) := by
  intro p e s m args below meth c H locs ls cx ks hz hw hS hl
  have ha := iz_eq hok
  obtain ⟨h0, h1⟩ := hw.ok (a := a) (by omega)
  have he : (wl G n sh μ)[a - 1]? = some (gZ G + a, .inl (G.2.1 8, arow G 8 (sh a).2 μ a)) := by rw [wl_get h0 h1, ent_arr ha (by decide)]
  have ee : av G (vr a) = .ref (gZ G + a) := rf_nz h0
  rw [List.map_cons, ee]
  exact va_alen cx.1 cx.2.1 ks.1 hw.1 (a - 1) 0 he rfl (by rfl) hd (kk p e s m args below meth c H locs ls cx ks hz hw hS hl)
theorem s_alen9 {a : Nat} (hd : decode c0.1 pc = .ok (.arraylength, 1)) (hok : iz sh 9 a = true) (kk : Sj l G Qf c0 n sh kc js μ (pc + 1) lc (vi (nI (sh a).2) :: st)) : Sj l G Qf c0 n sh kc js μ pc lc (vr a :: st) := by
  intro p e s m args below meth c H locs ls cx ks hz hw hS hl
  have ha := iz_eq hok
  obtain ⟨h0, h1⟩ := hw.ok (a := a) (by omega)
  have he : (wl G n sh μ)[a - 1]? = some (gZ G + a, .inl (G.2.1 9, arow G 9 (sh a).2 μ a)) := by rw [wl_get h0 h1, ent_arr ha (by decide)]
  have ee : av G (vr a) = .ref (gZ G + a) := rf_nz h0
  rw [List.map_cons, ee]
  exact va_alen cx.1 cx.2.1 ks.1 hw.1 (a - 1) 1 he rfl (by rfl) hd (kk p e s m args below meth c H locs ls cx ks hz hw hS hl)
theorem s_alen10 {a : Nat} (hd : decode c0.1 pc = .ok (.arraylength, 1)) (hok : iz sh 10 a = true) (kk : Sj l G Qf c0 n sh kc js μ (pc + 1) lc (vi (nI (sh a).2) :: st)) : Sj l G Qf c0 n sh kc js μ pc lc (vr a :: st) := by
  intro p e s m args below meth c H locs ls cx ks hz hw hS hl
  have ha := iz_eq hok
  obtain ⟨h0, h1⟩ := hw.ok (a := a) (by omega)
  have he : (wl G n sh μ)[a - 1]? = some (gZ G + a, .inl (G.2.1 10, arow G 10 (sh a).2 μ a)) := by rw [wl_get h0 h1, ent_arr ha (by decide)]
  have ee : av G (vr a) = .ref (gZ G + a) := rf_nz h0
  rw [List.map_cons, ee]
  exact va_alen cx.1 cx.2.1 ks.1 hw.1 (a - 1) 2 he rfl (by rfl) hd (kk p e s m args below meth c H locs ls cx ks hz hw hS hl)
theorem s_alen11 {a : Nat} (hd : decode c0.1 pc = .ok (.arraylength, 1)) (hok : iz sh 11 a = true) (kk : Sj l G Qf c0 n sh kc js μ (pc + 1) lc (vi (nI (sh a).2) :: st)) : Sj l G Qf c0 n sh kc js μ pc lc (vr a :: st) := by
  intro p e s m args below meth c H locs ls cx ks hz hw hS hl
  have ha := iz_eq hok
  obtain ⟨h0, h1⟩ := hw.ok (a := a) (by omega)
  have he : (wl G n sh μ)[a - 1]? = some (gZ G + a, .inl (G.2.1 11, arow G 11 (sh a).2 μ a)) := by rw [wl_get h0 h1, ent_arr ha (by decide)]
  have ee : av G (vr a) = .ref (gZ G + a) := rf_nz h0
  rw [List.map_cons, ee]
  exact va_alen cx.1 cx.2.1 ks.1 hw.1 (a - 1) 3 he rfl (by rfl) hd (kk p e s m args below meth c H locs ls cx ks hz hw hS hl)
theorem s_alen12 {a : Nat} (hd : decode c0.1 pc = .ok (.arraylength, 1)) (hok : iz sh 12 a = true) (kk : Sj l G Qf c0 n sh kc js μ (pc + 1) lc (vi (nI (sh a).2) :: st)) : Sj l G Qf c0 n sh kc js μ pc lc (vr a :: st) := by
  intro p e s m args below meth c H locs ls cx ks hz hw hS hl
  have ha := iz_eq hok
  obtain ⟨h0, h1⟩ := hw.ok (a := a) (by omega)
  have he : (wl G n sh μ)[a - 1]? = some (gZ G + a, .inl (G.2.1 12, arow G 12 (sh a).2 μ a)) := by rw [wl_get h0 h1, ent_arr ha (by decide)]
  have ee : av G (vr a) = .ref (gZ G + a) := rf_nz h0
  rw [List.map_cons, ee]
  exact va_alen cx.1 cx.2.1 ks.1 hw.1 (a - 1) 4 he rfl (by rfl) hd (kk p e s m args below meth c H locs ls cx ks hz hw hS hl)
theorem s_getH {idx : Nat} (hd : decode c0.1 pc = .ok (.getstatic idx, 3)) (hf : Cond.fieldLink c0.2.2.1 idx "StripsOfFour" "HUNDREDS" "[I" ∈ lw_g) (kk : Sj l G Qf c0 n sh kc js μ (pc + 3) lc (vq (gT G) :: st)) : Sj l G Qf c0 n sh kc js μ pc lc st := by
  intro p e s m args below meth c H locs ls cx ks hz hw hS hl
  exact va_gets cx.1 cx.2.1 ks.2.1 hS cx.2.2.2.1 (cx.2.2.2.2.1 _ hf) (fun _ h => h) hd (kk p e s m args below meth c H locs ls cx ks hz hw hS hl)
theorem s_ialdH {i : Int32} (hd : decode c0.1 pc = .ok (.iaload, 1)) (hok : vp_in i 5) (kk : Sj l G Qf c0 n sh kc js μ (pc + 1) lc (vi (hun i.toNatClampNeg) :: st)) : Sj l G Qf c0 n sh kc js μ pc lc (vi i :: vq (gT G) :: st) := by
  intro p e s m args below meth c H locs ls cx ks hz hw hS hl
  obtain ⟨cell, t1, t2, t3, t4, t5, t6, t7⟩ := ks.2.2.1
  have hlt : i.toNatClampNeg < 5 := Nat.not_le.mp fun q => hok (Or.inr q)
  have h1 : H[gT G]? = some cell := by rw [hS.2.1 _ (Array.getElem?_eq_some_iff.mp t1).1 t7]; exact t1
  exact W.iald cx.1 cx.2.1 h1 t2 t3 (fun q => q.elim (fun q => hok (Or.inl q)) (fun q => by omega)) (t6 _ hlt) rfl rfl hd (kk p e s m args below meth c H locs ls cx ks hz hw hS hl)
theorem s_alenH (hd : decode c0.1 pc = .ok (.arraylength, 1)) (kk : Sj l G Qf c0 n sh kc js μ (pc + 1) lc (vi 5 :: st)) : Sj l G Qf c0 n sh kc js μ pc lc (vq (gT G) :: st) := by
  intro p e s m args below meth c H locs ls cx ks hz hw hS hl
  obtain ⟨cell, t1, t2, t3, t4, t5, t6, t7⟩ := ks.2.2.1
  have h1 : H[gT G]? = some cell := by rw [hS.2.1 _ (Array.getElem?_eq_some_iff.mp t1).1 t7]; exact t1
  exact W.alen cx.1 cx.2.1 h1 t2 t5 rfl rfl hd (kk p e s m args below meth c H locs ls cx ks hz hw hS hl)
theorem s_sld {i : Int32} (hd : decode c0.1 pc = .ok (.iaload, 1)) (hok : vp_in i (gL G)) (kk : Sj l G Qf c0 n sh kc js μ (pc + 1) lc (vi (gX G i.toNatClampNeg) :: st)) : Sj l G Qf c0 n sh kc js μ pc lc (vi i :: vq (gB G) :: st) := by
  intro p e s m args below meth c H locs ls cx ks hz hw hS hl
  obtain ⟨-, -, -, k4, -, -, -, k8, k9⟩ := id ks
  exact va_sld cx.1 cx.2.1 k4 (by omega) (by unfold AA; omega) hS hok hd (kk p e s m args below meth c H locs ls cx ks hz hw hS hl)
theorem s_slen (hd : decode c0.1 pc = .ok (.arraylength, 1)) (kk : Sj l G Qf c0 n sh kc js μ (pc + 1) lc (vi (nI (gL G)) :: st)) : Sj l G Qf c0 n sh kc js μ pc lc (vq (gB G) :: st) := by
  intro p e s m args below meth c H locs ls cx ks hz hw hS hl
  obtain ⟨-, -, -, k4, -, -, -, k8, k9⟩ := id ks
  exact va_slen cx.1 cx.2.1 k4 (by omega) (by unfold AA; omega) hS hd (kk p e s m args below meth c H locs ls cx ks hz hw hS hl)
def Qm (G : Gl) (v : Option Value) (n : Nat) (sh : Sh) (μ : Mu) (mc ms : Nat) : List Frame → Array Value → State → State → Prop := fun below args s => MQ below (fun _ st o t => o = .returned v ∧ Hw G n sh μ t.heap ∧ va_F (AA G) st t) args s mc ms (AA G)
theorem s_iret {v : Int32} (hd : decode c0.1 pc = .ok (.ireturn, 1)) (hr : c0.2.2.2.2.1 = some .int) : Sj l G (Qm G (some (.int v)) n sh μ kc js) c0 n sh kc js μ pc lc [vi v] := by
  intro p e s m args below meth c H locs ls cx ks hz hw hS hl
  exact W.iret cx.1 cx.2.1 (cx.2.2.2.2.2.1.trans hr) (fun t ht hW => ⟨rfl, ht ▸ hw, hS.F ht⟩) hS.2.2 hd cx.2.2.2.2.2.2.1
theorem s_lret {v : Int64} (hd : decode c0.1 pc = .ok (.lreturn, 1)) (hr : c0.2.2.2.2.1 = some .long) : Sj l G (Qm G (some (.long v)) n sh μ kc js) c0 n sh kc js μ pc lc [vl v] := by
  intro p e s m args below meth c H locs ls cx ks hz hw hS hl
  exact W.lret cx.1 cx.2.1 (cx.2.2.2.2.2.1.trans hr) (fun t ht hW => ⟨rfl, ht ▸ hw, hS.F ht⟩) hS.2.2 hd cx.2.2.2.2.2.2.1
theorem s_vret (hd : decode c0.1 pc = .ok (.return_, 1)) (hr : c0.2.2.2.2.1 = none) : Sj l G (Qm G none n sh μ kc js) c0 n sh kc js μ pc lc [] := by
  intro p e s m args below meth c H locs ls cx ks hz hw hS hl
  exact W.vret cx.1 cx.2.1 (cx.2.2.2.2.2.1.trans hr) (fun t ht hW => ⟨rfl, ht ▸ hw, hS.F ht⟩) hS.2.2 hd cx.2.2.2.2.2.2.1
theorem s_zret0 {v w : Int32} (hn : narrow .boolean (.int v) = .int w) (hd : decode c0.1 pc = .ok (.ireturn, 1)) (hr : c0.2.2.2.2.1 = some .boolean) : Sj l G (Qm G (some (.int w)) n sh μ kc js) c0 n sh kc js μ pc lc [vi v] := by
  intro p e s m args below meth c H locs ls cx ks hz hw hS hl
  intro T hT X
  have hlocks : meth.locks = false := cx.2.2.2.2.2.2.1
  have hrr := cx.2.2.2.2.2.1.trans hr
  have hexec := cx.1
  have hb := cx.2.1
  obtain ⟨fs, hret, hrun, hended, hW, hframe⟩ := X.leave (v := some (.int w)) (fun h => by rw [hrr] at h; cases h)
  have hmeth' : T.vm.method? m = some meth := X.method'
  refine ⟨T.setFrames fs, ?_, .returned (some (.int w)), hrun, hended, ⟨rfl, hT ▸ hw, hS.F hT⟩, locs, ⟨⟨_, rfl⟩, hW, hframe⟩, hS.2.2⟩
  show Steps p.tables e below (T.setTop (F0 m pc ls [.int v])) _
  jvm_step X.here [X.here.top, hexec, hb, hd, hmeth', hrr, hn]
  (try refine ⟨rfl, ?_⟩); (try refine ⟨rfl, ?_⟩)
  first | (intro acts; rw [hret _ acts rfl rfl rfl]) | rw [hret _ _ rfl rfl rfl]
  exact Steps.refl _
theorem s_zret {v : Int32} (hd : decode c0.1 pc = .ok (.ireturn, 1)) (hr : c0.2.2.2.2.1 = some .boolean) : Sj l G (Qm G (some (.int (v &&& 1))) n sh μ kc js) c0 n sh kc js μ pc lc [vi v] := s_zret0 rfl hd hr
end SH

/-! StripsOfFour$Strip.copyFrom -/
abbrev c_X5_copyFrom : Cf := (prog_7_method_2_code, 2, "StripsOfFour$Strip", "copyFrom", none, { frames := 1, cells := 0, slots := 0, locals := 68 })
theorem d_X5_copyFrom_0 : decode prog_7_method_2_code 0 = .ok (.aload_n 0, 1) := by decide +kernel
theorem d_X5_copyFrom_1 : decode prog_7_method_2_code 1 = .ok (.aload_n 1, 1) := by decide +kernel
theorem d_X5_copyFrom_2 : decode prog_7_method_2_code 2 = .ok (.getfield 9, 3) := by decide +kernel
theorem d_X5_copyFrom_5 : decode prog_7_method_2_code 5 = .ok (.putfield 9, 3) := by decide +kernel
theorem d_X5_copyFrom_8 : decode prog_7_method_2_code 8 = .ok (.aload_n 0, 1) := by decide +kernel
theorem d_X5_copyFrom_9 : decode prog_7_method_2_code 9 = .ok (.aload_n 1, 1) := by decide +kernel
theorem d_X5_copyFrom_10 : decode prog_7_method_2_code 10 = .ok (.getfield 15, 3) := by decide +kernel
theorem d_X5_copyFrom_13 : decode prog_7_method_2_code 13 = .ok (.putfield 15, 3) := by decide +kernel
theorem d_X5_copyFrom_16 : decode prog_7_method_2_code 16 = .ok (.aload_n 0, 1) := by decide +kernel
theorem d_X5_copyFrom_17 : decode prog_7_method_2_code 17 = .ok (.aload_n 1, 1) := by decide +kernel
theorem d_X5_copyFrom_18 : decode prog_7_method_2_code 18 = .ok (.getfield 18, 3) := by decide +kernel
theorem d_X5_copyFrom_21 : decode prog_7_method_2_code 21 = .ok (.putfield 18, 3) := by decide +kernel
theorem d_X5_copyFrom_24 : decode prog_7_method_2_code 24 = .ok (.aload_n 0, 1) := by decide +kernel
theorem d_X5_copyFrom_25 : decode prog_7_method_2_code 25 = .ok (.aload_n 1, 1) := by decide +kernel
theorem d_X5_copyFrom_26 : decode prog_7_method_2_code 26 = .ok (.getfield 21, 3) := by decide +kernel
theorem d_X5_copyFrom_29 : decode prog_7_method_2_code 29 = .ok (.putfield 21, 3) := by decide +kernel
theorem d_X5_copyFrom_32 : decode prog_7_method_2_code 32 = .ok (.aload_n 1, 1) := by decide +kernel
theorem d_X5_copyFrom_33 : decode prog_7_method_2_code 33 = .ok (.getfield 24, 3) := by decide +kernel
theorem d_X5_copyFrom_36 : decode prog_7_method_2_code 36 = .ok (.iconst 0, 1) := by decide +kernel
theorem d_X5_copyFrom_37 : decode prog_7_method_2_code 37 = .ok (.aload_n 0, 1) := by decide +kernel
theorem d_X5_copyFrom_38 : decode prog_7_method_2_code 38 = .ok (.getfield 24, 3) := by decide +kernel
theorem d_X5_copyFrom_41 : decode prog_7_method_2_code 41 = .ok (.iconst 0, 1) := by decide +kernel
theorem d_X5_copyFrom_42 : decode prog_7_method_2_code 42 = .ok (.aload_n 0, 1) := by decide +kernel
theorem d_X5_copyFrom_43 : decode prog_7_method_2_code 43 = .ok (.getfield 24, 3) := by decide +kernel
theorem d_X5_copyFrom_46 : decode prog_7_method_2_code 46 = .ok (.arraylength, 1) := by decide +kernel
theorem d_X5_copyFrom_47 : decode prog_7_method_2_code 47 = .ok (.invokestatic 28, 3) := by decide +kernel
theorem d_X5_copyFrom_50 : decode prog_7_method_2_code 50 = .ok (.return_, 1) := by decide +kernel
def m_X5_copyFrom (sh : Sh) (v0 : Nat) (v1 : Nat) (μ : Mu) : Option Mu :=
  gd (iz sh 5 v1) <|
  gd (iz sh 5 v0) <|
  bd (sI μ v0 0 (gI μ v1 0)) fun μ3 =>
  bd (sI μ3 v0 1 (gI μ3 v1 1)) fun μ4 =>
  bd (sI μ4 v0 2 (gI μ4 v1 2)) fun μ5 =>
  bd (sI μ5 v0 3 (gI μ5 v1 3)) fun μ6 =>
  bd (gR μ6 v1 4) fun a7 =>
  bd (gR μ6 v0 4) fun a8 =>
  bd (gR μ6 v0 4) fun a9 =>
  gd (iz sh 8 a9) <|
  gd (ixC sh a7 0 (nI (sh a9).2)) <|
  gd (ixC sh a8 0 (nI (sh a9).2)) <|
  bd (cpI μ6 a7 a8 (0 : Int32).toNatClampNeg (0 : Int32).toNatClampNeg (nI (sh a9).2).toNatClampNeg) fun μ13 =>
  some μ13
set_option maxHeartbeats 4000000 in
set_option maxRecDepth 20000 in
theorem t_X5_copyFrom {l : Launch} {G : Gl} {n : Nat} {sh : Sh} {x : Mu} {v0 : Nat} {v1 : Nat} {μ : Mu} (h : m_X5_copyFrom sh v0 v1 μ = some x) : Ct l G ⟨"StripsOfFour$Strip", "copyFrom", "(LStripsOfFour$Strip;)V"⟩ prog_7_method_2_code 2 none { frames := 1, cells := 0, slots := 0, locals := 68 } n sh μ [vr v0, vr v1] none n sh x := by
  refine Ct.of (lc := [some (vr v0), some (vr v1)]) (by decide +kernel) (Nat.le_of_ble_eq_true rfl) rfl ?_
  show Sj l G (QV G n sh x) c_X5_copyFrom n sh 0 0 μ 0 [some (vr v0), some (vr v1)] []
  unfold m_X5_copyFrom at h
  refine s_aload_n (pc := 0) d_X5_copyFrom_0 rfl rfl ?_
  refine s_aload_n (pc := 1) d_X5_copyFrom_1 rfl rfl ?_
  obtain ⟨g1, h⟩ := gd_1 h
  refine s_getI (pc := 2) (k := 0) cl_5 d_X5_copyFrom_2 g1 (by decide) w_62 rfl ?_
  obtain ⟨g2, h⟩ := gd_1 h
  refine s_putI (pc := 5) (k := 0) cl_5 d_X5_copyFrom_5 g2 (by decide) w_62 rfl rfl ?_
  obtain ⟨μ3, eμ3, h⟩ := bd_1 h
  refine s_mu eμ3 ?_
  refine s_aload_n (pc := 8) d_X5_copyFrom_8 rfl rfl ?_
  refine s_aload_n (pc := 9) d_X5_copyFrom_9 rfl rfl ?_
  refine s_getI (pc := 10) (k := 1) cl_5 d_X5_copyFrom_10 g1 (by decide) w_65 rfl ?_
  refine s_putI (pc := 13) (k := 1) cl_5 d_X5_copyFrom_13 g2 (by decide) w_65 rfl rfl ?_
  obtain ⟨μ4, eμ4, h⟩ := bd_1 h
  refine s_mu eμ4 ?_
  refine s_aload_n (pc := 16) d_X5_copyFrom_16 rfl rfl ?_
  refine s_aload_n (pc := 17) d_X5_copyFrom_17 rfl rfl ?_
  refine s_getI (pc := 18) (k := 2) cl_5 d_X5_copyFrom_18 g1 (by decide) w_67 rfl ?_
  refine s_putI (pc := 21) (k := 2) cl_5 d_X5_copyFrom_21 g2 (by decide) w_67 rfl rfl ?_
  obtain ⟨μ5, eμ5, h⟩ := bd_1 h
  refine s_mu eμ5 ?_
  refine s_aload_n (pc := 24) d_X5_copyFrom_24 rfl rfl ?_
  refine s_aload_n (pc := 25) d_X5_copyFrom_25 rfl rfl ?_
  refine s_getI (pc := 26) (k := 3) cl_5 d_X5_copyFrom_26 g1 (by decide) w_71 rfl ?_
  refine s_putI (pc := 29) (k := 3) cl_5 d_X5_copyFrom_29 g2 (by decide) w_71 rfl rfl ?_
  obtain ⟨μ6, eμ6, h⟩ := bd_1 h
  refine s_mu eμ6 ?_
  refine s_aload_n (pc := 32) d_X5_copyFrom_32 rfl rfl ?_
  refine s_getR (pc := 33) (k := 4) cl_5 d_X5_copyFrom_33 g1 (by decide) w_74 (rt_arr _) ?_
  obtain ⟨a7, ea7, h⟩ := bd_1 h
  refine s_topR ea7 ?_
  refine s_iconst (pc := 36) (v := 0) d_X5_copyFrom_36 (by decide) ?_
  refine s_aload_n (pc := 37) d_X5_copyFrom_37 rfl rfl ?_
  refine s_getR (pc := 38) (k := 4) cl_5 d_X5_copyFrom_38 g2 (by decide) w_74 (rt_arr _) ?_
  obtain ⟨a8, ea8, h⟩ := bd_1 h
  refine s_topR ea8 ?_
  refine s_iconst (pc := 41) (v := 0) d_X5_copyFrom_41 (by decide) ?_
  refine s_aload_n (pc := 42) d_X5_copyFrom_42 rfl rfl ?_
  refine s_getR (pc := 43) (k := 4) cl_5 d_X5_copyFrom_43 g2 (by decide) w_74 (rt_arr _) ?_
  obtain ⟨a9, ea9, h⟩ := bd_1 h
  refine s_topR ea9 ?_
  obtain ⟨g10, h⟩ := gd_1 h
  refine s_alen8 (pc := 46) d_X5_copyFrom_46 g10 ?_
  obtain ⟨g11, h⟩ := gd_1 h
  obtain ⟨g12, h⟩ := gd_1 h
  refine s_copyI (pc := 47) d_X5_copyFrom_47 g11 g12 w_391 w_393 w_392 w_11 (by decide) (Nat.le_of_ble_eq_true rfl) ?_
  obtain ⟨μ13, eμ13, h⟩ := bd_1 h
  refine s_mu eμ13 ?_
  obtain rfl := Option.some.inj h
  exact s_vret (pc := 50) d_X5_copyFrom_50 rfl
/-! StripsOfFour$Plan.hasPerson -/
abbrev c_X2_hasPerson : Cf := (prog_4_method_7_code, 2, "StripsOfFour$Plan", "hasPerson", (some .boolean), { frames := 0, cells := 0, slots := 0, locals := 0 })
theorem d_X2_hasPerson_0 : decode prog_4_method_7_code 0 = .ok (.iload_n 1, 1) := by decide +kernel
theorem d_X2_hasPerson_1 : decode prog_4_method_7_code 1 = .ok (.ifCond .lt 20, 3) := by decide +kernel
theorem d_X2_hasPerson_4 : decode prog_4_method_7_code 4 = .ok (.iload_n 1, 1) := by decide +kernel
theorem d_X2_hasPerson_5 : decode prog_4_method_7_code 5 = .ok (.aload_n 0, 1) := by decide +kernel
theorem d_X2_hasPerson_6 : decode prog_4_method_7_code 6 = .ok (.getfield 18, 3) := by decide +kernel
theorem d_X2_hasPerson_9 : decode prog_4_method_7_code 9 = .ok (.if_icmp .ge 12, 3) := by decide +kernel
theorem d_X2_hasPerson_12 : decode prog_4_method_7_code 12 = .ok (.iload_n 1, 1) := by decide +kernel
theorem d_X2_hasPerson_13 : decode prog_4_method_7_code 13 = .ok (.iconst 5, 1) := by decide +kernel
theorem d_X2_hasPerson_14 : decode prog_4_method_7_code 14 = .ok (.if_icmp .ge 7, 3) := by decide +kernel
theorem d_X2_hasPerson_17 : decode prog_4_method_7_code 17 = .ok (.iconst 1, 1) := by decide +kernel
theorem d_X2_hasPerson_18 : decode prog_4_method_7_code 18 = .ok (.goto 4, 3) := by decide +kernel
theorem d_X2_hasPerson_21 : decode prog_4_method_7_code 21 = .ok (.iconst 0, 1) := by decide +kernel
theorem d_X2_hasPerson_22 : decode prog_4_method_7_code 22 = .ok (.ireturn, 1) := by decide +kernel
def m_X2_hasPerson (sh : Sh) (v0 : Nat) (v1 : Int32) (μ : Mu) : Option (Int32 × Mu) :=
  if v1 < 0 then
    some (0, μ)
  else
    gd (iz sh 2 v0) <|
    if (gI μ v0 2) ≤ v1 then
      some (0, μ)
    else
      if 5 ≤ v1 then
        some (0, μ)
      else
        some (1, μ)
set_option maxHeartbeats 4000000 in
set_option maxRecDepth 20000 in
theorem t_X2_hasPerson {l : Launch} {G : Gl} {n : Nat} {sh : Sh} {x : Int32 × Mu} {v0 : Nat} {v1 : Int32} {μ : Mu} (h : m_X2_hasPerson sh v0 v1 μ = some x) : Ct l G ⟨"StripsOfFour$Plan", "hasPerson", "(I)Z"⟩ prog_4_method_7_code 2 (some .boolean) { frames := 0, cells := 0, slots := 0, locals := 0 } n sh μ [vr v0, vi v1] (some (.int x.1)) n sh x.2 := by
  refine Ct.of (lc := [some (vr v0), some (vi v1)]) (by decide +kernel) (Nat.le_of_ble_eq_true rfl) rfl ?_
  show Sj l G (QI G n sh x) c_X2_hasPerson n sh 0 0 μ 0 [some (vr v0), some (vi v1)] []
  unfold m_X2_hasPerson at h
  refine s_iload_n (pc := 0) d_X2_hasPerson_0 rfl rfl ?_
  refine s_if_lt (pc := 1) (tgt := 21) d_X2_hasPerson_1 (by decide) (fun c1 => ?_) (fun c1 => ?_)
  · have h := it_t c1 h
    refine s_iconst (pc := 21) (v := 0) d_X2_hasPerson_21 (by decide) ?_
    obtain rfl := Option.some.inj h
    exact s_zret0 (pc := 22) rfl d_X2_hasPerson_22 rfl
  · have h := it_f c1 h
    refine s_iload_n (pc := 4) d_X2_hasPerson_4 rfl rfl ?_
    refine s_aload_n (pc := 5) d_X2_hasPerson_5 rfl rfl ?_
    obtain ⟨g2, h⟩ := gd_1 h
    refine s_getI (pc := 6) (k := 2) cl_2 d_X2_hasPerson_6 g2 (by decide) w_30 rfl ?_
    refine s_icmp_ge (pc := 9) (tgt := 21) d_X2_hasPerson_9 (by decide) (fun c3 => ?_) (fun c3 => ?_)
    · have h := it_t c3 h
      refine s_iconst (pc := 21) (v := 0) d_X2_hasPerson_21 (by decide) ?_
      obtain rfl := Option.some.inj h
      exact s_zret0 (pc := 22) rfl d_X2_hasPerson_22 rfl
    · have h := it_f c3 h
      refine s_iload_n (pc := 12) d_X2_hasPerson_12 rfl rfl ?_
      refine s_iconst (pc := 13) (v := 5) d_X2_hasPerson_13 (by decide) ?_
      refine s_icmp_ge (pc := 14) (tgt := 21) d_X2_hasPerson_14 (by decide) (fun c4 => ?_) (fun c4 => ?_)
      · have h := it_t c4 h
        refine s_iconst (pc := 21) (v := 0) d_X2_hasPerson_21 (by decide) ?_
        obtain rfl := Option.some.inj h
        exact s_zret0 (pc := 22) rfl d_X2_hasPerson_22 rfl
      · have h := it_f c4 h
        refine s_iconst (pc := 17) (v := 1) d_X2_hasPerson_17 (by decide) ?_
        refine s_goto (pc := 18) (tgt := 22) d_X2_hasPerson_18 (by decide) ?_
        obtain rfl := Option.some.inj h
        exact s_zret0 (pc := 22) rfl d_X2_hasPerson_22 rfl
/-! StripsOfFour$Strip.cell -/
abbrev c_X5_cell : Cf := (prog_7_method_5_code, 3, "StripsOfFour$Strip", "cell", (some .int), { frames := 0, cells := 0, slots := 0, locals := 0 })
theorem d_X5_cell_0 : decode prog_7_method_5_code 0 = .ok (.iload_n 1, 1) := by decide +kernel
theorem d_X5_cell_1 : decode prog_7_method_5_code 1 = .ok (.ifCond .lt 17, 3) := by decide +kernel
theorem d_X5_cell_4 : decode prog_7_method_5_code 4 = .ok (.iload_n 1, 1) := by decide +kernel
theorem d_X5_cell_5 : decode prog_7_method_5_code 5 = .ok (.iconst 4, 1) := by decide +kernel
theorem d_X5_cell_6 : decode prog_7_method_5_code 6 = .ok (.if_icmp .ge 12, 3) := by decide +kernel
theorem d_X5_cell_9 : decode prog_7_method_5_code 9 = .ok (.iload_n 2, 1) := by decide +kernel
theorem d_X5_cell_10 : decode prog_7_method_5_code 10 = .ok (.ifCond .lt 8, 3) := by decide +kernel
theorem d_X5_cell_13 : decode prog_7_method_5_code 13 = .ok (.iload_n 2, 1) := by decide +kernel
theorem d_X5_cell_14 : decode prog_7_method_5_code 14 = .ok (.iconst 4, 1) := by decide +kernel
theorem d_X5_cell_15 : decode prog_7_method_5_code 15 = .ok (.if_icmp .lt 6, 3) := by decide +kernel
theorem d_X5_cell_18 : decode prog_7_method_5_code 18 = .ok (.bipush (-9), 2) := by decide +kernel
theorem d_X5_cell_20 : decode prog_7_method_5_code 20 = .ok (.ireturn, 1) := by decide +kernel
theorem d_X5_cell_21 : decode prog_7_method_5_code 21 = .ok (.aload_n 0, 1) := by decide +kernel
theorem d_X5_cell_22 : decode prog_7_method_5_code 22 = .ok (.getfield 24, 3) := by decide +kernel
theorem d_X5_cell_25 : decode prog_7_method_5_code 25 = .ok (.iload_n 1, 1) := by decide +kernel
theorem d_X5_cell_26 : decode prog_7_method_5_code 26 = .ok (.iconst 4, 1) := by decide +kernel
theorem d_X5_cell_27 : decode prog_7_method_5_code 27 = .ok (.imul, 1) := by decide +kernel
theorem d_X5_cell_28 : decode prog_7_method_5_code 28 = .ok (.iload_n 2, 1) := by decide +kernel
theorem d_X5_cell_29 : decode prog_7_method_5_code 29 = .ok (.iadd, 1) := by decide +kernel
theorem d_X5_cell_30 : decode prog_7_method_5_code 30 = .ok (.iaload, 1) := by decide +kernel
theorem d_X5_cell_31 : decode prog_7_method_5_code 31 = .ok (.ireturn, 1) := by decide +kernel
def m_X5_cell (sh : Sh) (v0 : Nat) (v1 : Int32) (v2 : Int32) (μ : Mu) : Option (Int32 × Mu) :=
  if v1 < 0 then
    some ((-9), μ)
  else
    if 4 ≤ v1 then
      some ((-9), μ)
    else
      if v2 < 0 then
        some ((-9), μ)
      else
        if v2 < 4 then
          gd (iz sh 5 v0) <|
          bd (gR μ v0 4) fun a6 =>
          gd (ix sh 8 a6 ((v1 * 4) + v2)) <|
          bd (gI μ a6 ((v1 * 4) + v2).toNatClampNeg) fun w8 =>
          some (w8, μ)
        else
          some ((-9), μ)
set_option maxHeartbeats 4000000 in
set_option maxRecDepth 20000 in
theorem t_X5_cell {l : Launch} {G : Gl} {n : Nat} {sh : Sh} {x : Int32 × Mu} {v0 : Nat} {v1 : Int32} {v2 : Int32} {μ : Mu} (h : m_X5_cell sh v0 v1 v2 μ = some x) : Ct l G ⟨"StripsOfFour$Strip", "cell", "(II)I"⟩ prog_7_method_5_code 3 (some .int) { frames := 0, cells := 0, slots := 0, locals := 0 } n sh μ [vr v0, vi v1, vi v2] (some (.int x.1)) n sh x.2 := by
  refine Ct.of (lc := [some (vr v0), some (vi v1), some (vi v2)]) (by decide +kernel) (Nat.le_of_ble_eq_true rfl) rfl ?_
  show Sj l G (QI G n sh x) c_X5_cell n sh 0 0 μ 0 [some (vr v0), some (vi v1), some (vi v2)] []
  unfold m_X5_cell at h
  refine s_iload_n (pc := 0) d_X5_cell_0 rfl rfl ?_
  refine s_if_lt (pc := 1) (tgt := 18) d_X5_cell_1 (by decide) (fun c1 => ?_) (fun c1 => ?_)
  · have h := it_t c1 h
    refine s_bipush (pc := 18) (v := (-9)) d_X5_cell_18 (by decide) ?_
    obtain rfl := Option.some.inj h
    exact s_iret (pc := 20) d_X5_cell_20 rfl
  · have h := it_f c1 h
    refine s_iload_n (pc := 4) d_X5_cell_4 rfl rfl ?_
    refine s_iconst (pc := 5) (v := 4) d_X5_cell_5 (by decide) ?_
    refine s_icmp_ge (pc := 6) (tgt := 18) d_X5_cell_6 (by decide) (fun c2 => ?_) (fun c2 => ?_)
    · have h := it_t c2 h
      refine s_bipush (pc := 18) (v := (-9)) d_X5_cell_18 (by decide) ?_
      obtain rfl := Option.some.inj h
      exact s_iret (pc := 20) d_X5_cell_20 rfl
    · have h := it_f c2 h
      refine s_iload_n (pc := 9) d_X5_cell_9 rfl rfl ?_
      refine s_if_lt (pc := 10) (tgt := 18) d_X5_cell_10 (by decide) (fun c3 => ?_) (fun c3 => ?_)
      · have h := it_t c3 h
        refine s_bipush (pc := 18) (v := (-9)) d_X5_cell_18 (by decide) ?_
        obtain rfl := Option.some.inj h
        exact s_iret (pc := 20) d_X5_cell_20 rfl
      · have h := it_f c3 h
        refine s_iload_n (pc := 13) d_X5_cell_13 rfl rfl ?_
        refine s_iconst (pc := 14) (v := 4) d_X5_cell_14 (by decide) ?_
        refine s_icmp_lt (pc := 15) (tgt := 21) d_X5_cell_15 (by decide) (fun c4 => ?_) (fun c4 => ?_)
        · have h := it_t c4 h
          refine s_aload_n (pc := 21) d_X5_cell_21 rfl rfl ?_
          obtain ⟨g5, h⟩ := gd_1 h
          refine s_getR (pc := 22) (k := 4) cl_5 d_X5_cell_22 g5 (by decide) w_74 (rt_arr _) ?_
          obtain ⟨a6, ea6, h⟩ := bd_1 h
          refine s_topR ea6 ?_
          refine s_iload_n (pc := 25) d_X5_cell_25 rfl rfl ?_
          refine s_iconst (pc := 26) (v := 4) d_X5_cell_26 (by decide) ?_
          refine s_imul (pc := 27) d_X5_cell_27 ?_
          refine s_iload_n (pc := 28) d_X5_cell_28 rfl rfl ?_
          refine s_iadd (pc := 29) d_X5_cell_29 ?_
          obtain ⟨g7, h⟩ := gd_1 h
          refine s_iald (pc := 30) d_X5_cell_30 g7 ?_
          obtain ⟨w8, ew8, h⟩ := bd_1 h
          refine s_topI ew8 ?_
          obtain rfl := Option.some.inj h
          exact s_iret (pc := 31) d_X5_cell_31 rfl
        · have h := it_f c4 h
          refine s_bipush (pc := 18) (v := (-9)) d_X5_cell_18 (by decide) ?_
          obtain rfl := Option.some.inj h
          exact s_iret (pc := 20) d_X5_cell_20 rfl
/-! StripsOfFour.has -/
abbrev c_X6_has : Cf := (prog_1_method_33_code, 2, "StripsOfFour", "has", (some .boolean), { frames := 0, cells := 0, slots := 0, locals := 0 })
theorem d_X6_has_0 : decode prog_1_method_33_code 0 = .ok (.iload_n 1, 1) := by decide +kernel
theorem d_X6_has_1 : decode prog_1_method_33_code 1 = .ok (.ifCond .lt 21, 3) := by decide +kernel
theorem d_X6_has_4 : decode prog_1_method_33_code 4 = .ok (.iload_n 1, 1) := by decide +kernel
theorem d_X6_has_5 : decode prog_1_method_33_code 5 = .ok (.iconst 5, 1) := by decide +kernel
theorem d_X6_has_6 : decode prog_1_method_33_code 6 = .ok (.if_icmp .ge 16, 3) := by decide +kernel
theorem d_X6_has_9 : decode prog_1_method_33_code 9 = .ok (.iload_n 0, 1) := by decide +kernel
theorem d_X6_has_10 : decode prog_1_method_33_code 10 = .ok (.iload_n 1, 1) := by decide +kernel
theorem d_X6_has_11 : decode prog_1_method_33_code 11 = .ok (.ishr, 1) := by decide +kernel
theorem d_X6_has_12 : decode prog_1_method_33_code 12 = .ok (.iconst 1, 1) := by decide +kernel
theorem d_X6_has_13 : decode prog_1_method_33_code 13 = .ok (.iand, 1) := by decide +kernel
theorem d_X6_has_14 : decode prog_1_method_33_code 14 = .ok (.iconst 1, 1) := by decide +kernel
theorem d_X6_has_15 : decode prog_1_method_33_code 15 = .ok (.if_icmp .ne 7, 3) := by decide +kernel
theorem d_X6_has_18 : decode prog_1_method_33_code 18 = .ok (.iconst 1, 1) := by decide +kernel
theorem d_X6_has_19 : decode prog_1_method_33_code 19 = .ok (.goto 4, 3) := by decide +kernel
theorem d_X6_has_22 : decode prog_1_method_33_code 22 = .ok (.iconst 0, 1) := by decide +kernel
theorem d_X6_has_23 : decode prog_1_method_33_code 23 = .ok (.ireturn, 1) := by decide +kernel
def m_X6_has (sh : Sh) (v0 : Int32) (v1 : Int32) (μ : Mu) : Option (Int32 × Mu) :=
  if v1 < 0 then
    some (0, μ)
  else
    if 5 ≤ v1 then
      some (0, μ)
    else
      if ((v0 >>> (v1 &&& 31)) &&& 1) = 1 then
        some (1, μ)
      else
        some (0, μ)
set_option maxHeartbeats 4000000 in
set_option maxRecDepth 20000 in
theorem t_X6_has {l : Launch} {G : Gl} {n : Nat} {sh : Sh} {x : Int32 × Mu} {v0 : Int32} {v1 : Int32} {μ : Mu} (h : m_X6_has sh v0 v1 μ = some x) : Ct l G ⟨"StripsOfFour", "has", "(II)Z"⟩ prog_1_method_33_code 2 (some .boolean) { frames := 0, cells := 0, slots := 0, locals := 0 } n sh μ [vi v0, vi v1] (some (.int x.1)) n sh x.2 := by
  refine Ct.of (lc := [some (vi v0), some (vi v1)]) (by decide +kernel) (Nat.le_of_ble_eq_true rfl) rfl ?_
  show Sj l G (QI G n sh x) c_X6_has n sh 0 0 μ 0 [some (vi v0), some (vi v1)] []
  unfold m_X6_has at h
  refine s_iload_n (pc := 0) d_X6_has_0 rfl rfl ?_
  refine s_if_lt (pc := 1) (tgt := 22) d_X6_has_1 (by decide) (fun c1 => ?_) (fun c1 => ?_)
  · have h := it_t c1 h
    refine s_iconst (pc := 22) (v := 0) d_X6_has_22 (by decide) ?_
    obtain rfl := Option.some.inj h
    exact s_zret0 (pc := 23) rfl d_X6_has_23 rfl
  · have h := it_f c1 h
    refine s_iload_n (pc := 4) d_X6_has_4 rfl rfl ?_
    refine s_iconst (pc := 5) (v := 5) d_X6_has_5 (by decide) ?_
    refine s_icmp_ge (pc := 6) (tgt := 22) d_X6_has_6 (by decide) (fun c2 => ?_) (fun c2 => ?_)
    · have h := it_t c2 h
      refine s_iconst (pc := 22) (v := 0) d_X6_has_22 (by decide) ?_
      obtain rfl := Option.some.inj h
      exact s_zret0 (pc := 23) rfl d_X6_has_23 rfl
    · have h := it_f c2 h
      refine s_iload_n (pc := 9) d_X6_has_9 rfl rfl ?_
      refine s_iload_n (pc := 10) d_X6_has_10 rfl rfl ?_
      refine s_ishr (pc := 11) d_X6_has_11 ?_
      refine s_iconst (pc := 12) (v := 1) d_X6_has_12 (by decide) ?_
      refine s_iand (pc := 13) d_X6_has_13 ?_
      refine s_iconst (pc := 14) (v := 1) d_X6_has_14 (by decide) ?_
      refine s_icmp_ne (pc := 15) (tgt := 22) d_X6_has_15 (by decide) (fun c3 => ?_) (fun c3 => ?_)
      · have h := it_f c3 h
        refine s_iconst (pc := 22) (v := 0) d_X6_has_22 (by decide) ?_
        obtain rfl := Option.some.inj h
        exact s_zret0 (pc := 23) rfl d_X6_has_23 rfl
      · have h := it_t c3 h
        refine s_iconst (pc := 18) (v := 1) d_X6_has_18 (by decide) ?_
        refine s_goto (pc := 19) (tgt := 23) d_X6_has_19 (by decide) ?_
        obtain rfl := Option.some.inj h
        exact s_zret0 (pc := 23) rfl d_X6_has_23 rfl
/-! StripsOfFour$Plan.hasBooth -/
abbrev c_X2_hasBooth : Cf := (prog_4_method_6_code, 2, "StripsOfFour$Plan", "hasBooth", (some .boolean), { frames := 0, cells := 0, slots := 0, locals := 0 })
theorem d_X2_hasBooth_0 : decode prog_4_method_6_code 0 = .ok (.iload_n 1, 1) := by decide +kernel
theorem d_X2_hasBooth_1 : decode prog_4_method_6_code 1 = .ok (.ifCond .lt 20, 3) := by decide +kernel
theorem d_X2_hasBooth_4 : decode prog_4_method_6_code 4 = .ok (.iload_n 1, 1) := by decide +kernel
theorem d_X2_hasBooth_5 : decode prog_4_method_6_code 5 = .ok (.aload_n 0, 1) := by decide +kernel
theorem d_X2_hasBooth_6 : decode prog_4_method_6_code 6 = .ok (.getfield 15, 3) := by decide +kernel
theorem d_X2_hasBooth_9 : decode prog_4_method_6_code 9 = .ok (.if_icmp .ge 12, 3) := by decide +kernel
theorem d_X2_hasBooth_12 : decode prog_4_method_6_code 12 = .ok (.iload_n 1, 1) := by decide +kernel
theorem d_X2_hasBooth_13 : decode prog_4_method_6_code 13 = .ok (.iconst 2, 1) := by decide +kernel
theorem d_X2_hasBooth_14 : decode prog_4_method_6_code 14 = .ok (.if_icmp .ge 7, 3) := by decide +kernel
theorem d_X2_hasBooth_17 : decode prog_4_method_6_code 17 = .ok (.iconst 1, 1) := by decide +kernel
theorem d_X2_hasBooth_18 : decode prog_4_method_6_code 18 = .ok (.goto 4, 3) := by decide +kernel
theorem d_X2_hasBooth_21 : decode prog_4_method_6_code 21 = .ok (.iconst 0, 1) := by decide +kernel
theorem d_X2_hasBooth_22 : decode prog_4_method_6_code 22 = .ok (.ireturn, 1) := by decide +kernel
def m_X2_hasBooth (sh : Sh) (v0 : Nat) (v1 : Int32) (μ : Mu) : Option (Int32 × Mu) :=
  if v1 < 0 then
    some (0, μ)
  else
    gd (iz sh 2 v0) <|
    if (gI μ v0 1) ≤ v1 then
      some (0, μ)
    else
      if 2 ≤ v1 then
        some (0, μ)
      else
        some (1, μ)
set_option maxHeartbeats 4000000 in
set_option maxRecDepth 20000 in
theorem t_X2_hasBooth {l : Launch} {G : Gl} {n : Nat} {sh : Sh} {x : Int32 × Mu} {v0 : Nat} {v1 : Int32} {μ : Mu} (h : m_X2_hasBooth sh v0 v1 μ = some x) : Ct l G ⟨"StripsOfFour$Plan", "hasBooth", "(I)Z"⟩ prog_4_method_6_code 2 (some .boolean) { frames := 0, cells := 0, slots := 0, locals := 0 } n sh μ [vr v0, vi v1] (some (.int x.1)) n sh x.2 := by
  refine Ct.of (lc := [some (vr v0), some (vi v1)]) (by decide +kernel) (Nat.le_of_ble_eq_true rfl) rfl ?_
  show Sj l G (QI G n sh x) c_X2_hasBooth n sh 0 0 μ 0 [some (vr v0), some (vi v1)] []
  unfold m_X2_hasBooth at h
  refine s_iload_n (pc := 0) d_X2_hasBooth_0 rfl rfl ?_
  refine s_if_lt (pc := 1) (tgt := 21) d_X2_hasBooth_1 (by decide) (fun c1 => ?_) (fun c1 => ?_)
  · have h := it_t c1 h
    refine s_iconst (pc := 21) (v := 0) d_X2_hasBooth_21 (by decide) ?_
    obtain rfl := Option.some.inj h
    exact s_zret0 (pc := 22) rfl d_X2_hasBooth_22 rfl
  · have h := it_f c1 h
    refine s_iload_n (pc := 4) d_X2_hasBooth_4 rfl rfl ?_
    refine s_aload_n (pc := 5) d_X2_hasBooth_5 rfl rfl ?_
    obtain ⟨g2, h⟩ := gd_1 h
    refine s_getI (pc := 6) (k := 1) cl_2 d_X2_hasBooth_6 g2 (by decide) w_28 rfl ?_
    refine s_icmp_ge (pc := 9) (tgt := 21) d_X2_hasBooth_9 (by decide) (fun c3 => ?_) (fun c3 => ?_)
    · have h := it_t c3 h
      refine s_iconst (pc := 21) (v := 0) d_X2_hasBooth_21 (by decide) ?_
      obtain rfl := Option.some.inj h
      exact s_zret0 (pc := 22) rfl d_X2_hasBooth_22 rfl
    · have h := it_f c3 h
      refine s_iload_n (pc := 12) d_X2_hasBooth_12 rfl rfl ?_
      refine s_iconst (pc := 13) (v := 2) d_X2_hasBooth_13 (by decide) ?_
      refine s_icmp_ge (pc := 14) (tgt := 21) d_X2_hasBooth_14 (by decide) (fun c4 => ?_) (fun c4 => ?_)
      · have h := it_t c4 h
        refine s_iconst (pc := 21) (v := 0) d_X2_hasBooth_21 (by decide) ?_
        obtain rfl := Option.some.inj h
        exact s_zret0 (pc := 22) rfl d_X2_hasBooth_22 rfl
      · have h := it_f c4 h
        refine s_iconst (pc := 17) (v := 1) d_X2_hasBooth_17 (by decide) ?_
        refine s_goto (pc := 18) (tgt := 22) d_X2_hasBooth_18 (by decide) ?_
        obtain rfl := Option.some.inj h
        exact s_zret0 (pc := 22) rfl d_X2_hasBooth_22 rfl
/-! StripsOfFour$Plan.everyOf -/
abbrev c_X2_everyOf : Cf := (prog_4_method_9_code, 2, "StripsOfFour$Plan", "everyOf", (some .int), { frames := 1, cells := 0, slots := 0, locals := 21 })
theorem d_X2_everyOf_0 : decode prog_4_method_9_code 0 = .ok (.aload_n 0, 1) := by decide +kernel
theorem d_X2_everyOf_1 : decode prog_4_method_9_code 1 = .ok (.iload_n 1, 1) := by decide +kernel
theorem d_X2_everyOf_2 : decode prog_4_method_9_code 2 = .ok (.invokevirtual 42, 3) := by decide +kernel
theorem d_X2_everyOf_5 : decode prog_4_method_9_code 5 = .ok (.ifCond .eq 16, 3) := by decide +kernel
theorem d_X2_everyOf_8 : decode prog_4_method_9_code 8 = .ok (.iconst 1, 1) := by decide +kernel
theorem d_X2_everyOf_9 : decode prog_4_method_9_code 9 = .ok (.aload_n 0, 1) := by decide +kernel
theorem d_X2_everyOf_10 : decode prog_4_method_9_code 10 = .ok (.getfield 25, 3) := by decide +kernel
theorem d_X2_everyOf_13 : decode prog_4_method_9_code 13 = .ok (.iload_n 1, 1) := by decide +kernel
theorem d_X2_everyOf_14 : decode prog_4_method_9_code 14 = .ok (.iaload, 1) := by decide +kernel
theorem d_X2_everyOf_15 : decode prog_4_method_9_code 15 = .ok (.invokestatic 49, 3) := by decide +kernel
theorem d_X2_everyOf_18 : decode prog_4_method_9_code 18 = .ok (.goto 4, 3) := by decide +kernel
theorem d_X2_everyOf_21 : decode prog_4_method_9_code 21 = .ok (.iconst 1, 1) := by decide +kernel
theorem d_X2_everyOf_22 : decode prog_4_method_9_code 22 = .ok (.ireturn, 1) := by decide +kernel
def m_X2_everyOf (sh : Sh) (v0 : Nat) (v1 : Int32) (μ : Mu) : Option (Int32 × Mu) :=
  gd (iz sh 2 v0) <|
  ca2 (m_X2_hasBooth sh v0 v1 μ) fun r2 μ3 =>
  if r2 = 0 then
    some (1, μ3)
  else
    bd (gR μ3 v0 4) fun a5 =>
    gd (ix sh 8 a5 v1) <|
    bd (gI μ3 a5 v1.toNatClampNeg) fun w7 =>
    ca2 (m_J9_max_7cf53 sh 1 w7 μ3) fun r8 μ9 =>
    some (r8, μ9)
set_option maxHeartbeats 4000000 in
set_option maxRecDepth 20000 in
theorem t_X2_everyOf {l : Launch} {G : Gl} {n : Nat} {sh : Sh} {x : Int32 × Mu} {v0 : Nat} {v1 : Int32} {μ : Mu} (h : m_X2_everyOf sh v0 v1 μ = some x) : Ct l G ⟨"StripsOfFour$Plan", "everyOf", "(I)I"⟩ prog_4_method_9_code 2 (some .int) { frames := 1, cells := 0, slots := 0, locals := 21 } n sh μ [vr v0, vi v1] (some (.int x.1)) n sh x.2 := by
  refine Ct.of (lc := [some (vr v0), some (vi v1)]) (by decide +kernel) (Nat.le_of_ble_eq_true rfl) rfl ?_
  show Sj l G (QI G n sh x) c_X2_everyOf n sh 0 0 μ 0 [some (vr v0), some (vi v1)] []
  unfold m_X2_everyOf at h
  refine s_aload_n (pc := 0) d_X2_everyOf_0 rfl rfl ?_
  refine s_iload_n (pc := 1) d_X2_everyOf_1 rfl rfl ?_
  obtain ⟨g1, h⟩ := gd_1 h
  obtain ⟨r2, μ3, er2, h⟩ := ca2_1 h
  refine s_callV (pc := 2) (as := [vi v1]) (st := []) (vo := [vi r2]) (t_X2_hasBooth er2) cl_2 g1 d_X2_everyOf_2 y_X2_hasBooth w_255 w_256 w_257 ⟨by decide, by decide⟩ ⟨Nat.le_of_ble_eq_true rfl, Nat.le_of_ble_eq_true rfl⟩ (Nat.le_of_ble_eq_true rfl) rfl rfl rfl ?_
  refine s_as (kc' := 0) (js' := 0) (pc' := 5) (st' := [vi r2]) ⟨rfl, rfl, rfl, rfl⟩ ?_
  refine s_if_eq (pc := 5) (tgt := 21) d_X2_everyOf_5 (by decide) (fun c4 => ?_) (fun c4 => ?_)
  · have h := it_t c4 h
    refine s_iconst (pc := 21) (v := 1) d_X2_everyOf_21 (by decide) ?_
    obtain rfl := Option.some.inj h
    exact s_iret (pc := 22) d_X2_everyOf_22 rfl
  · have h := it_f c4 h
    refine s_iconst (pc := 8) (v := 1) d_X2_everyOf_8 (by decide) ?_
    refine s_aload_n (pc := 9) d_X2_everyOf_9 rfl rfl ?_
    refine s_getR (pc := 10) (k := 4) cl_2 d_X2_everyOf_10 g1 (by decide) w_33 (rt_arr _) ?_
    obtain ⟨a5, ea5, h⟩ := bd_1 h
    refine s_topR ea5 ?_
    refine s_iload_n (pc := 13) d_X2_everyOf_13 rfl rfl ?_
    obtain ⟨g6, h⟩ := gd_1 h
    refine s_iald (pc := 14) d_X2_everyOf_14 g6 ?_
    obtain ⟨w7, ew7, h⟩ := bd_1 h
    refine s_topI ew7 ?_
    obtain ⟨r8, μ9, er8, h⟩ := ca2_1 h
    refine s_callS (pc := 15) (as := [vi 1, vi w7]) (st := []) (vo := [vi r8]) (t_J9_max_7cf53 er8) d_X2_everyOf_15 y_J9_max_7cf53 w_293 w_294 ⟨by decide, by decide⟩ ⟨Nat.le_of_ble_eq_true rfl, Nat.le_of_ble_eq_true rfl⟩ (Nat.le_of_ble_eq_true rfl) rfl rfl rfl ?_
    refine s_as (kc' := 0) (js' := 0) (pc' := 18) (st' := [vi r8]) ⟨rfl, rfl, rfl, rfl⟩ ?_
    refine s_goto (pc := 18) (tgt := 22) d_X2_everyOf_18 (by decide) ?_
    obtain rfl := Option.some.inj h
    exact s_iret (pc := 22) d_X2_everyOf_22 rfl
/-! StripsOfFour$Plan.firstOf -/
abbrev c_X2_firstOf : Cf := (prog_4_method_8_code, 2, "StripsOfFour$Plan", "firstOf", (some .int), { frames := 1, cells := 0, slots := 0, locals := 21 })
theorem d_X2_firstOf_0 : decode prog_4_method_8_code 0 = .ok (.aload_n 0, 1) := by decide +kernel
theorem d_X2_firstOf_1 : decode prog_4_method_8_code 1 = .ok (.iload_n 1, 1) := by decide +kernel
theorem d_X2_firstOf_2 : decode prog_4_method_8_code 2 = .ok (.invokevirtual 42, 3) := by decide +kernel
theorem d_X2_firstOf_5 : decode prog_4_method_8_code 5 = .ok (.ifCond .eq 12, 3) := by decide +kernel
theorem d_X2_firstOf_8 : decode prog_4_method_8_code 8 = .ok (.aload_n 0, 1) := by decide +kernel
theorem d_X2_firstOf_9 : decode prog_4_method_8_code 9 = .ok (.getfield 21, 3) := by decide +kernel
theorem d_X2_firstOf_12 : decode prog_4_method_8_code 12 = .ok (.iload_n 1, 1) := by decide +kernel
theorem d_X2_firstOf_13 : decode prog_4_method_8_code 13 = .ok (.iaload, 1) := by decide +kernel
theorem d_X2_firstOf_14 : decode prog_4_method_8_code 14 = .ok (.goto 4, 3) := by decide +kernel
theorem d_X2_firstOf_17 : decode prog_4_method_8_code 17 = .ok (.iconst 0, 1) := by decide +kernel
theorem d_X2_firstOf_18 : decode prog_4_method_8_code 18 = .ok (.ireturn, 1) := by decide +kernel
def m_X2_firstOf (sh : Sh) (v0 : Nat) (v1 : Int32) (μ : Mu) : Option (Int32 × Mu) :=
  gd (iz sh 2 v0) <|
  ca2 (m_X2_hasBooth sh v0 v1 μ) fun r2 μ3 =>
  if r2 = 0 then
    some (0, μ3)
  else
    bd (gR μ3 v0 3) fun a5 =>
    gd (ix sh 8 a5 v1) <|
    bd (gI μ3 a5 v1.toNatClampNeg) fun w7 =>
    some (w7, μ3)
set_option maxHeartbeats 4000000 in
set_option maxRecDepth 20000 in
theorem t_X2_firstOf {l : Launch} {G : Gl} {n : Nat} {sh : Sh} {x : Int32 × Mu} {v0 : Nat} {v1 : Int32} {μ : Mu} (h : m_X2_firstOf sh v0 v1 μ = some x) : Ct l G ⟨"StripsOfFour$Plan", "firstOf", "(I)I"⟩ prog_4_method_8_code 2 (some .int) { frames := 1, cells := 0, slots := 0, locals := 21 } n sh μ [vr v0, vi v1] (some (.int x.1)) n sh x.2 := by
  refine Ct.of (lc := [some (vr v0), some (vi v1)]) (by decide +kernel) (Nat.le_of_ble_eq_true rfl) rfl ?_
  show Sj l G (QI G n sh x) c_X2_firstOf n sh 0 0 μ 0 [some (vr v0), some (vi v1)] []
  unfold m_X2_firstOf at h
  refine s_aload_n (pc := 0) d_X2_firstOf_0 rfl rfl ?_
  refine s_iload_n (pc := 1) d_X2_firstOf_1 rfl rfl ?_
  obtain ⟨g1, h⟩ := gd_1 h
  obtain ⟨r2, μ3, er2, h⟩ := ca2_1 h
  refine s_callV (pc := 2) (as := [vi v1]) (st := []) (vo := [vi r2]) (t_X2_hasBooth er2) cl_2 g1 d_X2_firstOf_2 y_X2_hasBooth w_255 w_256 w_257 ⟨by decide, by decide⟩ ⟨Nat.le_of_ble_eq_true rfl, Nat.le_of_ble_eq_true rfl⟩ (Nat.le_of_ble_eq_true rfl) rfl rfl rfl ?_
  refine s_as (kc' := 0) (js' := 0) (pc' := 5) (st' := [vi r2]) ⟨rfl, rfl, rfl, rfl⟩ ?_
  refine s_if_eq (pc := 5) (tgt := 17) d_X2_firstOf_5 (by decide) (fun c4 => ?_) (fun c4 => ?_)
  · have h := it_t c4 h
    refine s_iconst (pc := 17) (v := 0) d_X2_firstOf_17 (by decide) ?_
    obtain rfl := Option.some.inj h
    exact s_iret (pc := 18) d_X2_firstOf_18 rfl
  · have h := it_f c4 h
    refine s_aload_n (pc := 8) d_X2_firstOf_8 rfl rfl ?_
    refine s_getR (pc := 9) (k := 3) cl_2 d_X2_firstOf_9 g1 (by decide) w_32 (rt_arr _) ?_
    obtain ⟨a5, ea5, h⟩ := bd_1 h
    refine s_topR ea5 ?_
    refine s_iload_n (pc := 12) d_X2_firstOf_12 rfl rfl ?_
    obtain ⟨g6, h⟩ := gd_1 h
    refine s_iald (pc := 13) d_X2_firstOf_13 g6 ?_
    obtain ⟨w7, ew7, h⟩ := bd_1 h
    refine s_topI ew7 ?_
    refine s_goto (pc := 14) (tgt := 18) d_X2_firstOf_14 (by decide) ?_
    obtain rfl := Option.some.inj h
    exact s_iret (pc := 18) d_X2_firstOf_18 rfl
/-! StripsOfFour$Plan.nextFlash -/
abbrev c_X2_nextFlash : Cf := (prog_4_method_12_code, 4, "StripsOfFour$Plan", "nextFlash", (some .int), { frames := 2, cells := 0, slots := 0, locals := 42 })
theorem d_X2_nextFlash_0 : decode prog_4_method_12_code 0 = .ok (.aload_n 0, 1) := by decide +kernel
theorem d_X2_nextFlash_1 : decode prog_4_method_12_code 1 = .ok (.iload_n 1, 1) := by decide +kernel
theorem d_X2_nextFlash_2 : decode prog_4_method_12_code 2 = .ok (.invokevirtual 57, 3) := by decide +kernel
theorem d_X2_nextFlash_5 : decode prog_4_method_12_code 5 = .ok (.istore_n 3, 1) := by decide +kernel
theorem d_X2_nextFlash_6 : decode prog_4_method_12_code 6 = .ok (.iload_n 2, 1) := by decide +kernel
theorem d_X2_nextFlash_7 : decode prog_4_method_12_code 7 = .ok (.iload_n 3, 1) := by decide +kernel
theorem d_X2_nextFlash_8 : decode prog_4_method_12_code 8 = .ok (.if_icmp .gt 5, 3) := by decide +kernel
theorem d_X2_nextFlash_11 : decode prog_4_method_12_code 11 = .ok (.iload_n 3, 1) := by decide +kernel
theorem d_X2_nextFlash_12 : decode prog_4_method_12_code 12 = .ok (.ireturn, 1) := by decide +kernel
theorem d_X2_nextFlash_13 : decode prog_4_method_12_code 13 = .ok (.iload_n 2, 1) := by decide +kernel
theorem d_X2_nextFlash_14 : decode prog_4_method_12_code 14 = .ok (.iload_n 3, 1) := by decide +kernel
theorem d_X2_nextFlash_15 : decode prog_4_method_12_code 15 = .ok (.iload_n 2, 1) := by decide +kernel
theorem d_X2_nextFlash_16 : decode prog_4_method_12_code 16 = .ok (.isub, 1) := by decide +kernel
theorem d_X2_nextFlash_17 : decode prog_4_method_12_code 17 = .ok (.aload_n 0, 1) := by decide +kernel
theorem d_X2_nextFlash_18 : decode prog_4_method_12_code 18 = .ok (.iload_n 1, 1) := by decide +kernel
theorem d_X2_nextFlash_19 : decode prog_4_method_12_code 19 = .ok (.invokevirtual 60, 3) := by decide +kernel
theorem d_X2_nextFlash_22 : decode prog_4_method_12_code 22 = .ok (.invokestatic 63, 3) := by decide +kernel
theorem d_X2_nextFlash_25 : decode prog_4_method_12_code 25 = .ok (.iadd, 1) := by decide +kernel
theorem d_X2_nextFlash_26 : decode prog_4_method_12_code 26 = .ok (.ireturn, 1) := by decide +kernel
def m_X2_nextFlash (sh : Sh) (v0 : Nat) (v1 : Int32) (v2 : Int32) (μ : Mu) : Option (Int32 × Mu) :=
  gd (iz sh 2 v0) <|
  ca2 (m_X2_firstOf sh v0 v1 μ) fun r2 μ3 =>
  if r2 < v2 then
    ca2 (m_X2_everyOf sh v0 v1 μ3) fun r5 μ6 =>
    ca2 (m_J9_floorMod_7cf53 sh (r2 - v2) r5 μ6) fun r7 μ8 =>
    some (v2 + r7, μ8)
  else
    some (r2, μ3)
set_option maxHeartbeats 4000000 in
set_option maxRecDepth 20000 in
theorem t_X2_nextFlash {l : Launch} {G : Gl} {n : Nat} {sh : Sh} {x : Int32 × Mu} {v0 : Nat} {v1 : Int32} {v2 : Int32} {μ : Mu} (h : m_X2_nextFlash sh v0 v1 v2 μ = some x) : Ct l G ⟨"StripsOfFour$Plan", "nextFlash", "(II)I"⟩ prog_4_method_12_code 4 (some .int) { frames := 2, cells := 0, slots := 0, locals := 42 } n sh μ [vr v0, vi v1, vi v2] (some (.int x.1)) n sh x.2 := by
  refine Ct.of (lc := [some (vr v0), some (vi v1), some (vi v2), none]) (by decide +kernel) (Nat.le_of_ble_eq_true rfl) rfl ?_
  show Sj l G (QI G n sh x) c_X2_nextFlash n sh 0 0 μ 0 [some (vr v0), some (vi v1), some (vi v2), none] []
  unfold m_X2_nextFlash at h
  refine s_aload_n (pc := 0) d_X2_nextFlash_0 rfl rfl ?_
  refine s_iload_n (pc := 1) d_X2_nextFlash_1 rfl rfl ?_
  obtain ⟨g1, h⟩ := gd_1 h
  obtain ⟨r2, μ3, er2, h⟩ := ca2_1 h
  refine s_callV (pc := 2) (as := [vi v1]) (st := []) (vo := [vi r2]) (t_X2_firstOf er2) cl_2 g1 d_X2_nextFlash_2 y_X2_firstOf w_308 w_286 w_287 ⟨by decide, by decide⟩ ⟨Nat.le_of_ble_eq_true rfl, Nat.le_of_ble_eq_true rfl⟩ (Nat.le_of_ble_eq_true rfl) rfl rfl rfl ?_
  refine s_as (kc' := 0) (js' := 0) (pc' := 5) (st' := [vi r2]) ⟨rfl, rfl, rfl, rfl⟩ ?_
  refine s_istore_n (pc := 5) (lc' := [some (vr v0), some (vi v1), some (vi v2), some (vi r2)]) d_X2_nextFlash_5 rfl (by decide) rfl ?_
  refine s_iload_n (pc := 6) d_X2_nextFlash_6 rfl rfl ?_
  refine s_iload_n (pc := 7) d_X2_nextFlash_7 rfl rfl ?_
  refine s_icmp_gt (pc := 8) (tgt := 13) d_X2_nextFlash_8 (by decide) (fun c4 => ?_) (fun c4 => ?_)
  · have h := it_t c4 h
    refine s_iload_n (pc := 13) d_X2_nextFlash_13 rfl rfl ?_
    refine s_iload_n (pc := 14) d_X2_nextFlash_14 rfl rfl ?_
    refine s_iload_n (pc := 15) d_X2_nextFlash_15 rfl rfl ?_
    refine s_isub (pc := 16) d_X2_nextFlash_16 ?_
    refine s_aload_n (pc := 17) d_X2_nextFlash_17 rfl rfl ?_
    refine s_iload_n (pc := 18) d_X2_nextFlash_18 rfl rfl ?_
    obtain ⟨r5, μ6, er5, h⟩ := ca2_1 h
    refine s_callV (pc := 19) (as := [vi v1]) (st := [vi (r2 - v2), vi v2]) (vo := [vi r5]) (t_X2_everyOf er5) cl_2 g1 d_X2_nextFlash_19 y_X2_everyOf w_309 w_290 w_291 ⟨by decide, by decide⟩ ⟨Nat.le_of_ble_eq_true rfl, Nat.le_of_ble_eq_true rfl⟩ (Nat.le_of_ble_eq_true rfl) rfl rfl rfl ?_
    refine s_as (kc' := 0) (js' := 0) (pc' := 22) (st' := [vi r5, vi (r2 - v2), vi v2]) ⟨rfl, rfl, rfl, rfl⟩ ?_
    obtain ⟨r7, μ8, er7, h⟩ := ca2_1 h
    refine s_callS (pc := 22) (as := [vi (r2 - v2), vi r5]) (st := [vi v2]) (vo := [vi r7]) (t_J9_floorMod_7cf53 er7) d_X2_nextFlash_22 y_J9_floorMod_7cf53 w_310 w_311 ⟨by decide, by decide⟩ ⟨Nat.le_of_ble_eq_true rfl, Nat.le_of_ble_eq_true rfl⟩ (Nat.le_of_ble_eq_true rfl) rfl rfl rfl ?_
    refine s_as (kc' := 0) (js' := 0) (pc' := 25) (st' := [vi r7, vi v2]) ⟨rfl, rfl, rfl, rfl⟩ ?_
    refine s_iadd (pc := 25) d_X2_nextFlash_25 ?_
    obtain rfl := Option.some.inj h
    exact s_iret (pc := 26) d_X2_nextFlash_26 rfl
  · have h := it_f c4 h
    refine s_iload_n (pc := 11) d_X2_nextFlash_11 rfl rfl ?_
    obtain rfl := Option.some.inj h
    exact s_iret (pc := 12) d_X2_nextFlash_12 rfl
/-! StripsOfFour$Plan.beginPart -/
abbrev c_X2_beginPart : Cf := (prog_4_method_4_code, 2, "StripsOfFour$Plan", "beginPart", (some .int), { frames := 0, cells := 0, slots := 0, locals := 0 })
theorem d_X2_beginPart_0 : decode prog_4_method_4_code 0 = .ok (.iload_n 1, 1) := by decide +kernel
theorem d_X2_beginPart_1 : decode prog_4_method_4_code 1 = .ok (.bipush 83, 2) := by decide +kernel
theorem d_X2_beginPart_3 : decode prog_4_method_4_code 3 = .ok (.if_icmp .ne 23, 3) := by decide +kernel
theorem d_X2_beginPart_6 : decode prog_4_method_4_code 6 = .ok (.aload_n 0, 1) := by decide +kernel
theorem d_X2_beginPart_7 : decode prog_4_method_4_code 7 = .ok (.getfield 15, 3) := by decide +kernel
theorem d_X2_beginPart_10 : decode prog_4_method_4_code 10 = .ok (.iconst 2, 1) := by decide +kernel
theorem d_X2_beginPart_11 : decode prog_4_method_4_code 11 = .ok (.if_icmp .ge 15, 3) := by decide +kernel
theorem d_X2_beginPart_14 : decode prog_4_method_4_code 14 = .ok (.aload_n 0, 1) := by decide +kernel
theorem d_X2_beginPart_15 : decode prog_4_method_4_code 15 = .ok (.dup, 1) := by decide +kernel
theorem d_X2_beginPart_16 : decode prog_4_method_4_code 16 = .ok (.getfield 15, 3) := by decide +kernel
theorem d_X2_beginPart_19 : decode prog_4_method_4_code 19 = .ok (.iconst 1, 1) := by decide +kernel
theorem d_X2_beginPart_20 : decode prog_4_method_4_code 20 = .ok (.iadd, 1) := by decide +kernel
theorem d_X2_beginPart_21 : decode prog_4_method_4_code 21 = .ok (.putfield 15, 3) := by decide +kernel
theorem d_X2_beginPart_24 : decode prog_4_method_4_code 24 = .ok (.iconst 4, 1) := by decide +kernel
theorem d_X2_beginPart_25 : decode prog_4_method_4_code 25 = .ok (.ireturn, 1) := by decide +kernel
theorem d_X2_beginPart_26 : decode prog_4_method_4_code 26 = .ok (.iload_n 1, 1) := by decide +kernel
theorem d_X2_beginPart_27 : decode prog_4_method_4_code 27 = .ok (.bipush 80, 2) := by decide +kernel
theorem d_X2_beginPart_29 : decode prog_4_method_4_code 29 = .ok (.if_icmp .ne 24, 3) := by decide +kernel
theorem d_X2_beginPart_32 : decode prog_4_method_4_code 32 = .ok (.aload_n 0, 1) := by decide +kernel
theorem d_X2_beginPart_33 : decode prog_4_method_4_code 33 = .ok (.getfield 18, 3) := by decide +kernel
theorem d_X2_beginPart_36 : decode prog_4_method_4_code 36 = .ok (.iconst 5, 1) := by decide +kernel
theorem d_X2_beginPart_37 : decode prog_4_method_4_code 37 = .ok (.if_icmp .ge 16, 3) := by decide +kernel
theorem d_X2_beginPart_40 : decode prog_4_method_4_code 40 = .ok (.aload_n 0, 1) := by decide +kernel
theorem d_X2_beginPart_41 : decode prog_4_method_4_code 41 = .ok (.dup, 1) := by decide +kernel
theorem d_X2_beginPart_42 : decode prog_4_method_4_code 42 = .ok (.getfield 18, 3) := by decide +kernel
theorem d_X2_beginPart_45 : decode prog_4_method_4_code 45 = .ok (.iconst 1, 1) := by decide +kernel
theorem d_X2_beginPart_46 : decode prog_4_method_4_code 46 = .ok (.iadd, 1) := by decide +kernel
theorem d_X2_beginPart_47 : decode prog_4_method_4_code 47 = .ok (.putfield 18, 3) := by decide +kernel
theorem d_X2_beginPart_50 : decode prog_4_method_4_code 50 = .ok (.bipush 6, 2) := by decide +kernel
theorem d_X2_beginPart_52 : decode prog_4_method_4_code 52 = .ok (.ireturn, 1) := by decide +kernel
theorem d_X2_beginPart_53 : decode prog_4_method_4_code 53 = .ok (.iconst 0, 1) := by decide +kernel
theorem d_X2_beginPart_54 : decode prog_4_method_4_code 54 = .ok (.ireturn, 1) := by decide +kernel
def m_X2_beginPart_b26 (sh : Sh) (v0 : Nat) (v1 : Int32) (μ : Mu) : Option (Int32 × Mu) :=
  if v1 = 80 then
    gd (iz sh 2 v0) <|
    if 5 ≤ (gI μ v0 2) then
      some (0, μ)
    else
      bd (sI μ v0 2 ((gI μ v0 2) + 1)) fun μ8 =>
      some (6, μ8)
  else
    some (0, μ)
def m_X2_beginPart (sh : Sh) (v0 : Nat) (v1 : Int32) (μ : Mu) : Option (Int32 × Mu) :=
  if v1 = 83 then
    gd (iz sh 2 v0) <|
    if 2 ≤ (gI μ v0 1) then
      m_X2_beginPart_b26 sh v0 v1 μ
    else
      bd (sI μ v0 1 ((gI μ v0 1) + 1)) fun μ4 =>
      some (4, μ4)
  else
    m_X2_beginPart_b26 sh v0 v1 μ
set_option maxHeartbeats 4000000 in
set_option maxRecDepth 20000 in
theorem t_X2_beginPart_b26 {l : Launch} {G : Gl} {n : Nat} {sh : Sh} {x : Int32 × Mu} {v0 : Nat} {v1 : Int32} {μ : Mu} (h : m_X2_beginPart_b26 sh v0 v1 μ = some x) : Sj l G (QI G n sh x) c_X2_beginPart n sh 0 0 μ 26 [some (vr v0), some (vi v1)] [] := by
  unfold m_X2_beginPart_b26 at h
  refine s_iload_n (pc := 26) d_X2_beginPart_26 rfl rfl ?_
  refine s_bipush (pc := 27) (v := 80) d_X2_beginPart_27 (by decide) ?_
  refine s_icmp_ne (pc := 29) (tgt := 53) d_X2_beginPart_29 (by decide) (fun c5 => ?_) (fun c5 => ?_)
  · have h := it_f c5 h
    refine s_iconst (pc := 53) (v := 0) d_X2_beginPart_53 (by decide) ?_
    obtain rfl := Option.some.inj h
    exact s_iret (pc := 54) d_X2_beginPart_54 rfl
  · have h := it_t c5 h
    refine s_aload_n (pc := 32) d_X2_beginPart_32 rfl rfl ?_
    obtain ⟨g6, h⟩ := gd_1 h
    refine s_getI (pc := 33) (k := 2) cl_2 d_X2_beginPart_33 g6 (by decide) w_30 rfl ?_
    refine s_iconst (pc := 36) (v := 5) d_X2_beginPart_36 (by decide) ?_
    refine s_icmp_ge (pc := 37) (tgt := 53) d_X2_beginPart_37 (by decide) (fun c7 => ?_) (fun c7 => ?_)
    · have h := it_t c7 h
      refine s_iconst (pc := 53) (v := 0) d_X2_beginPart_53 (by decide) ?_
      obtain rfl := Option.some.inj h
      exact s_iret (pc := 54) d_X2_beginPart_54 rfl
    · have h := it_f c7 h
      refine s_aload_n (pc := 40) d_X2_beginPart_40 rfl rfl ?_
      refine s_dup (pc := 41) d_X2_beginPart_41 rfl ?_
      refine s_getI (pc := 42) (k := 2) cl_2 d_X2_beginPart_42 g6 (by decide) w_30 rfl ?_
      refine s_iconst (pc := 45) (v := 1) d_X2_beginPart_45 (by decide) ?_
      refine s_iadd (pc := 46) d_X2_beginPart_46 ?_
      refine s_putI (pc := 47) (k := 2) cl_2 d_X2_beginPart_47 g6 (by decide) w_30 rfl rfl ?_
      obtain ⟨μ8, eμ8, h⟩ := bd_1 h
      refine s_mu eμ8 ?_
      refine s_bipush (pc := 50) (v := 6) d_X2_beginPart_50 (by decide) ?_
      obtain rfl := Option.some.inj h
      exact s_iret (pc := 52) d_X2_beginPart_52 rfl
set_option maxHeartbeats 4000000 in
set_option maxRecDepth 20000 in
theorem t_X2_beginPart {l : Launch} {G : Gl} {n : Nat} {sh : Sh} {x : Int32 × Mu} {v0 : Nat} {v1 : Int32} {μ : Mu} (h : m_X2_beginPart sh v0 v1 μ = some x) : Ct l G ⟨"StripsOfFour$Plan", "beginPart", "(I)I"⟩ prog_4_method_4_code 2 (some .int) { frames := 0, cells := 0, slots := 0, locals := 0 } n sh μ [vr v0, vi v1] (some (.int x.1)) n sh x.2 := by
  refine Ct.of (lc := [some (vr v0), some (vi v1)]) (by decide +kernel) (Nat.le_of_ble_eq_true rfl) rfl ?_
  show Sj l G (QI G n sh x) c_X2_beginPart n sh 0 0 μ 0 [some (vr v0), some (vi v1)] []
  unfold m_X2_beginPart at h
  refine s_iload_n (pc := 0) d_X2_beginPart_0 rfl rfl ?_
  refine s_bipush (pc := 1) (v := 83) d_X2_beginPart_1 (by decide) ?_
  refine s_icmp_ne (pc := 3) (tgt := 26) d_X2_beginPart_3 (by decide) (fun c1 => ?_) (fun c1 => ?_)
  · have h := it_f c1 h
    exact t_X2_beginPart_b26 h
  · have h := it_t c1 h
    refine s_aload_n (pc := 6) d_X2_beginPart_6 rfl rfl ?_
    obtain ⟨g2, h⟩ := gd_1 h
    refine s_getI (pc := 7) (k := 1) cl_2 d_X2_beginPart_7 g2 (by decide) w_28 rfl ?_
    refine s_iconst (pc := 10) (v := 2) d_X2_beginPart_10 (by decide) ?_
    refine s_icmp_ge (pc := 11) (tgt := 26) d_X2_beginPart_11 (by decide) (fun c3 => ?_) (fun c3 => ?_)
    · have h := it_t c3 h
      exact t_X2_beginPart_b26 h
    · have h := it_f c3 h
      refine s_aload_n (pc := 14) d_X2_beginPart_14 rfl rfl ?_
      refine s_dup (pc := 15) d_X2_beginPart_15 rfl ?_
      refine s_getI (pc := 16) (k := 1) cl_2 d_X2_beginPart_16 g2 (by decide) w_28 rfl ?_
      refine s_iconst (pc := 19) (v := 1) d_X2_beginPart_19 (by decide) ?_
      refine s_iadd (pc := 20) d_X2_beginPart_20 ?_
      refine s_putI (pc := 21) (k := 1) cl_2 d_X2_beginPart_21 g2 (by decide) w_28 rfl rfl ?_
      obtain ⟨μ4, eμ4, h⟩ := bd_1 h
      refine s_mu eμ4 ?_
      refine s_iconst (pc := 24) (v := 4) d_X2_beginPart_24 (by decide) ?_
      obtain rfl := Option.some.inj h
      exact s_iret (pc := 25) d_X2_beginPart_25 rfl
/-! StripsOfFour$Plan.takeFigure -/
abbrev c_X2_takeFigure : Cf := (prog_4_method_5_code, 3, "StripsOfFour$Plan", "takeFigure", (some .int), { frames := 1, cells := 0, slots := 0, locals := 21 })
theorem d_X2_takeFigure_0 : decode prog_4_method_5_code 0 = .ok (.iload_n 1, 1) := by decide +kernel
theorem d_X2_takeFigure_1 : decode prog_4_method_5_code 1 = .ok (.iconst 2, 1) := by decide +kernel
theorem d_X2_takeFigure_2 : decode prog_4_method_5_code 2 = .ok (.if_icmp .ne 10, 3) := by decide +kernel
theorem d_X2_takeFigure_5 : decode prog_4_method_5_code 5 = .ok (.aload_n 0, 1) := by decide +kernel
theorem d_X2_takeFigure_6 : decode prog_4_method_5_code 6 = .ok (.iload_n 2, 1) := by decide +kernel
theorem d_X2_takeFigure_7 : decode prog_4_method_5_code 7 = .ok (.putfield 9, 3) := by decide +kernel
theorem d_X2_takeFigure_10 : decode prog_4_method_5_code 10 = .ok (.iconst 3, 1) := by decide +kernel
theorem d_X2_takeFigure_11 : decode prog_4_method_5_code 11 = .ok (.ireturn, 1) := by decide +kernel
theorem d_X2_takeFigure_12 : decode prog_4_method_5_code 12 = .ok (.iload_n 1, 1) := by decide +kernel
theorem d_X2_takeFigure_13 : decode prog_4_method_5_code 13 = .ok (.iconst 4, 1) := by decide +kernel
theorem d_X2_takeFigure_14 : decode prog_4_method_5_code 14 = .ok (.if_icmp .ne 30, 3) := by decide +kernel
theorem d_X2_takeFigure_17 : decode prog_4_method_5_code 17 = .ok (.aload_n 0, 1) := by decide +kernel
theorem d_X2_takeFigure_18 : decode prog_4_method_5_code 18 = .ok (.aload_n 0, 1) := by decide +kernel
theorem d_X2_takeFigure_19 : decode prog_4_method_5_code 19 = .ok (.getfield 15, 3) := by decide +kernel
theorem d_X2_takeFigure_22 : decode prog_4_method_5_code 22 = .ok (.iconst 1, 1) := by decide +kernel
theorem d_X2_takeFigure_23 : decode prog_4_method_5_code 23 = .ok (.isub, 1) := by decide +kernel
theorem d_X2_takeFigure_24 : decode prog_4_method_5_code 24 = .ok (.invokevirtual 42, 3) := by decide +kernel
theorem d_X2_takeFigure_27 : decode prog_4_method_5_code 27 = .ok (.ifCond .eq 17, 3) := by decide +kernel
theorem d_X2_takeFigure_30 : decode prog_4_method_5_code 30 = .ok (.aload_n 0, 1) := by decide +kernel
theorem d_X2_takeFigure_31 : decode prog_4_method_5_code 31 = .ok (.getfield 21, 3) := by decide +kernel
theorem d_X2_takeFigure_34 : decode prog_4_method_5_code 34 = .ok (.aload_n 0, 1) := by decide +kernel
theorem d_X2_takeFigure_35 : decode prog_4_method_5_code 35 = .ok (.getfield 15, 3) := by decide +kernel
theorem d_X2_takeFigure_38 : decode prog_4_method_5_code 38 = .ok (.iconst 1, 1) := by decide +kernel
theorem d_X2_takeFigure_39 : decode prog_4_method_5_code 39 = .ok (.isub, 1) := by decide +kernel
theorem d_X2_takeFigure_40 : decode prog_4_method_5_code 40 = .ok (.iload_n 2, 1) := by decide +kernel
theorem d_X2_takeFigure_41 : decode prog_4_method_5_code 41 = .ok (.iastore, 1) := by decide +kernel
theorem d_X2_takeFigure_42 : decode prog_4_method_5_code 42 = .ok (.iconst 5, 1) := by decide +kernel
theorem d_X2_takeFigure_43 : decode prog_4_method_5_code 43 = .ok (.ireturn, 1) := by decide +kernel
theorem d_X2_takeFigure_44 : decode prog_4_method_5_code 44 = .ok (.iload_n 1, 1) := by decide +kernel
theorem d_X2_takeFigure_45 : decode prog_4_method_5_code 45 = .ok (.iconst 5, 1) := by decide +kernel
theorem d_X2_takeFigure_46 : decode prog_4_method_5_code 46 = .ok (.if_icmp .ne 34, 3) := by decide +kernel
theorem d_X2_takeFigure_49 : decode prog_4_method_5_code 49 = .ok (.aload_n 0, 1) := by decide +kernel
theorem d_X2_takeFigure_50 : decode prog_4_method_5_code 50 = .ok (.aload_n 0, 1) := by decide +kernel
theorem d_X2_takeFigure_51 : decode prog_4_method_5_code 51 = .ok (.getfield 15, 3) := by decide +kernel
theorem d_X2_takeFigure_54 : decode prog_4_method_5_code 54 = .ok (.iconst 1, 1) := by decide +kernel
theorem d_X2_takeFigure_55 : decode prog_4_method_5_code 55 = .ok (.isub, 1) := by decide +kernel
theorem d_X2_takeFigure_56 : decode prog_4_method_5_code 56 = .ok (.invokevirtual 42, 3) := by decide +kernel
theorem d_X2_takeFigure_59 : decode prog_4_method_5_code 59 = .ok (.ifCond .eq 21, 3) := by decide +kernel
theorem d_X2_takeFigure_62 : decode prog_4_method_5_code 62 = .ok (.iload_n 2, 1) := by decide +kernel
theorem d_X2_takeFigure_63 : decode prog_4_method_5_code 63 = .ok (.ifCond .le 17, 3) := by decide +kernel
theorem d_X2_takeFigure_66 : decode prog_4_method_5_code 66 = .ok (.aload_n 0, 1) := by decide +kernel
theorem d_X2_takeFigure_67 : decode prog_4_method_5_code 67 = .ok (.getfield 25, 3) := by decide +kernel
theorem d_X2_takeFigure_70 : decode prog_4_method_5_code 70 = .ok (.aload_n 0, 1) := by decide +kernel
theorem d_X2_takeFigure_71 : decode prog_4_method_5_code 71 = .ok (.getfield 15, 3) := by decide +kernel
theorem d_X2_takeFigure_74 : decode prog_4_method_5_code 74 = .ok (.iconst 1, 1) := by decide +kernel
theorem d_X2_takeFigure_75 : decode prog_4_method_5_code 75 = .ok (.isub, 1) := by decide +kernel
theorem d_X2_takeFigure_76 : decode prog_4_method_5_code 76 = .ok (.iload_n 2, 1) := by decide +kernel
theorem d_X2_takeFigure_77 : decode prog_4_method_5_code 77 = .ok (.iastore, 1) := by decide +kernel
theorem d_X2_takeFigure_78 : decode prog_4_method_5_code 78 = .ok (.iconst 3, 1) := by decide +kernel
theorem d_X2_takeFigure_79 : decode prog_4_method_5_code 79 = .ok (.ireturn, 1) := by decide +kernel
theorem d_X2_takeFigure_80 : decode prog_4_method_5_code 80 = .ok (.iload_n 1, 1) := by decide +kernel
theorem d_X2_takeFigure_81 : decode prog_4_method_5_code 81 = .ok (.bipush 6, 2) := by decide +kernel
theorem d_X2_takeFigure_83 : decode prog_4_method_5_code 83 = .ok (.if_icmp .ne 30, 3) := by decide +kernel
theorem d_X2_takeFigure_86 : decode prog_4_method_5_code 86 = .ok (.aload_n 0, 1) := by decide +kernel
theorem d_X2_takeFigure_87 : decode prog_4_method_5_code 87 = .ok (.aload_n 0, 1) := by decide +kernel
theorem d_X2_takeFigure_88 : decode prog_4_method_5_code 88 = .ok (.getfield 18, 3) := by decide +kernel
theorem d_X2_takeFigure_91 : decode prog_4_method_5_code 91 = .ok (.iconst 1, 1) := by decide +kernel
theorem d_X2_takeFigure_92 : decode prog_4_method_5_code 92 = .ok (.isub, 1) := by decide +kernel
theorem d_X2_takeFigure_93 : decode prog_4_method_5_code 93 = .ok (.invokevirtual 46, 3) := by decide +kernel
theorem d_X2_takeFigure_96 : decode prog_4_method_5_code 96 = .ok (.ifCond .eq 17, 3) := by decide +kernel
theorem d_X2_takeFigure_99 : decode prog_4_method_5_code 99 = .ok (.aload_n 0, 1) := by decide +kernel
theorem d_X2_takeFigure_100 : decode prog_4_method_5_code 100 = .ok (.getfield 28, 3) := by decide +kernel
theorem d_X2_takeFigure_103 : decode prog_4_method_5_code 103 = .ok (.aload_n 0, 1) := by decide +kernel
theorem d_X2_takeFigure_104 : decode prog_4_method_5_code 104 = .ok (.getfield 18, 3) := by decide +kernel
theorem d_X2_takeFigure_107 : decode prog_4_method_5_code 107 = .ok (.iconst 1, 1) := by decide +kernel
theorem d_X2_takeFigure_108 : decode prog_4_method_5_code 108 = .ok (.isub, 1) := by decide +kernel
theorem d_X2_takeFigure_109 : decode prog_4_method_5_code 109 = .ok (.iload_n 2, 1) := by decide +kernel
theorem d_X2_takeFigure_110 : decode prog_4_method_5_code 110 = .ok (.iastore, 1) := by decide +kernel
theorem d_X2_takeFigure_111 : decode prog_4_method_5_code 111 = .ok (.iconst 3, 1) := by decide +kernel
theorem d_X2_takeFigure_112 : decode prog_4_method_5_code 112 = .ok (.ireturn, 1) := by decide +kernel
theorem d_X2_takeFigure_113 : decode prog_4_method_5_code 113 = .ok (.iconst 0, 1) := by decide +kernel
theorem d_X2_takeFigure_114 : decode prog_4_method_5_code 114 = .ok (.ireturn, 1) := by decide +kernel
def m_X2_takeFigure_b80 (sh : Sh) (v0 : Nat) (v1 : Int32) (v2 : Int32) (μ : Mu) : Option (Int32 × Mu) :=
  if v1 = 6 then
    gd (iz sh 2 v0) <|
    ca2 (m_X2_hasPerson sh v0 ((gI μ v0 2) - 1) μ) fun r23 μ24 =>
    if r23 = 0 then
      some (0, μ24)
    else
      bd (gR μ24 v0 5) fun a26 =>
      gd (ix sh 8 a26 ((gI μ24 v0 2) - 1)) <|
      bd (sI μ24 a26 ((gI μ24 v0 2) - 1).toNatClampNeg v2) fun μ28 =>
      some (3, μ28)
  else
    some (0, μ)
def m_X2_takeFigure_b44 (sh : Sh) (v0 : Nat) (v1 : Int32) (v2 : Int32) (μ : Mu) : Option (Int32 × Mu) :=
  if v1 = 5 then
    gd (iz sh 2 v0) <|
    ca2 (m_X2_hasBooth sh v0 ((gI μ v0 1) - 1) μ) fun r14 μ15 =>
    if r14 = 0 then
      m_X2_takeFigure_b80 sh v0 v1 v2 μ15
    else
      if v2 ≤ 0 then
        m_X2_takeFigure_b80 sh v0 v1 v2 μ15
      else
        bd (gR μ15 v0 4) fun a18 =>
        gd (ix sh 8 a18 ((gI μ15 v0 1) - 1)) <|
        bd (sI μ15 a18 ((gI μ15 v0 1) - 1).toNatClampNeg v2) fun μ20 =>
        some (3, μ20)
  else
    m_X2_takeFigure_b80 sh v0 v1 v2 μ
def m_X2_takeFigure (sh : Sh) (v0 : Nat) (v1 : Int32) (v2 : Int32) (μ : Mu) : Option (Int32 × Mu) :=
  if v1 = 2 then
    gd (iz sh 2 v0) <|
    bd (sI μ v0 0 v2) fun μ11 =>
    some (3, μ11)
  else
    if v1 = 4 then
      gd (iz sh 2 v0) <|
      ca2 (m_X2_hasBooth sh v0 ((gI μ v0 1) - 1) μ) fun r4 μ5 =>
      if r4 = 0 then
        m_X2_takeFigure_b44 sh v0 v1 v2 μ5
      else
        bd (gR μ5 v0 3) fun a7 =>
        gd (ix sh 8 a7 ((gI μ5 v0 1) - 1)) <|
        bd (sI μ5 a7 ((gI μ5 v0 1) - 1).toNatClampNeg v2) fun μ9 =>
        some (5, μ9)
    else
      m_X2_takeFigure_b44 sh v0 v1 v2 μ
set_option maxHeartbeats 4000000 in
set_option maxRecDepth 20000 in
theorem t_X2_takeFigure_b80 {l : Launch} {G : Gl} {n : Nat} {sh : Sh} {x : Int32 × Mu} {v0 : Nat} {v1 : Int32} {v2 : Int32} {μ : Mu} (h : m_X2_takeFigure_b80 sh v0 v1 v2 μ = some x) : Sj l G (QI G n sh x) c_X2_takeFigure n sh 0 0 μ 80 [some (vr v0), some (vi v1), some (vi v2)] [] := by
  unfold m_X2_takeFigure_b80 at h
  refine s_iload_n (pc := 80) d_X2_takeFigure_80 rfl rfl ?_
  refine s_bipush (pc := 81) (v := 6) d_X2_takeFigure_81 (by decide) ?_
  refine s_icmp_ne (pc := 83) (tgt := 113) d_X2_takeFigure_83 (by decide) (fun c21 => ?_) (fun c21 => ?_)
  · have h := it_f c21 h
    refine s_iconst (pc := 113) (v := 0) d_X2_takeFigure_113 (by decide) ?_
    obtain rfl := Option.some.inj h
    exact s_iret (pc := 114) d_X2_takeFigure_114 rfl
  · have h := it_t c21 h
    refine s_aload_n (pc := 86) d_X2_takeFigure_86 rfl rfl ?_
    refine s_aload_n (pc := 87) d_X2_takeFigure_87 rfl rfl ?_
    obtain ⟨g22, h⟩ := gd_1 h
    refine s_getI (pc := 88) (k := 2) cl_2 d_X2_takeFigure_88 g22 (by decide) w_30 rfl ?_
    refine s_iconst (pc := 91) (v := 1) d_X2_takeFigure_91 (by decide) ?_
    refine s_isub (pc := 92) d_X2_takeFigure_92 ?_
    obtain ⟨r23, μ24, er23, h⟩ := ca2_1 h
    refine s_callV (pc := 93) (as := [vi ((gI μ v0 2) - 1)]) (st := []) (vo := [vi r23]) (t_X2_hasPerson er23) cl_2 g22 d_X2_takeFigure_93 y_X2_hasPerson w_259 w_260 w_261 ⟨by decide, by decide⟩ ⟨Nat.le_of_ble_eq_true rfl, Nat.le_of_ble_eq_true rfl⟩ (Nat.le_of_ble_eq_true rfl) rfl rfl rfl ?_
    refine s_as (kc' := 0) (js' := 0) (pc' := 96) (st' := [vi r23]) ⟨rfl, rfl, rfl, rfl⟩ ?_
    refine s_if_eq (pc := 96) (tgt := 113) d_X2_takeFigure_96 (by decide) (fun c25 => ?_) (fun c25 => ?_)
    · have h := it_t c25 h
      refine s_iconst (pc := 113) (v := 0) d_X2_takeFigure_113 (by decide) ?_
      obtain rfl := Option.some.inj h
      exact s_iret (pc := 114) d_X2_takeFigure_114 rfl
    · have h := it_f c25 h
      refine s_aload_n (pc := 99) d_X2_takeFigure_99 rfl rfl ?_
      refine s_getR (pc := 100) (k := 5) cl_2 d_X2_takeFigure_100 g22 (by decide) w_34 (rt_arr _) ?_
      obtain ⟨a26, ea26, h⟩ := bd_1 h
      refine s_topR ea26 ?_
      refine s_aload_n (pc := 103) d_X2_takeFigure_103 rfl rfl ?_
      refine s_getI (pc := 104) (k := 2) cl_2 d_X2_takeFigure_104 g22 (by decide) w_30 rfl ?_
      refine s_iconst (pc := 107) (v := 1) d_X2_takeFigure_107 (by decide) ?_
      refine s_isub (pc := 108) d_X2_takeFigure_108 ?_
      refine s_iload_n (pc := 109) d_X2_takeFigure_109 rfl rfl ?_
      obtain ⟨g27, h⟩ := gd_1 h
      refine s_iast (pc := 110) d_X2_takeFigure_110 g27 ?_
      obtain ⟨μ28, eμ28, h⟩ := bd_1 h
      refine s_mu eμ28 ?_
      refine s_iconst (pc := 111) (v := 3) d_X2_takeFigure_111 (by decide) ?_
      obtain rfl := Option.some.inj h
      exact s_iret (pc := 112) d_X2_takeFigure_112 rfl
set_option maxHeartbeats 4000000 in
set_option maxRecDepth 20000 in
theorem t_X2_takeFigure_b44 {l : Launch} {G : Gl} {n : Nat} {sh : Sh} {x : Int32 × Mu} {v0 : Nat} {v1 : Int32} {v2 : Int32} {μ : Mu} (h : m_X2_takeFigure_b44 sh v0 v1 v2 μ = some x) : Sj l G (QI G n sh x) c_X2_takeFigure n sh 0 0 μ 44 [some (vr v0), some (vi v1), some (vi v2)] [] := by
  unfold m_X2_takeFigure_b44 at h
  refine s_iload_n (pc := 44) d_X2_takeFigure_44 rfl rfl ?_
  refine s_iconst (pc := 45) (v := 5) d_X2_takeFigure_45 (by decide) ?_
  refine s_icmp_ne (pc := 46) (tgt := 80) d_X2_takeFigure_46 (by decide) (fun c12 => ?_) (fun c12 => ?_)
  · have h := it_f c12 h
    exact t_X2_takeFigure_b80 h
  · have h := it_t c12 h
    refine s_aload_n (pc := 49) d_X2_takeFigure_49 rfl rfl ?_
    refine s_aload_n (pc := 50) d_X2_takeFigure_50 rfl rfl ?_
    obtain ⟨g13, h⟩ := gd_1 h
    refine s_getI (pc := 51) (k := 1) cl_2 d_X2_takeFigure_51 g13 (by decide) w_28 rfl ?_
    refine s_iconst (pc := 54) (v := 1) d_X2_takeFigure_54 (by decide) ?_
    refine s_isub (pc := 55) d_X2_takeFigure_55 ?_
    obtain ⟨r14, μ15, er14, h⟩ := ca2_1 h
    refine s_callV (pc := 56) (as := [vi ((gI μ v0 1) - 1)]) (st := []) (vo := [vi r14]) (t_X2_hasBooth er14) cl_2 g13 d_X2_takeFigure_56 y_X2_hasBooth w_255 w_256 w_257 ⟨by decide, by decide⟩ ⟨Nat.le_of_ble_eq_true rfl, Nat.le_of_ble_eq_true rfl⟩ (Nat.le_of_ble_eq_true rfl) rfl rfl rfl ?_
    refine s_as (kc' := 0) (js' := 0) (pc' := 59) (st' := [vi r14]) ⟨rfl, rfl, rfl, rfl⟩ ?_
    refine s_if_eq (pc := 59) (tgt := 80) d_X2_takeFigure_59 (by decide) (fun c16 => ?_) (fun c16 => ?_)
    · have h := it_t c16 h
      exact t_X2_takeFigure_b80 h
    · have h := it_f c16 h
      refine s_iload_n (pc := 62) d_X2_takeFigure_62 rfl rfl ?_
      refine s_if_le (pc := 63) (tgt := 80) d_X2_takeFigure_63 (by decide) (fun c17 => ?_) (fun c17 => ?_)
      · have h := it_t c17 h
        exact t_X2_takeFigure_b80 h
      · have h := it_f c17 h
        refine s_aload_n (pc := 66) d_X2_takeFigure_66 rfl rfl ?_
        refine s_getR (pc := 67) (k := 4) cl_2 d_X2_takeFigure_67 g13 (by decide) w_33 (rt_arr _) ?_
        obtain ⟨a18, ea18, h⟩ := bd_1 h
        refine s_topR ea18 ?_
        refine s_aload_n (pc := 70) d_X2_takeFigure_70 rfl rfl ?_
        refine s_getI (pc := 71) (k := 1) cl_2 d_X2_takeFigure_71 g13 (by decide) w_28 rfl ?_
        refine s_iconst (pc := 74) (v := 1) d_X2_takeFigure_74 (by decide) ?_
        refine s_isub (pc := 75) d_X2_takeFigure_75 ?_
        refine s_iload_n (pc := 76) d_X2_takeFigure_76 rfl rfl ?_
        obtain ⟨g19, h⟩ := gd_1 h
        refine s_iast (pc := 77) d_X2_takeFigure_77 g19 ?_
        obtain ⟨μ20, eμ20, h⟩ := bd_1 h
        refine s_mu eμ20 ?_
        refine s_iconst (pc := 78) (v := 3) d_X2_takeFigure_78 (by decide) ?_
        obtain rfl := Option.some.inj h
        exact s_iret (pc := 79) d_X2_takeFigure_79 rfl
set_option maxHeartbeats 4000000 in
set_option maxRecDepth 20000 in
theorem t_X2_takeFigure {l : Launch} {G : Gl} {n : Nat} {sh : Sh} {x : Int32 × Mu} {v0 : Nat} {v1 : Int32} {v2 : Int32} {μ : Mu} (h : m_X2_takeFigure sh v0 v1 v2 μ = some x) : Ct l G ⟨"StripsOfFour$Plan", "takeFigure", "(II)I"⟩ prog_4_method_5_code 3 (some .int) { frames := 1, cells := 0, slots := 0, locals := 21 } n sh μ [vr v0, vi v1, vi v2] (some (.int x.1)) n sh x.2 := by
  refine Ct.of (lc := [some (vr v0), some (vi v1), some (vi v2)]) (by decide +kernel) (Nat.le_of_ble_eq_true rfl) rfl ?_
  show Sj l G (QI G n sh x) c_X2_takeFigure n sh 0 0 μ 0 [some (vr v0), some (vi v1), some (vi v2)] []
  unfold m_X2_takeFigure at h
  refine s_iload_n (pc := 0) d_X2_takeFigure_0 rfl rfl ?_
  refine s_iconst (pc := 1) (v := 2) d_X2_takeFigure_1 (by decide) ?_
  refine s_icmp_ne (pc := 2) (tgt := 12) d_X2_takeFigure_2 (by decide) (fun c1 => ?_) (fun c1 => ?_)
  · have h := it_f c1 h
    refine s_iload_n (pc := 12) d_X2_takeFigure_12 rfl rfl ?_
    refine s_iconst (pc := 13) (v := 4) d_X2_takeFigure_13 (by decide) ?_
    refine s_icmp_ne (pc := 14) (tgt := 44) d_X2_takeFigure_14 (by decide) (fun c2 => ?_) (fun c2 => ?_)
    · have h := it_f c2 h
      exact t_X2_takeFigure_b44 h
    · have h := it_t c2 h
      refine s_aload_n (pc := 17) d_X2_takeFigure_17 rfl rfl ?_
      refine s_aload_n (pc := 18) d_X2_takeFigure_18 rfl rfl ?_
      obtain ⟨g3, h⟩ := gd_1 h
      refine s_getI (pc := 19) (k := 1) cl_2 d_X2_takeFigure_19 g3 (by decide) w_28 rfl ?_
      refine s_iconst (pc := 22) (v := 1) d_X2_takeFigure_22 (by decide) ?_
      refine s_isub (pc := 23) d_X2_takeFigure_23 ?_
      obtain ⟨r4, μ5, er4, h⟩ := ca2_1 h
      refine s_callV (pc := 24) (as := [vi ((gI μ v0 1) - 1)]) (st := []) (vo := [vi r4]) (t_X2_hasBooth er4) cl_2 g3 d_X2_takeFigure_24 y_X2_hasBooth w_255 w_256 w_257 ⟨by decide, by decide⟩ ⟨Nat.le_of_ble_eq_true rfl, Nat.le_of_ble_eq_true rfl⟩ (Nat.le_of_ble_eq_true rfl) rfl rfl rfl ?_
      refine s_as (kc' := 0) (js' := 0) (pc' := 27) (st' := [vi r4]) ⟨rfl, rfl, rfl, rfl⟩ ?_
      refine s_if_eq (pc := 27) (tgt := 44) d_X2_takeFigure_27 (by decide) (fun c6 => ?_) (fun c6 => ?_)
      · have h := it_t c6 h
        exact t_X2_takeFigure_b44 h
      · have h := it_f c6 h
        refine s_aload_n (pc := 30) d_X2_takeFigure_30 rfl rfl ?_
        refine s_getR (pc := 31) (k := 3) cl_2 d_X2_takeFigure_31 g3 (by decide) w_32 (rt_arr _) ?_
        obtain ⟨a7, ea7, h⟩ := bd_1 h
        refine s_topR ea7 ?_
        refine s_aload_n (pc := 34) d_X2_takeFigure_34 rfl rfl ?_
        refine s_getI (pc := 35) (k := 1) cl_2 d_X2_takeFigure_35 g3 (by decide) w_28 rfl ?_
        refine s_iconst (pc := 38) (v := 1) d_X2_takeFigure_38 (by decide) ?_
        refine s_isub (pc := 39) d_X2_takeFigure_39 ?_
        refine s_iload_n (pc := 40) d_X2_takeFigure_40 rfl rfl ?_
        obtain ⟨g8, h⟩ := gd_1 h
        refine s_iast (pc := 41) d_X2_takeFigure_41 g8 ?_
        obtain ⟨μ9, eμ9, h⟩ := bd_1 h
        refine s_mu eμ9 ?_
        refine s_iconst (pc := 42) (v := 5) d_X2_takeFigure_42 (by decide) ?_
        obtain rfl := Option.some.inj h
        exact s_iret (pc := 43) d_X2_takeFigure_43 rfl
  · have h := it_t c1 h
    refine s_aload_n (pc := 5) d_X2_takeFigure_5 rfl rfl ?_
    refine s_iload_n (pc := 6) d_X2_takeFigure_6 rfl rfl ?_
    obtain ⟨g10, h⟩ := gd_1 h
    refine s_putI (pc := 7) (k := 0) cl_2 d_X2_takeFigure_7 g10 (by decide) w_26 rfl rfl ?_
    obtain ⟨μ11, eμ11, h⟩ := bd_1 h
    refine s_mu eμ11 ?_
    refine s_iconst (pc := 10) (v := 3) d_X2_takeFigure_10 (by decide) ?_
    obtain rfl := Option.some.inj h
    exact s_iret (pc := 11) d_X2_takeFigure_11 rfl
/-! StripsOfFour$Plan.dueBehind -/
abbrev c_X2_dueBehind : Cf := (prog_4_method_3_code, 4, "StripsOfFour$Plan", "dueBehind", (some .int), { frames := 2, cells := 0, slots := 0, locals := 43 })
theorem d_X2_dueBehind_0 : decode prog_4_method_3_code 0 = .ok (.iload_n 1, 1) := by decide +kernel
theorem d_X2_dueBehind_1 : decode prog_4_method_3_code 1 = .ok (.iconst 1, 1) := by decide +kernel
theorem d_X2_dueBehind_2 : decode prog_4_method_3_code 2 = .ok (.if_icmp .ne 15, 3) := by decide +kernel
theorem d_X2_dueBehind_5 : decode prog_4_method_3_code 5 = .ok (.iload_n 2, 1) := by decide +kernel
theorem d_X2_dueBehind_6 : decode prog_4_method_3_code 6 = .ok (.bipush 66, 2) := by decide +kernel
theorem d_X2_dueBehind_8 : decode prog_4_method_3_code 8 = .ok (.if_icmp .ne 7, 3) := by decide +kernel
theorem d_X2_dueBehind_11 : decode prog_4_method_3_code 11 = .ok (.iconst 2, 1) := by decide +kernel
theorem d_X2_dueBehind_12 : decode prog_4_method_3_code 12 = .ok (.goto 4, 3) := by decide +kernel
theorem d_X2_dueBehind_15 : decode prog_4_method_3_code 15 = .ok (.iconst 0, 1) := by decide +kernel
theorem d_X2_dueBehind_16 : decode prog_4_method_3_code 16 = .ok (.ireturn, 1) := by decide +kernel
theorem d_X2_dueBehind_17 : decode prog_4_method_3_code 17 = .ok (.iload_n 1, 1) := by decide +kernel
theorem d_X2_dueBehind_18 : decode prog_4_method_3_code 18 = .ok (.iconst 3, 1) := by decide +kernel
theorem d_X2_dueBehind_19 : decode prog_4_method_3_code 19 = .ok (.if_icmp .ne 9, 3) := by decide +kernel
theorem d_X2_dueBehind_22 : decode prog_4_method_3_code 22 = .ok (.aload_n 0, 1) := by decide +kernel
theorem d_X2_dueBehind_23 : decode prog_4_method_3_code 23 = .ok (.iload_n 2, 1) := by decide +kernel
theorem d_X2_dueBehind_24 : decode prog_4_method_3_code 24 = .ok (.invokevirtual 35, 3) := by decide +kernel
theorem d_X2_dueBehind_27 : decode prog_4_method_3_code 27 = .ok (.ireturn, 1) := by decide +kernel
theorem d_X2_dueBehind_28 : decode prog_4_method_3_code 28 = .ok (.iload_n 2, 1) := by decide +kernel
theorem d_X2_dueBehind_29 : decode prog_4_method_3_code 29 = .ok (.bipush 48, 2) := by decide +kernel
theorem d_X2_dueBehind_31 : decode prog_4_method_3_code 31 = .ok (.isub, 1) := by decide +kernel
theorem d_X2_dueBehind_32 : decode prog_4_method_3_code 32 = .ok (.istore_n 3, 1) := by decide +kernel
theorem d_X2_dueBehind_33 : decode prog_4_method_3_code 33 = .ok (.iload_n 3, 1) := by decide +kernel
theorem d_X2_dueBehind_34 : decode prog_4_method_3_code 34 = .ok (.ifCond .lt 9, 3) := by decide +kernel
theorem d_X2_dueBehind_37 : decode prog_4_method_3_code 37 = .ok (.iload_n 3, 1) := by decide +kernel
theorem d_X2_dueBehind_38 : decode prog_4_method_3_code 38 = .ok (.bipush 9, 2) := by decide +kernel
theorem d_X2_dueBehind_40 : decode prog_4_method_3_code 40 = .ok (.if_icmp .le 5, 3) := by decide +kernel
theorem d_X2_dueBehind_43 : decode prog_4_method_3_code 43 = .ok (.iconst 0, 1) := by decide +kernel
theorem d_X2_dueBehind_44 : decode prog_4_method_3_code 44 = .ok (.ireturn, 1) := by decide +kernel
theorem d_X2_dueBehind_45 : decode prog_4_method_3_code 45 = .ok (.aload_n 0, 1) := by decide +kernel
theorem d_X2_dueBehind_46 : decode prog_4_method_3_code 46 = .ok (.iload_n 1, 1) := by decide +kernel
theorem d_X2_dueBehind_47 : decode prog_4_method_3_code 47 = .ok (.iload_n 3, 1) := by decide +kernel
theorem d_X2_dueBehind_48 : decode prog_4_method_3_code 48 = .ok (.invokevirtual 39, 3) := by decide +kernel
theorem d_X2_dueBehind_51 : decode prog_4_method_3_code 51 = .ok (.ireturn, 1) := by decide +kernel
def m_X2_dueBehind (sh : Sh) (v0 : Nat) (v1 : Int32) (v2 : Int32) (μ : Mu) : Option (Int32 × Mu) :=
  if v1 = 1 then
    if v2 = 66 then
      some (2, μ)
    else
      some (0, μ)
  else
    if v1 = 3 then
      gd (iz sh 2 v0) <|
      ca2 (m_X2_beginPart sh v0 v2 μ) fun r10 μ11 =>
      some (r10, μ11)
    else
      bd (v2 - 48) fun w3 =>
      if w3 < 0 then
        some (0, μ)
      else
        if w3 ≤ 9 then
          gd (iz sh 2 v0) <|
          ca2 (m_X2_takeFigure sh v0 v1 w3 μ) fun r7 μ8 =>
          some (r7, μ8)
        else
          some (0, μ)
set_option maxHeartbeats 4000000 in
set_option maxRecDepth 20000 in
theorem t_X2_dueBehind {l : Launch} {G : Gl} {n : Nat} {sh : Sh} {x : Int32 × Mu} {v0 : Nat} {v1 : Int32} {v2 : Int32} {μ : Mu} (h : m_X2_dueBehind sh v0 v1 v2 μ = some x) : Ct l G ⟨"StripsOfFour$Plan", "dueBehind", "(II)I"⟩ prog_4_method_3_code 4 (some .int) { frames := 2, cells := 0, slots := 0, locals := 43 } n sh μ [vr v0, vi v1, vi v2] (some (.int x.1)) n sh x.2 := by
  refine Ct.of (lc := [some (vr v0), some (vi v1), some (vi v2), none]) (by decide +kernel) (Nat.le_of_ble_eq_true rfl) rfl ?_
  show Sj l G (QI G n sh x) c_X2_dueBehind n sh 0 0 μ 0 [some (vr v0), some (vi v1), some (vi v2), none] []
  unfold m_X2_dueBehind at h
  refine s_iload_n (pc := 0) d_X2_dueBehind_0 rfl rfl ?_
  refine s_iconst (pc := 1) (v := 1) d_X2_dueBehind_1 (by decide) ?_
  refine s_icmp_ne (pc := 2) (tgt := 17) d_X2_dueBehind_2 (by decide) (fun c1 => ?_) (fun c1 => ?_)
  · have h := it_f c1 h
    refine s_iload_n (pc := 17) d_X2_dueBehind_17 rfl rfl ?_
    refine s_iconst (pc := 18) (v := 3) d_X2_dueBehind_18 (by decide) ?_
    refine s_icmp_ne (pc := 19) (tgt := 28) d_X2_dueBehind_19 (by decide) (fun c2 => ?_) (fun c2 => ?_)
    · have h := it_f c2 h
      refine s_iload_n (pc := 28) d_X2_dueBehind_28 rfl rfl ?_
      refine s_bipush (pc := 29) (v := 48) d_X2_dueBehind_29 (by decide) ?_
      refine s_isub (pc := 31) d_X2_dueBehind_31 ?_
      obtain ⟨w3, ew3, h⟩ := bd_1 h
      refine s_topI ew3 ?_
      refine s_istore_n (pc := 32) (lc' := [some (vr v0), some (vi v1), some (vi v2), some (vi w3)]) d_X2_dueBehind_32 rfl (by decide) rfl ?_
      refine s_iload_n (pc := 33) d_X2_dueBehind_33 rfl rfl ?_
      refine s_if_lt (pc := 34) (tgt := 43) d_X2_dueBehind_34 (by decide) (fun c4 => ?_) (fun c4 => ?_)
      · have h := it_t c4 h
        refine s_iconst (pc := 43) (v := 0) d_X2_dueBehind_43 (by decide) ?_
        obtain rfl := Option.some.inj h
        exact s_iret (pc := 44) d_X2_dueBehind_44 rfl
      · have h := it_f c4 h
        refine s_iload_n (pc := 37) d_X2_dueBehind_37 rfl rfl ?_
        refine s_bipush (pc := 38) (v := 9) d_X2_dueBehind_38 (by decide) ?_
        refine s_icmp_le (pc := 40) (tgt := 45) d_X2_dueBehind_40 (by decide) (fun c5 => ?_) (fun c5 => ?_)
        · have h := it_t c5 h
          refine s_aload_n (pc := 45) d_X2_dueBehind_45 rfl rfl ?_
          refine s_iload_n (pc := 46) d_X2_dueBehind_46 rfl rfl ?_
          refine s_iload_n (pc := 47) d_X2_dueBehind_47 rfl rfl ?_
          obtain ⟨g6, h⟩ := gd_1 h
          obtain ⟨r7, μ8, er7, h⟩ := ca2_1 h
          refine s_callV (pc := 48) (as := [vi v1, vi w3]) (st := []) (vo := [vi r7]) (t_X2_takeFigure er7) cl_2 g6 d_X2_dueBehind_48 y_X2_takeFigure w_251 w_253 w_s2 ⟨by decide, by decide⟩ ⟨Nat.le_of_ble_eq_true rfl, Nat.le_of_ble_eq_true rfl⟩ (Nat.le_of_ble_eq_true rfl) rfl rfl rfl ?_
          refine s_as (kc' := 0) (js' := 0) (pc' := 51) (st' := [vi r7]) ⟨rfl, rfl, rfl, rfl⟩ ?_
          obtain rfl := Option.some.inj h
          exact s_iret (pc := 51) d_X2_dueBehind_51 rfl
        · have h := it_f c5 h
          refine s_iconst (pc := 43) (v := 0) d_X2_dueBehind_43 (by decide) ?_
          obtain rfl := Option.some.inj h
          exact s_iret (pc := 44) d_X2_dueBehind_44 rfl
    · have h := it_t c2 h
      refine s_aload_n (pc := 22) d_X2_dueBehind_22 rfl rfl ?_
      refine s_iload_n (pc := 23) d_X2_dueBehind_23 rfl rfl ?_
      obtain ⟨g9, h⟩ := gd_1 h
      obtain ⟨r10, μ11, er10, h⟩ := ca2_1 h
      refine s_callV (pc := 24) (as := [vi v2]) (st := []) (vo := [vi r10]) (t_X2_beginPart er10) cl_2 g9 d_X2_dueBehind_24 y_X2_beginPart w_247 w_249 w_s1 ⟨by decide, by decide⟩ ⟨Nat.le_of_ble_eq_true rfl, Nat.le_of_ble_eq_true rfl⟩ (Nat.le_of_ble_eq_true rfl) rfl rfl rfl ?_
      refine s_as (kc' := 0) (js' := 0) (pc' := 27) (st' := [vi r10]) ⟨rfl, rfl, rfl, rfl⟩ ?_
      obtain rfl := Option.some.inj h
      exact s_iret (pc := 27) d_X2_dueBehind_27 rfl
  · have h := it_t c1 h
    refine s_iload_n (pc := 5) d_X2_dueBehind_5 rfl rfl ?_
    refine s_bipush (pc := 6) (v := 66) d_X2_dueBehind_6 (by decide) ?_
    refine s_icmp_ne (pc := 8) (tgt := 15) d_X2_dueBehind_8 (by decide) (fun c12 => ?_) (fun c12 => ?_)
    · have h := it_f c12 h
      refine s_iconst (pc := 15) (v := 0) d_X2_dueBehind_15 (by decide) ?_
      obtain rfl := Option.some.inj h
      exact s_iret (pc := 16) d_X2_dueBehind_16 rfl
    · have h := it_t c12 h
      refine s_iconst (pc := 11) (v := 2) d_X2_dueBehind_11 (by decide) ?_
      refine s_goto (pc := 12) (tgt := 16) d_X2_dueBehind_12 (by decide) ?_
      obtain rfl := Option.some.inj h
      exact s_iret (pc := 16) d_X2_dueBehind_16 rfl
/-! StripsOfFour$Plan.readFrom -/
abbrev c_X2_readFrom : Cf := (prog_4_method_2_code, 5, "StripsOfFour$Plan", "readFrom", (some .int), { frames := 3, cells := 0, slots := 0, locals := 66 })
theorem d_X2_readFrom_0 : decode prog_4_method_2_code 0 = .ok (.aload_n 0, 1) := by decide +kernel
theorem d_X2_readFrom_1 : decode prog_4_method_2_code 1 = .ok (.iconst 0, 1) := by decide +kernel
theorem d_X2_readFrom_2 : decode prog_4_method_2_code 2 = .ok (.putfield 9, 3) := by decide +kernel
theorem d_X2_readFrom_5 : decode prog_4_method_2_code 5 = .ok (.aload_n 0, 1) := by decide +kernel
theorem d_X2_readFrom_6 : decode prog_4_method_2_code 6 = .ok (.iconst 0, 1) := by decide +kernel
theorem d_X2_readFrom_7 : decode prog_4_method_2_code 7 = .ok (.putfield 15, 3) := by decide +kernel
theorem d_X2_readFrom_10 : decode prog_4_method_2_code 10 = .ok (.aload_n 0, 1) := by decide +kernel
theorem d_X2_readFrom_11 : decode prog_4_method_2_code 11 = .ok (.iconst 0, 1) := by decide +kernel
theorem d_X2_readFrom_12 : decode prog_4_method_2_code 12 = .ok (.putfield 18, 3) := by decide +kernel
theorem d_X2_readFrom_15 : decode prog_4_method_2_code 15 = .ok (.iconst 1, 1) := by decide +kernel
theorem d_X2_readFrom_16 : decode prog_4_method_2_code 16 = .ok (.istore_n 3, 1) := by decide +kernel
theorem d_X2_readFrom_17 : decode prog_4_method_2_code 17 = .ok (.iconst 0, 1) := by decide +kernel
theorem d_X2_readFrom_18 : decode prog_4_method_2_code 18 = .ok (.istore 4, 2) := by decide +kernel
theorem d_X2_readFrom_20 : decode prog_4_method_2_code 20 = .ok (.iload 4, 2) := by decide +kernel
theorem d_X2_readFrom_22 : decode prog_4_method_2_code 22 = .ok (.iload_n 2, 1) := by decide +kernel
theorem d_X2_readFrom_23 : decode prog_4_method_2_code 23 = .ok (.if_icmp .ge 33, 3) := by decide +kernel
theorem d_X2_readFrom_26 : decode prog_4_method_2_code 26 = .ok (.iload 4, 2) := by decide +kernel
theorem d_X2_readFrom_28 : decode prog_4_method_2_code 28 = .ok (.aload_n 1, 1) := by decide +kernel
theorem d_X2_readFrom_29 : decode prog_4_method_2_code 29 = .ok (.arraylength, 1) := by decide +kernel
theorem d_X2_readFrom_30 : decode prog_4_method_2_code 30 = .ok (.if_icmp .ge 26, 3) := by decide +kernel
theorem d_X2_readFrom_33 : decode prog_4_method_2_code 33 = .ok (.aload_n 0, 1) := by decide +kernel
theorem d_X2_readFrom_34 : decode prog_4_method_2_code 34 = .ok (.iload_n 3, 1) := by decide +kernel
theorem d_X2_readFrom_35 : decode prog_4_method_2_code 35 = .ok (.aload_n 1, 1) := by decide +kernel
theorem d_X2_readFrom_36 : decode prog_4_method_2_code 36 = .ok (.iload 4, 2) := by decide +kernel
theorem d_X2_readFrom_38 : decode prog_4_method_2_code 38 = .ok (.iaload, 1) := by decide +kernel
theorem d_X2_readFrom_39 : decode prog_4_method_2_code 39 = .ok (.invokevirtual 31, 3) := by decide +kernel
theorem d_X2_readFrom_42 : decode prog_4_method_2_code 42 = .ok (.istore_n 3, 1) := by decide +kernel
theorem d_X2_readFrom_43 : decode prog_4_method_2_code 43 = .ok (.iload_n 3, 1) := by decide +kernel
theorem d_X2_readFrom_44 : decode prog_4_method_2_code 44 = .ok (.ifCond .ne 6, 3) := by decide +kernel
theorem d_X2_readFrom_47 : decode prog_4_method_2_code 47 = .ok (.iload 4, 2) := by decide +kernel
theorem d_X2_readFrom_49 : decode prog_4_method_2_code 49 = .ok (.ireturn, 1) := by decide +kernel
theorem d_X2_readFrom_50 : decode prog_4_method_2_code 50 = .ok (.iinc 4 1, 3) := by decide +kernel
theorem d_X2_readFrom_53 : decode prog_4_method_2_code 53 = .ok (.goto (-33), 3) := by decide +kernel
theorem d_X2_readFrom_56 : decode prog_4_method_2_code 56 = .ok (.iload_n 3, 1) := by decide +kernel
theorem d_X2_readFrom_57 : decode prog_4_method_2_code 57 = .ok (.iconst 3, 1) := by decide +kernel
theorem d_X2_readFrom_58 : decode prog_4_method_2_code 58 = .ok (.if_icmp .ne 8, 3) := by decide +kernel
theorem d_X2_readFrom_61 : decode prog_4_method_2_code 61 = .ok (.bipush (-9), 2) := by decide +kernel
theorem d_X2_readFrom_63 : decode prog_4_method_2_code 63 = .ok (.goto 4, 3) := by decide +kernel
theorem d_X2_readFrom_66 : decode prog_4_method_2_code 66 = .ok (.iload_n 2, 1) := by decide +kernel
theorem d_X2_readFrom_67 : decode prog_4_method_2_code 67 = .ok (.ireturn, 1) := by decide +kernel
def m_X2_readFrom_b56 (sh : Sh) (v2 : Int32) (v3 : Int32) (μ : Mu) : Option (Int32 × Mu) :=
  if v3 = 3 then
    some ((-9), μ)
  else
    some (v2, μ)
def m_X2_readFrom_b20 (sh : Sh) (k20 : Int32 → Int32 → Mu → Option (Int32 × Mu)) (v0 : Nat) (v1 : Nat) (v2 : Int32) (v3 : Int32) (v4 : Int32) (μ : Mu) : Option (Int32 × Mu) :=
  if v2 ≤ v4 then
    m_X2_readFrom_b56 sh v2 v3 μ
  else
    gd (iz sh 8 v1) <|
    if (nI (sh v1).2) ≤ v4 then
      m_X2_readFrom_b56 sh v2 v3 μ
    else
      gd (ix sh 8 v1 v4) <|
      bd (gI μ v1 v4.toNatClampNeg) fun w9 =>
      gd (iz sh 2 v0) <|
      ca2 (m_X2_dueBehind sh v0 v3 w9 μ) fun r11 μ12 =>
      if r11 = 0 then
        some (v4, μ12)
      else
        bd (v4 + 1) fun w14 =>
        k20 r11 w14 μ12
def m_X2_readFrom_h20 (sh : Sh) (v0 : Nat) (v1 : Nat) (v2 : Int32) : Nat → Int32 → Int32 → Mu → Option (Int32 × Mu)
  | 0 => fun _ _ _ => none
  | f + 1 => fun v3 v4 μ => m_X2_readFrom_b20 sh (m_X2_readFrom_h20 sh v0 v1 v2 f) v0 v1 v2 v3 v4 μ
def m_X2_readFrom (sh : Sh) (v0 : Nat) (v1 : Nat) (v2 : Int32) (μ : Mu) : Option (Int32 × Mu) :=
  gd (iz sh 2 v0) <|
  bd (sI μ v0 0 0) fun μ2 =>
  bd (sI μ2 v0 1 0) fun μ3 =>
  bd (sI μ3 v0 2 0) fun μ4 =>
  m_X2_readFrom_h20 sh v0 v1 v2 FU 1 0 μ4
set_option maxHeartbeats 4000000 in
set_option maxRecDepth 20000 in
theorem t_X2_readFrom_b56 {l : Launch} {G : Gl} {n : Nat} {sh : Sh} {x : Int32 × Mu} {v2 : Int32} {v3 : Int32} {μ : Mu} (h : m_X2_readFrom_b56 sh v2 v3 μ = some x) : Sj l G (QI G n sh x) c_X2_readFrom n sh 0 0 μ 56 [none, none, some (vi v2), some (vi v3), none] [] := by
  unfold m_X2_readFrom_b56 at h
  refine s_iload_n (pc := 56) d_X2_readFrom_56 rfl rfl ?_
  refine s_iconst (pc := 57) (v := 3) d_X2_readFrom_57 (by decide) ?_
  refine s_icmp_ne (pc := 58) (tgt := 66) d_X2_readFrom_58 (by decide) (fun c15 => ?_) (fun c15 => ?_)
  · have h := it_f c15 h
    refine s_iload_n (pc := 66) d_X2_readFrom_66 rfl rfl ?_
    obtain rfl := Option.some.inj h
    exact s_iret (pc := 67) d_X2_readFrom_67 rfl
  · have h := it_t c15 h
    refine s_bipush (pc := 61) (v := (-9)) d_X2_readFrom_61 (by decide) ?_
    refine s_goto (pc := 63) (tgt := 67) d_X2_readFrom_63 (by decide) ?_
    obtain rfl := Option.some.inj h
    exact s_iret (pc := 67) d_X2_readFrom_67 rfl
set_option maxHeartbeats 4000000 in
set_option maxRecDepth 20000 in
theorem t_X2_readFrom_b20 {l : Launch} {G : Gl} {n : Nat} {sh : Sh} {x : Int32 × Mu} {k20 : Int32 → Int32 → Mu → Option (Int32 × Mu)} {v0 : Nat} {v1 : Nat} {v2 : Int32} {v3 : Int32} {v4 : Int32} {μ : Mu} (hk20 : ∀ (v3 : Int32) (v4 : Int32) (μ : Mu), k20 v3 v4 μ = some x → Sj l G (QI G n sh x) c_X2_readFrom n sh 0 0 μ 20 [some (vr v0), some (vr v1), some (vi v2), some (vi v3), some (vi v4)] []) (h : m_X2_readFrom_b20 sh k20 v0 v1 v2 v3 v4 μ = some x) : Sj l G (QI G n sh x) c_X2_readFrom n sh 0 0 μ 20 [some (vr v0), some (vr v1), some (vi v2), some (vi v3), some (vi v4)] [] := by
  unfold m_X2_readFrom_b20 at h
  refine s_iload (pc := 20) d_X2_readFrom_20 rfl ?_
  refine s_iload_n (pc := 22) d_X2_readFrom_22 rfl rfl ?_
  refine s_icmp_ge (pc := 23) (tgt := 56) d_X2_readFrom_23 (by decide) (fun c5 => ?_) (fun c5 => ?_)
  · have h := it_t c5 h
    refine s_mask [false, false, true, true, false] rfl ?_
    exact t_X2_readFrom_b56 h
  · have h := it_f c5 h
    refine s_iload (pc := 26) d_X2_readFrom_26 rfl ?_
    refine s_aload_n (pc := 28) d_X2_readFrom_28 rfl rfl ?_
    obtain ⟨g6, h⟩ := gd_1 h
    refine s_alen8 (pc := 29) d_X2_readFrom_29 g6 ?_
    refine s_icmp_ge (pc := 30) (tgt := 56) d_X2_readFrom_30 (by decide) (fun c7 => ?_) (fun c7 => ?_)
    · have h := it_t c7 h
      refine s_mask [false, false, true, true, false] rfl ?_
      exact t_X2_readFrom_b56 h
    · have h := it_f c7 h
      refine s_aload_n (pc := 33) d_X2_readFrom_33 rfl rfl ?_
      refine s_iload_n (pc := 34) d_X2_readFrom_34 rfl rfl ?_
      refine s_aload_n (pc := 35) d_X2_readFrom_35 rfl rfl ?_
      refine s_iload (pc := 36) d_X2_readFrom_36 rfl ?_
      obtain ⟨g8, h⟩ := gd_1 h
      refine s_iald (pc := 38) d_X2_readFrom_38 g8 ?_
      obtain ⟨w9, ew9, h⟩ := bd_1 h
      refine s_topI ew9 ?_
      obtain ⟨g10, h⟩ := gd_1 h
      obtain ⟨r11, μ12, er11, h⟩ := ca2_1 h
      refine s_callV (pc := 39) (as := [vi v3, vi w9]) (st := []) (vo := [vi r11]) (t_X2_dueBehind er11) cl_2 g10 d_X2_readFrom_39 y_X2_dueBehind w_243 w_245 w_s0 ⟨by decide, by decide⟩ ⟨Nat.le_of_ble_eq_true rfl, Nat.le_of_ble_eq_true rfl⟩ (Nat.le_of_ble_eq_true rfl) rfl rfl rfl ?_
      refine s_as (kc' := 0) (js' := 0) (pc' := 42) (st' := [vi r11]) ⟨rfl, rfl, rfl, rfl⟩ ?_
      refine s_istore_n (pc := 42) (lc' := [some (vr v0), some (vr v1), some (vi v2), some (vi r11), some (vi v4)]) d_X2_readFrom_42 rfl (by decide) rfl ?_
      refine s_iload_n (pc := 43) d_X2_readFrom_43 rfl rfl ?_
      refine s_if_ne (pc := 44) (tgt := 50) d_X2_readFrom_44 (by decide) (fun c13 => ?_) (fun c13 => ?_)
      · have h := it_f c13 h
        obtain ⟨w14, ew14, h⟩ := bd_1 h
        refine s_iinc (pc := 50) (v := w14) (lc' := [some (vr v0), some (vr v1), some (vi v2), some (vi r11), some (vi w14)]) d_X2_readFrom_50 rfl (by rw [ew14]; rfl) (by decide) rfl ?_
        refine s_goto (pc := 53) (tgt := 20) d_X2_readFrom_53 (by decide) ?_
        exact hk20 _ _ _ h
      · have h := it_t c13 h
        refine s_iload (pc := 47) d_X2_readFrom_47 rfl ?_
        obtain rfl := Option.some.inj h
        exact s_iret (pc := 49) d_X2_readFrom_49 rfl
set_option maxHeartbeats 4000000 in
set_option maxRecDepth 20000 in
theorem t_X2_readFrom_h20 {l : Launch} {G : Gl} {n : Nat} {sh : Sh} {x : Int32 × Mu} {v0 : Nat} {v1 : Nat} {v2 : Int32} : ∀ (f : Nat) (v3 : Int32) (v4 : Int32) (μ : Mu), m_X2_readFrom_h20 sh v0 v1 v2 f v3 v4 μ = some x → Sj l G (QI G n sh x) c_X2_readFrom n sh 0 0 μ 20 [some (vr v0), some (vr v1), some (vi v2), some (vi v3), some (vi v4)] [] := by
  intro f
  induction f with
  | zero =>
    intro v3 v4 μ h
    cases h
  | succ f ih =>
    intro v3 v4 μ h
    exact t_X2_readFrom_b20 ih h
set_option maxHeartbeats 4000000 in
set_option maxRecDepth 20000 in
theorem t_X2_readFrom {l : Launch} {G : Gl} {n : Nat} {sh : Sh} {x : Int32 × Mu} {v0 : Nat} {v1 : Nat} {v2 : Int32} {μ : Mu} (h : m_X2_readFrom sh v0 v1 v2 μ = some x) : Ct l G ⟨"StripsOfFour$Plan", "readFrom", "([II)I"⟩ prog_4_method_2_code 5 (some .int) { frames := 3, cells := 0, slots := 0, locals := 66 } n sh μ [vr v0, vr v1, vi v2] (some (.int x.1)) n sh x.2 := by
  refine Ct.of (lc := [some (vr v0), some (vr v1), some (vi v2), none, none]) (by decide +kernel) (Nat.le_of_ble_eq_true rfl) rfl ?_
  show Sj l G (QI G n sh x) c_X2_readFrom n sh 0 0 μ 0 [some (vr v0), some (vr v1), some (vi v2), none, none] []
  unfold m_X2_readFrom at h
  refine s_aload_n (pc := 0) d_X2_readFrom_0 rfl rfl ?_
  refine s_iconst (pc := 1) (v := 0) d_X2_readFrom_1 (by decide) ?_
  obtain ⟨g1, h⟩ := gd_1 h
  refine s_putI (pc := 2) (k := 0) cl_2 d_X2_readFrom_2 g1 (by decide) w_26 rfl rfl ?_
  obtain ⟨μ2, eμ2, h⟩ := bd_1 h
  refine s_mu eμ2 ?_
  refine s_aload_n (pc := 5) d_X2_readFrom_5 rfl rfl ?_
  refine s_iconst (pc := 6) (v := 0) d_X2_readFrom_6 (by decide) ?_
  refine s_putI (pc := 7) (k := 1) cl_2 d_X2_readFrom_7 g1 (by decide) w_28 rfl rfl ?_
  obtain ⟨μ3, eμ3, h⟩ := bd_1 h
  refine s_mu eμ3 ?_
  refine s_aload_n (pc := 10) d_X2_readFrom_10 rfl rfl ?_
  refine s_iconst (pc := 11) (v := 0) d_X2_readFrom_11 (by decide) ?_
  refine s_putI (pc := 12) (k := 2) cl_2 d_X2_readFrom_12 g1 (by decide) w_30 rfl rfl ?_
  obtain ⟨μ4, eμ4, h⟩ := bd_1 h
  refine s_mu eμ4 ?_
  refine s_iconst (pc := 15) (v := 1) d_X2_readFrom_15 (by decide) ?_
  refine s_istore_n (pc := 16) (lc' := [some (vr v0), some (vr v1), some (vi v2), some (vi 1), none]) d_X2_readFrom_16 rfl (by decide) rfl ?_
  refine s_iconst (pc := 17) (v := 0) d_X2_readFrom_17 (by decide) ?_
  refine s_istore (pc := 18) (lc' := [some (vr v0), some (vr v1), some (vi v2), some (vi 1), some (vi 0)]) d_X2_readFrom_18 (by decide) rfl ?_
  exact t_X2_readFrom_h20 FU _ _ _ h
/-! StripsOfFour$Strip.begin -/
abbrev c_X5_begin : Cf := (prog_7_method_3_code, 2, "StripsOfFour$Strip", "begin", none, { frames := 0, cells := 0, slots := 0, locals := 0 })
theorem d_X5_begin_0 : decode prog_7_method_3_code 0 = .ok (.aload_n 0, 1) := by decide +kernel
theorem d_X5_begin_1 : decode prog_7_method_3_code 1 = .ok (.iload_n 1, 1) := by decide +kernel
theorem d_X5_begin_2 : decode prog_7_method_3_code 2 = .ok (.putfield 9, 3) := by decide +kernel
theorem d_X5_begin_5 : decode prog_7_method_3_code 5 = .ok (.aload_n 0, 1) := by decide +kernel
theorem d_X5_begin_6 : decode prog_7_method_3_code 6 = .ok (.iconst 0, 1) := by decide +kernel
theorem d_X5_begin_7 : decode prog_7_method_3_code 7 = .ok (.putfield 15, 3) := by decide +kernel
theorem d_X5_begin_10 : decode prog_7_method_3_code 10 = .ok (.aload_n 0, 1) := by decide +kernel
theorem d_X5_begin_11 : decode prog_7_method_3_code 11 = .ok (.iconst 0, 1) := by decide +kernel
theorem d_X5_begin_12 : decode prog_7_method_3_code 12 = .ok (.putfield 18, 3) := by decide +kernel
theorem d_X5_begin_15 : decode prog_7_method_3_code 15 = .ok (.aload_n 0, 1) := by decide +kernel
theorem d_X5_begin_16 : decode prog_7_method_3_code 16 = .ok (.iconst 0, 1) := by decide +kernel
theorem d_X5_begin_17 : decode prog_7_method_3_code 17 = .ok (.putfield 21, 3) := by decide +kernel
theorem d_X5_begin_20 : decode prog_7_method_3_code 20 = .ok (.return_, 1) := by decide +kernel
def m_X5_begin (sh : Sh) (v0 : Nat) (v1 : Int32) (μ : Mu) : Option Mu :=
  gd (iz sh 5 v0) <|
  bd (sI μ v0 0 v1) fun μ2 =>
  bd (sI μ2 v0 1 0) fun μ3 =>
  bd (sI μ3 v0 2 0) fun μ4 =>
  bd (sI μ4 v0 3 0) fun μ5 =>
  some μ5
set_option maxHeartbeats 4000000 in
set_option maxRecDepth 20000 in
theorem t_X5_begin {l : Launch} {G : Gl} {n : Nat} {sh : Sh} {x : Mu} {v0 : Nat} {v1 : Int32} {μ : Mu} (h : m_X5_begin sh v0 v1 μ = some x) : Ct l G ⟨"StripsOfFour$Strip", "begin", "(I)V"⟩ prog_7_method_3_code 2 none { frames := 0, cells := 0, slots := 0, locals := 0 } n sh μ [vr v0, vi v1] none n sh x := by
  refine Ct.of (lc := [some (vr v0), some (vi v1)]) (by decide +kernel) (Nat.le_of_ble_eq_true rfl) rfl ?_
  show Sj l G (QV G n sh x) c_X5_begin n sh 0 0 μ 0 [some (vr v0), some (vi v1)] []
  unfold m_X5_begin at h
  refine s_aload_n (pc := 0) d_X5_begin_0 rfl rfl ?_
  refine s_iload_n (pc := 1) d_X5_begin_1 rfl rfl ?_
  obtain ⟨g1, h⟩ := gd_1 h
  refine s_putI (pc := 2) (k := 0) cl_5 d_X5_begin_2 g1 (by decide) w_62 rfl rfl ?_
  obtain ⟨μ2, eμ2, h⟩ := bd_1 h
  refine s_mu eμ2 ?_
  refine s_aload_n (pc := 5) d_X5_begin_5 rfl rfl ?_
  refine s_iconst (pc := 6) (v := 0) d_X5_begin_6 (by decide) ?_
  refine s_putI (pc := 7) (k := 1) cl_5 d_X5_begin_7 g1 (by decide) w_65 rfl rfl ?_
  obtain ⟨μ3, eμ3, h⟩ := bd_1 h
  refine s_mu eμ3 ?_
  refine s_aload_n (pc := 10) d_X5_begin_10 rfl rfl ?_
  refine s_iconst (pc := 11) (v := 0) d_X5_begin_11 (by decide) ?_
  refine s_putI (pc := 12) (k := 2) cl_5 d_X5_begin_12 g1 (by decide) w_67 rfl rfl ?_
  obtain ⟨μ4, eμ4, h⟩ := bd_1 h
  refine s_mu eμ4 ?_
  refine s_aload_n (pc := 15) d_X5_begin_15 rfl rfl ?_
  refine s_iconst (pc := 16) (v := 0) d_X5_begin_16 (by decide) ?_
  refine s_putI (pc := 17) (k := 3) cl_5 d_X5_begin_17 g1 (by decide) w_71 rfl rfl ?_
  obtain ⟨μ5, eμ5, h⟩ := bd_1 h
  refine s_mu eμ5 ?_
  obtain rfl := Option.some.inj h
  exact s_vret (pc := 20) d_X5_begin_20 rfl
/-! StripsOfFour$Plan.flashesAt -/
abbrev c_X2_flashesAt : Cf := (prog_4_method_11_code, 3, "StripsOfFour$Plan", "flashesAt", (some .boolean), { frames := 3, cells := 0, slots := 0, locals := 65 })
theorem d_X2_flashesAt_0 : decode prog_4_method_11_code 0 = .ok (.aload_n 0, 1) := by decide +kernel
theorem d_X2_flashesAt_1 : decode prog_4_method_11_code 1 = .ok (.iload_n 1, 1) := by decide +kernel
theorem d_X2_flashesAt_2 : decode prog_4_method_11_code 2 = .ok (.invokevirtual 42, 3) := by decide +kernel
theorem d_X2_flashesAt_5 : decode prog_4_method_11_code 5 = .ok (.ifCond .eq 17, 3) := by decide +kernel
theorem d_X2_flashesAt_8 : decode prog_4_method_11_code 8 = .ok (.aload_n 0, 1) := by decide +kernel
theorem d_X2_flashesAt_9 : decode prog_4_method_11_code 9 = .ok (.iload_n 1, 1) := by decide +kernel
theorem d_X2_flashesAt_10 : decode prog_4_method_11_code 10 = .ok (.iload_n 2, 1) := by decide +kernel
theorem d_X2_flashesAt_11 : decode prog_4_method_11_code 11 = .ok (.invokevirtual 54, 3) := by decide +kernel
theorem d_X2_flashesAt_14 : decode prog_4_method_11_code 14 = .ok (.iload_n 2, 1) := by decide +kernel
theorem d_X2_flashesAt_15 : decode prog_4_method_11_code 15 = .ok (.if_icmp .ne 7, 3) := by decide +kernel
theorem d_X2_flashesAt_18 : decode prog_4_method_11_code 18 = .ok (.iconst 1, 1) := by decide +kernel
theorem d_X2_flashesAt_19 : decode prog_4_method_11_code 19 = .ok (.goto 4, 3) := by decide +kernel
theorem d_X2_flashesAt_22 : decode prog_4_method_11_code 22 = .ok (.iconst 0, 1) := by decide +kernel
theorem d_X2_flashesAt_23 : decode prog_4_method_11_code 23 = .ok (.ireturn, 1) := by decide +kernel
def m_X2_flashesAt (sh : Sh) (v0 : Nat) (v1 : Int32) (v2 : Int32) (μ : Mu) : Option (Int32 × Mu) :=
  gd (iz sh 2 v0) <|
  ca2 (m_X2_hasBooth sh v0 v1 μ) fun r2 μ3 =>
  if r2 = 0 then
    some (0, μ3)
  else
    ca2 (m_X2_nextFlash sh v0 v1 v2 μ3) fun r5 μ6 =>
    if r5 = v2 then
      some (1, μ6)
    else
      some (0, μ6)
set_option maxHeartbeats 4000000 in
set_option maxRecDepth 20000 in
theorem t_X2_flashesAt {l : Launch} {G : Gl} {n : Nat} {sh : Sh} {x : Int32 × Mu} {v0 : Nat} {v1 : Int32} {v2 : Int32} {μ : Mu} (h : m_X2_flashesAt sh v0 v1 v2 μ = some x) : Ct l G ⟨"StripsOfFour$Plan", "flashesAt", "(II)Z"⟩ prog_4_method_11_code 3 (some .boolean) { frames := 3, cells := 0, slots := 0, locals := 65 } n sh μ [vr v0, vi v1, vi v2] (some (.int x.1)) n sh x.2 := by
  refine Ct.of (lc := [some (vr v0), some (vi v1), some (vi v2)]) (by decide +kernel) (Nat.le_of_ble_eq_true rfl) rfl ?_
  show Sj l G (QI G n sh x) c_X2_flashesAt n sh 0 0 μ 0 [some (vr v0), some (vi v1), some (vi v2)] []
  unfold m_X2_flashesAt at h
  refine s_aload_n (pc := 0) d_X2_flashesAt_0 rfl rfl ?_
  refine s_iload_n (pc := 1) d_X2_flashesAt_1 rfl rfl ?_
  obtain ⟨g1, h⟩ := gd_1 h
  obtain ⟨r2, μ3, er2, h⟩ := ca2_1 h
  refine s_callV (pc := 2) (as := [vi v1]) (st := []) (vo := [vi r2]) (t_X2_hasBooth er2) cl_2 g1 d_X2_flashesAt_2 y_X2_hasBooth w_255 w_256 w_257 ⟨by decide, by decide⟩ ⟨Nat.le_of_ble_eq_true rfl, Nat.le_of_ble_eq_true rfl⟩ (Nat.le_of_ble_eq_true rfl) rfl rfl rfl ?_
  refine s_as (kc' := 0) (js' := 0) (pc' := 5) (st' := [vi r2]) ⟨rfl, rfl, rfl, rfl⟩ ?_
  refine s_if_eq (pc := 5) (tgt := 22) d_X2_flashesAt_5 (by decide) (fun c4 => ?_) (fun c4 => ?_)
  · have h := it_t c4 h
    refine s_iconst (pc := 22) (v := 0) d_X2_flashesAt_22 (by decide) ?_
    obtain rfl := Option.some.inj h
    exact s_zret0 (pc := 23) rfl d_X2_flashesAt_23 rfl
  · have h := it_f c4 h
    refine s_aload_n (pc := 8) d_X2_flashesAt_8 rfl rfl ?_
    refine s_iload_n (pc := 9) d_X2_flashesAt_9 rfl rfl ?_
    refine s_iload_n (pc := 10) d_X2_flashesAt_10 rfl rfl ?_
    obtain ⟨r5, μ6, er5, h⟩ := ca2_1 h
    refine s_callV (pc := 11) (as := [vi v1, vi v2]) (st := []) (vo := [vi r5]) (t_X2_nextFlash er5) cl_2 g1 d_X2_flashesAt_11 y_X2_nextFlash w_424 w_305 w_306 ⟨by decide, by decide⟩ ⟨Nat.le_of_ble_eq_true rfl, Nat.le_of_ble_eq_true rfl⟩ (Nat.le_of_ble_eq_true rfl) rfl rfl rfl ?_
    refine s_as (kc' := 0) (js' := 0) (pc' := 14) (st' := [vi r5]) ⟨rfl, rfl, rfl, rfl⟩ ?_
    refine s_iload_n (pc := 14) d_X2_flashesAt_14 rfl rfl ?_
    refine s_icmp_ne (pc := 15) (tgt := 22) d_X2_flashesAt_15 (by decide) (fun c7 => ?_) (fun c7 => ?_)
    · have h := it_f c7 h
      refine s_iconst (pc := 22) (v := 0) d_X2_flashesAt_22 (by decide) ?_
      obtain rfl := Option.some.inj h
      exact s_zret0 (pc := 23) rfl d_X2_flashesAt_23 rfl
    · have h := it_t c7 h
      refine s_iconst (pc := 18) (v := 1) d_X2_flashesAt_18 (by decide) ?_
      refine s_goto (pc := 19) (tgt := 23) d_X2_flashesAt_19 (by decide) ?_
      obtain rfl := Option.some.inj h
      exact s_zret0 (pc := 23) rfl d_X2_flashesAt_23 rfl
/-! StripsOfFour$Strip.isWhole -/
abbrev c_X5_isWhole : Cf := (prog_7_method_7_code, 3, "StripsOfFour$Strip", "isWhole", (some .boolean), { frames := 0, cells := 0, slots := 0, locals := 0 })
theorem d_X5_isWhole_0 : decode prog_7_method_7_code 0 = .ok (.aload_n 0, 1) := by decide +kernel
theorem d_X5_isWhole_1 : decode prog_7_method_7_code 1 = .ok (.getfield 18, 3) := by decide +kernel
theorem d_X5_isWhole_4 : decode prog_7_method_7_code 4 = .ok (.iload_n 1, 1) := by decide +kernel
theorem d_X5_isWhole_5 : decode prog_7_method_7_code 5 = .ok (.if_icmp .le 13, 3) := by decide +kernel
theorem d_X5_isWhole_8 : decode prog_7_method_7_code 8 = .ok (.aload_n 0, 1) := by decide +kernel
theorem d_X5_isWhole_9 : decode prog_7_method_7_code 9 = .ok (.getfield 18, 3) := by decide +kernel
theorem d_X5_isWhole_12 : decode prog_7_method_7_code 12 = .ok (.iload_n 1, 1) := by decide +kernel
theorem d_X5_isWhole_13 : decode prog_7_method_7_code 13 = .ok (.iload_n 2, 1) := by decide +kernel
theorem d_X5_isWhole_14 : decode prog_7_method_7_code 14 = .ok (.iadd, 1) := by decide +kernel
theorem d_X5_isWhole_15 : decode prog_7_method_7_code 15 = .ok (.if_icmp .lt 7, 3) := by decide +kernel
theorem d_X5_isWhole_18 : decode prog_7_method_7_code 18 = .ok (.iconst 1, 1) := by decide +kernel
theorem d_X5_isWhole_19 : decode prog_7_method_7_code 19 = .ok (.goto 4, 3) := by decide +kernel
theorem d_X5_isWhole_22 : decode prog_7_method_7_code 22 = .ok (.iconst 0, 1) := by decide +kernel
theorem d_X5_isWhole_23 : decode prog_7_method_7_code 23 = .ok (.ireturn, 1) := by decide +kernel
def m_X5_isWhole_b18 (sh : Sh) (μ : Mu) : Option (Int32 × Mu) :=
  some (1, μ)
def m_X5_isWhole (sh : Sh) (v0 : Nat) (v1 : Int32) (v2 : Int32) (μ : Mu) : Option (Int32 × Mu) :=
  gd (iz sh 5 v0) <|
  if (gI μ v0 2) ≤ v1 then
    m_X5_isWhole_b18 sh μ
  else
    if (gI μ v0 2) < (v1 + v2) then
      some (0, μ)
    else
      m_X5_isWhole_b18 sh μ
set_option maxHeartbeats 4000000 in
set_option maxRecDepth 20000 in
theorem t_X5_isWhole_b18 {l : Launch} {G : Gl} {n : Nat} {sh : Sh} {x : Int32 × Mu} {μ : Mu} (h : m_X5_isWhole_b18 sh μ = some x) : Sj l G (QI G n sh x) c_X5_isWhole n sh 0 0 μ 18 [none, none, none] [] := by
  unfold m_X5_isWhole_b18 at h
  refine s_iconst (pc := 18) (v := 1) d_X5_isWhole_18 (by decide) ?_
  refine s_goto (pc := 19) (tgt := 23) d_X5_isWhole_19 (by decide) ?_
  obtain rfl := Option.some.inj h
  exact s_zret0 (pc := 23) rfl d_X5_isWhole_23 rfl
set_option maxHeartbeats 4000000 in
set_option maxRecDepth 20000 in
theorem t_X5_isWhole {l : Launch} {G : Gl} {n : Nat} {sh : Sh} {x : Int32 × Mu} {v0 : Nat} {v1 : Int32} {v2 : Int32} {μ : Mu} (h : m_X5_isWhole sh v0 v1 v2 μ = some x) : Ct l G ⟨"StripsOfFour$Strip", "isWhole", "(II)Z"⟩ prog_7_method_7_code 3 (some .boolean) { frames := 0, cells := 0, slots := 0, locals := 0 } n sh μ [vr v0, vi v1, vi v2] (some (.int x.1)) n sh x.2 := by
  refine Ct.of (lc := [some (vr v0), some (vi v1), some (vi v2)]) (by decide +kernel) (Nat.le_of_ble_eq_true rfl) rfl ?_
  show Sj l G (QI G n sh x) c_X5_isWhole n sh 0 0 μ 0 [some (vr v0), some (vi v1), some (vi v2)] []
  unfold m_X5_isWhole at h
  refine s_aload_n (pc := 0) d_X5_isWhole_0 rfl rfl ?_
  obtain ⟨g1, h⟩ := gd_1 h
  refine s_getI (pc := 1) (k := 2) cl_5 d_X5_isWhole_1 g1 (by decide) w_67 rfl ?_
  refine s_iload_n (pc := 4) d_X5_isWhole_4 rfl rfl ?_
  refine s_icmp_le (pc := 5) (tgt := 18) d_X5_isWhole_5 (by decide) (fun c2 => ?_) (fun c2 => ?_)
  · have h := it_t c2 h
    refine s_mask [false, false, false] rfl ?_
    exact t_X5_isWhole_b18 h
  · have h := it_f c2 h
    refine s_aload_n (pc := 8) d_X5_isWhole_8 rfl rfl ?_
    refine s_getI (pc := 9) (k := 2) cl_5 d_X5_isWhole_9 g1 (by decide) w_67 rfl ?_
    refine s_iload_n (pc := 12) d_X5_isWhole_12 rfl rfl ?_
    refine s_iload_n (pc := 13) d_X5_isWhole_13 rfl rfl ?_
    refine s_iadd (pc := 14) d_X5_isWhole_14 ?_
    refine s_icmp_lt (pc := 15) (tgt := 22) d_X5_isWhole_15 (by decide) (fun c3 => ?_) (fun c3 => ?_)
    · have h := it_t c3 h
      refine s_iconst (pc := 22) (v := 0) d_X5_isWhole_22 (by decide) ?_
      obtain rfl := Option.some.inj h
      exact s_zret0 (pc := 23) rfl d_X5_isWhole_23 rfl
    · have h := it_f c3 h
      refine s_mask [false, false, false] rfl ?_
      exact t_X5_isWhole_b18 h
/-! StripsOfFour$Strip.<init> -/
abbrev c_X5_init : Cf := (prog_7_method_1_code, 1, "StripsOfFour$Strip", "<init>", none, { frames := 1, cells := 1, slots := 16, locals := 20 })
theorem d_X5_init_0 : decode prog_7_method_1_code 0 = .ok (.aload_n 0, 1) := by decide +kernel
theorem d_X5_init_1 : decode prog_7_method_1_code 1 = .ok (.invokespecial 3, 3) := by decide +kernel
theorem d_X5_init_4 : decode prog_7_method_1_code 4 = .ok (.aload_n 0, 1) := by decide +kernel
theorem d_X5_init_5 : decode prog_7_method_1_code 5 = .ok (.iconst 0, 1) := by decide +kernel
theorem d_X5_init_6 : decode prog_7_method_1_code 6 = .ok (.putfield 9, 3) := by decide +kernel
theorem d_X5_init_9 : decode prog_7_method_1_code 9 = .ok (.aload_n 0, 1) := by decide +kernel
theorem d_X5_init_10 : decode prog_7_method_1_code 10 = .ok (.iconst 0, 1) := by decide +kernel
theorem d_X5_init_11 : decode prog_7_method_1_code 11 = .ok (.putfield 15, 3) := by decide +kernel
theorem d_X5_init_14 : decode prog_7_method_1_code 14 = .ok (.aload_n 0, 1) := by decide +kernel
theorem d_X5_init_15 : decode prog_7_method_1_code 15 = .ok (.iconst 0, 1) := by decide +kernel
theorem d_X5_init_16 : decode prog_7_method_1_code 16 = .ok (.putfield 18, 3) := by decide +kernel
theorem d_X5_init_19 : decode prog_7_method_1_code 19 = .ok (.aload_n 0, 1) := by decide +kernel
theorem d_X5_init_20 : decode prog_7_method_1_code 20 = .ok (.iconst 0, 1) := by decide +kernel
theorem d_X5_init_21 : decode prog_7_method_1_code 21 = .ok (.putfield 21, 3) := by decide +kernel
theorem d_X5_init_24 : decode prog_7_method_1_code 24 = .ok (.aload_n 0, 1) := by decide +kernel
theorem d_X5_init_25 : decode prog_7_method_1_code 25 = .ok (.bipush 16, 2) := by decide +kernel
theorem d_X5_init_27 : decode prog_7_method_1_code 27 = .ok (.newarray .int, 2) := by decide +kernel
theorem d_X5_init_29 : decode prog_7_method_1_code 29 = .ok (.putfield 24, 3) := by decide +kernel
theorem d_X5_init_32 : decode prog_7_method_1_code 32 = .ok (.return_, 1) := by decide +kernel
def m_X5_init (n : Nat) (sh : Sh) (v0 : Nat) (μ : Mu) : Option (Nat × Sh × Mu) :=
  gd (nn0 v0) <|
  gd (iz sh 5 v0) <|
  bd (sI μ v0 0 0) fun μ3 =>
  bd (sI μ3 v0 1 0) fun μ4 =>
  bd (sI μ4 v0 2 0) fun μ5 =>
  bd (sI μ5 v0 3 0) fun μ6 =>
  gd (roomB (0 + 1) 1 (0 + 16) 16) <|
  bd (n + 1) fun n8 =>
  bd (0 + 1) fun kc9 =>
  bd (0 + 16) fun js10 =>
  bd (shn sh n8 8 16) fun sh11 =>
  bd (zr μ6 n8) fun μ12 =>
  gd (iz sh11 5 v0) <|
  bd (sR μ12 v0 4 n8) fun μ14 =>
  gd (eqB kc9 1 js10 16) <|
  some (n8, sh11, μ14)
set_option maxHeartbeats 4000000 in
set_option maxRecDepth 20000 in
theorem t_X5_init {l : Launch} {G : Gl} {n : Nat} {sh : Sh} {x : Nat × Sh × Mu} {v0 : Nat} {μ : Mu} (h : m_X5_init n sh v0 μ = some x) : Ct l G ⟨"StripsOfFour$Strip", "<init>", "()V"⟩ prog_7_method_1_code 1 none { frames := 1, cells := 1, slots := 16, locals := 20 } n sh μ [vr v0] none x.1 x.2.1 x.2.2 := by
  refine Ct.of (lc := [some (vr v0)]) (by decide +kernel) (Nat.le_of_ble_eq_true rfl) rfl ?_
  show Sj l G (QA G 1 16 x) c_X5_init n sh 0 0 μ 0 [some (vr v0)] []
  unfold m_X5_init at h
  refine s_aload_n (pc := 0) d_X5_init_0 rfl rfl ?_
  obtain ⟨g1, h⟩ := gd_1 h
  refine s_objInit (pc := 1) d_X5_init_1 (nn0_eq g1) w_61 w_18 w_19 (by decide) (Nat.le_of_ble_eq_true rfl) ?_
  refine s_aload_n (pc := 4) d_X5_init_4 rfl rfl ?_
  refine s_iconst (pc := 5) (v := 0) d_X5_init_5 (by decide) ?_
  obtain ⟨g2, h⟩ := gd_1 h
  refine s_putI (pc := 6) (k := 0) cl_5 d_X5_init_6 g2 (by decide) w_62 rfl rfl ?_
  obtain ⟨μ3, eμ3, h⟩ := bd_1 h
  refine s_mu eμ3 ?_
  refine s_aload_n (pc := 9) d_X5_init_9 rfl rfl ?_
  refine s_iconst (pc := 10) (v := 0) d_X5_init_10 (by decide) ?_
  refine s_putI (pc := 11) (k := 1) cl_5 d_X5_init_11 g2 (by decide) w_65 rfl rfl ?_
  obtain ⟨μ4, eμ4, h⟩ := bd_1 h
  refine s_mu eμ4 ?_
  refine s_aload_n (pc := 14) d_X5_init_14 rfl rfl ?_
  refine s_iconst (pc := 15) (v := 0) d_X5_init_15 (by decide) ?_
  refine s_putI (pc := 16) (k := 2) cl_5 d_X5_init_16 g2 (by decide) w_67 rfl rfl ?_
  obtain ⟨μ5, eμ5, h⟩ := bd_1 h
  refine s_mu eμ5 ?_
  refine s_aload_n (pc := 19) d_X5_init_19 rfl rfl ?_
  refine s_iconst (pc := 20) (v := 0) d_X5_init_20 (by decide) ?_
  refine s_putI (pc := 21) (k := 3) cl_5 d_X5_init_21 g2 (by decide) w_71 rfl rfl ?_
  obtain ⟨μ6, eμ6, h⟩ := bd_1 h
  refine s_mu eμ6 ?_
  refine s_aload_n (pc := 24) d_X5_init_24 rfl rfl ?_
  refine s_bipush (pc := 25) (v := 16) d_X5_init_25 (by decide) ?_
  obtain ⟨g7, h⟩ := gd_1 h
  refine s_newa (pc := 27) (kd := 8) (ty := .int) (N := 16) (Or.inl ⟨rfl, rfl⟩) d_X5_init_27 rfl w_48 (by decide) (by decide) (by decide) (roomB_eq g7) ?_
  obtain ⟨n8, en8, h⟩ := bd_1 h
  obtain ⟨kc9, ekc9, h⟩ := bd_1 h
  obtain ⟨js10, ejs10, h⟩ := bd_1 h
  obtain ⟨sh11, esh11, h⟩ := bd_1 h
  obtain ⟨μ12, eμ12, h⟩ := bd_1 h
  rw [← en8]
  refine s_nsm (n' := n8) (sh' := sh11) (μ' := μ12) ⟨rfl, esh11, eμ12⟩ ?_
  refine s_as (kc' := kc9) (js' := js10) (pc' := 29) (st' := [vr n8, vr v0]) ⟨ekc9, ejs10, rfl, rfl⟩ ?_
  obtain ⟨g13, h⟩ := gd_1 h
  refine s_putFR (pc := 29) (k := 4) cl_5 d_X5_init_29 g13 (by decide) w_74 rfl rfl rfl (rt_arr _) ?_
  obtain ⟨μ14, eμ14, h⟩ := bd_1 h
  refine s_mu eμ14 ?_
  obtain ⟨g15, h⟩ := gd_1 h
  obtain ⟨ez1, ez2⟩ := eqB_eq g15
  obtain rfl := Option.some.inj h
  refine s_as (kc' := 1) (js' := 16) (pc' := 32) (st' := []) ⟨ez1.symm, ez2.symm, rfl, rfl⟩ ?_
  exact s_vret (pc := 32) d_X5_init_32 rfl
/-! StripsOfFour$Plan.<init> -/
abbrev c_X2_init : Cf := (prog_4_method_1_code, 1, "StripsOfFour$Plan", "<init>", none, { frames := 1, cells := 3, slots := 9, locals := 20 })
theorem d_X2_init_0 : decode prog_4_method_1_code 0 = .ok (.aload_n 0, 1) := by decide +kernel
theorem d_X2_init_1 : decode prog_4_method_1_code 1 = .ok (.invokespecial 3, 3) := by decide +kernel
theorem d_X2_init_4 : decode prog_4_method_1_code 4 = .ok (.aload_n 0, 1) := by decide +kernel
theorem d_X2_init_5 : decode prog_4_method_1_code 5 = .ok (.iconst 0, 1) := by decide +kernel
theorem d_X2_init_6 : decode prog_4_method_1_code 6 = .ok (.putfield 9, 3) := by decide +kernel
theorem d_X2_init_9 : decode prog_4_method_1_code 9 = .ok (.aload_n 0, 1) := by decide +kernel
theorem d_X2_init_10 : decode prog_4_method_1_code 10 = .ok (.iconst 0, 1) := by decide +kernel
theorem d_X2_init_11 : decode prog_4_method_1_code 11 = .ok (.putfield 15, 3) := by decide +kernel
theorem d_X2_init_14 : decode prog_4_method_1_code 14 = .ok (.aload_n 0, 1) := by decide +kernel
theorem d_X2_init_15 : decode prog_4_method_1_code 15 = .ok (.iconst 0, 1) := by decide +kernel
theorem d_X2_init_16 : decode prog_4_method_1_code 16 = .ok (.putfield 18, 3) := by decide +kernel
theorem d_X2_init_19 : decode prog_4_method_1_code 19 = .ok (.aload_n 0, 1) := by decide +kernel
theorem d_X2_init_20 : decode prog_4_method_1_code 20 = .ok (.iconst 2, 1) := by decide +kernel
theorem d_X2_init_21 : decode prog_4_method_1_code 21 = .ok (.newarray .int, 2) := by decide +kernel
theorem d_X2_init_23 : decode prog_4_method_1_code 23 = .ok (.putfield 21, 3) := by decide +kernel
theorem d_X2_init_26 : decode prog_4_method_1_code 26 = .ok (.aload_n 0, 1) := by decide +kernel
theorem d_X2_init_27 : decode prog_4_method_1_code 27 = .ok (.iconst 2, 1) := by decide +kernel
theorem d_X2_init_28 : decode prog_4_method_1_code 28 = .ok (.newarray .int, 2) := by decide +kernel
theorem d_X2_init_30 : decode prog_4_method_1_code 30 = .ok (.putfield 25, 3) := by decide +kernel
theorem d_X2_init_33 : decode prog_4_method_1_code 33 = .ok (.aload_n 0, 1) := by decide +kernel
theorem d_X2_init_34 : decode prog_4_method_1_code 34 = .ok (.iconst 5, 1) := by decide +kernel
theorem d_X2_init_35 : decode prog_4_method_1_code 35 = .ok (.newarray .int, 2) := by decide +kernel
theorem d_X2_init_37 : decode prog_4_method_1_code 37 = .ok (.putfield 28, 3) := by decide +kernel
theorem d_X2_init_40 : decode prog_4_method_1_code 40 = .ok (.return_, 1) := by decide +kernel
def m_X2_init (n : Nat) (sh : Sh) (v0 : Nat) (μ : Mu) : Option (Nat × Sh × Mu) :=
  gd (nn0 v0) <|
  gd (iz sh 2 v0) <|
  bd (sI μ v0 0 0) fun μ3 =>
  bd (sI μ3 v0 1 0) fun μ4 =>
  bd (sI μ4 v0 2 0) fun μ5 =>
  gd (roomB (0 + 1) 3 (0 + 2) 9) <|
  bd (n + 1) fun n7 =>
  bd (0 + 1) fun kc8 =>
  bd (0 + 2) fun js9 =>
  bd (shn sh n7 8 2) fun sh10 =>
  bd (zr μ5 n7) fun μ11 =>
  gd (iz sh10 2 v0) <|
  bd (sR μ11 v0 3 n7) fun μ13 =>
  gd (roomB (kc8 + 1) 3 (js9 + 2) 9) <|
  bd (n7 + 1) fun n15 =>
  bd (kc8 + 1) fun kc16 =>
  bd (js9 + 2) fun js17 =>
  bd (shn sh10 n15 8 2) fun sh18 =>
  bd (zr μ13 n15) fun μ19 =>
  gd (iz sh18 2 v0) <|
  bd (sR μ19 v0 4 n15) fun μ21 =>
  gd (roomB (kc16 + 1) 3 (js17 + 5) 9) <|
  bd (n15 + 1) fun n23 =>
  bd (kc16 + 1) fun kc24 =>
  bd (js17 + 5) fun js25 =>
  bd (shn sh18 n23 8 5) fun sh26 =>
  bd (zr μ21 n23) fun μ27 =>
  gd (iz sh26 2 v0) <|
  bd (sR μ27 v0 5 n23) fun μ29 =>
  gd (eqB kc24 3 js25 9) <|
  some (n23, sh26, μ29)
set_option maxHeartbeats 4000000 in
set_option maxRecDepth 20000 in
theorem t_X2_init {l : Launch} {G : Gl} {n : Nat} {sh : Sh} {x : Nat × Sh × Mu} {v0 : Nat} {μ : Mu} (h : m_X2_init n sh v0 μ = some x) : Ct l G ⟨"StripsOfFour$Plan", "<init>", "()V"⟩ prog_4_method_1_code 1 none { frames := 1, cells := 3, slots := 9, locals := 20 } n sh μ [vr v0] none x.1 x.2.1 x.2.2 := by
  refine Ct.of (lc := [some (vr v0)]) (by decide +kernel) (Nat.le_of_ble_eq_true rfl) rfl ?_
  show Sj l G (QA G 3 9 x) c_X2_init n sh 0 0 μ 0 [some (vr v0)] []
  unfold m_X2_init at h
  refine s_aload_n (pc := 0) d_X2_init_0 rfl rfl ?_
  obtain ⟨g1, h⟩ := gd_1 h
  refine s_objInit (pc := 1) d_X2_init_1 (nn0_eq g1) w_25 w_18 w_19 (by decide) (Nat.le_of_ble_eq_true rfl) ?_
  refine s_aload_n (pc := 4) d_X2_init_4 rfl rfl ?_
  refine s_iconst (pc := 5) (v := 0) d_X2_init_5 (by decide) ?_
  obtain ⟨g2, h⟩ := gd_1 h
  refine s_putI (pc := 6) (k := 0) cl_2 d_X2_init_6 g2 (by decide) w_26 rfl rfl ?_
  obtain ⟨μ3, eμ3, h⟩ := bd_1 h
  refine s_mu eμ3 ?_
  refine s_aload_n (pc := 9) d_X2_init_9 rfl rfl ?_
  refine s_iconst (pc := 10) (v := 0) d_X2_init_10 (by decide) ?_
  refine s_putI (pc := 11) (k := 1) cl_2 d_X2_init_11 g2 (by decide) w_28 rfl rfl ?_
  obtain ⟨μ4, eμ4, h⟩ := bd_1 h
  refine s_mu eμ4 ?_
  refine s_aload_n (pc := 14) d_X2_init_14 rfl rfl ?_
  refine s_iconst (pc := 15) (v := 0) d_X2_init_15 (by decide) ?_
  refine s_putI (pc := 16) (k := 2) cl_2 d_X2_init_16 g2 (by decide) w_30 rfl rfl ?_
  obtain ⟨μ5, eμ5, h⟩ := bd_1 h
  refine s_mu eμ5 ?_
  refine s_aload_n (pc := 19) d_X2_init_19 rfl rfl ?_
  refine s_iconst (pc := 20) (v := 2) d_X2_init_20 (by decide) ?_
  obtain ⟨g6, h⟩ := gd_1 h
  refine s_newa (pc := 21) (kd := 8) (ty := .int) (N := 2) (Or.inl ⟨rfl, rfl⟩) d_X2_init_21 rfl w_48 (by decide) (by decide) (by decide) (roomB_eq g6) ?_
  obtain ⟨n7, en7, h⟩ := bd_1 h
  obtain ⟨kc8, ekc8, h⟩ := bd_1 h
  obtain ⟨js9, ejs9, h⟩ := bd_1 h
  obtain ⟨sh10, esh10, h⟩ := bd_1 h
  obtain ⟨μ11, eμ11, h⟩ := bd_1 h
  rw [← en7]
  refine s_nsm (n' := n7) (sh' := sh10) (μ' := μ11) ⟨rfl, esh10, eμ11⟩ ?_
  refine s_as (kc' := kc8) (js' := js9) (pc' := 23) (st' := [vr n7, vr v0]) ⟨ekc8, ejs9, rfl, rfl⟩ ?_
  obtain ⟨g12, h⟩ := gd_1 h
  refine s_putFR (pc := 23) (k := 3) cl_2 d_X2_init_23 g12 (by decide) w_32 rfl rfl rfl (rt_arr _) ?_
  obtain ⟨μ13, eμ13, h⟩ := bd_1 h
  refine s_mu eμ13 ?_
  refine s_aload_n (pc := 26) d_X2_init_26 rfl rfl ?_
  refine s_iconst (pc := 27) (v := 2) d_X2_init_27 (by decide) ?_
  obtain ⟨g14, h⟩ := gd_1 h
  refine s_newa (pc := 28) (kd := 8) (ty := .int) (N := 2) (Or.inl ⟨rfl, rfl⟩) d_X2_init_28 rfl w_48 (by decide) (by decide) (by decide) (roomB_eq g14) ?_
  obtain ⟨n15, en15, h⟩ := bd_1 h
  obtain ⟨kc16, ekc16, h⟩ := bd_1 h
  obtain ⟨js17, ejs17, h⟩ := bd_1 h
  obtain ⟨sh18, esh18, h⟩ := bd_1 h
  obtain ⟨μ19, eμ19, h⟩ := bd_1 h
  rw [← en15]
  refine s_nsm (n' := n15) (sh' := sh18) (μ' := μ19) ⟨rfl, esh18, eμ19⟩ ?_
  refine s_as (kc' := kc16) (js' := js17) (pc' := 30) (st' := [vr n15, vr v0]) ⟨ekc16, ejs17, rfl, rfl⟩ ?_
  obtain ⟨g20, h⟩ := gd_1 h
  refine s_putFR (pc := 30) (k := 4) cl_2 d_X2_init_30 g20 (by decide) w_33 rfl rfl rfl (rt_arr _) ?_
  obtain ⟨μ21, eμ21, h⟩ := bd_1 h
  refine s_mu eμ21 ?_
  refine s_aload_n (pc := 33) d_X2_init_33 rfl rfl ?_
  refine s_iconst (pc := 34) (v := 5) d_X2_init_34 (by decide) ?_
  obtain ⟨g22, h⟩ := gd_1 h
  refine s_newa (pc := 35) (kd := 8) (ty := .int) (N := 5) (Or.inl ⟨rfl, rfl⟩) d_X2_init_35 rfl w_48 (by decide) (by decide) (by decide) (roomB_eq g22) ?_
  obtain ⟨n23, en23, h⟩ := bd_1 h
  obtain ⟨kc24, ekc24, h⟩ := bd_1 h
  obtain ⟨js25, ejs25, h⟩ := bd_1 h
  obtain ⟨sh26, esh26, h⟩ := bd_1 h
  obtain ⟨μ27, eμ27, h⟩ := bd_1 h
  rw [← en23]
  refine s_nsm (n' := n23) (sh' := sh26) (μ' := μ27) ⟨rfl, esh26, eμ27⟩ ?_
  refine s_as (kc' := kc24) (js' := js25) (pc' := 37) (st' := [vr n23, vr v0]) ⟨ekc24, ejs25, rfl, rfl⟩ ?_
  obtain ⟨g28, h⟩ := gd_1 h
  refine s_putFR (pc := 37) (k := 5) cl_2 d_X2_init_37 g28 (by decide) w_34 rfl rfl rfl (rt_arr _) ?_
  obtain ⟨μ29, eμ29, h⟩ := bd_1 h
  refine s_mu eμ29 ?_
  obtain ⟨g30, h⟩ := gd_1 h
  obtain ⟨ez1, ez2⟩ := eqB_eq g30
  obtain rfl := Option.some.inj h
  refine s_as (kc' := 3) (js' := 9) (pc' := 40) (st' := []) ⟨ez1.symm, ez2.symm, rfl, rfl⟩ ?_
  exact s_vret (pc := 40) d_X2_init_40 rfl
/-! StripsOfFour$Plan.tenthsOf -/
abbrev c_X2_tenthsOf : Cf := (prog_4_method_10_code, 2, "StripsOfFour$Plan", "tenthsOf", (some .int), { frames := 1, cells := 0, slots := 0, locals := 21 })
theorem d_X2_tenthsOf_0 : decode prog_4_method_10_code 0 = .ok (.aload_n 0, 1) := by decide +kernel
theorem d_X2_tenthsOf_1 : decode prog_4_method_10_code 1 = .ok (.iload_n 1, 1) := by decide +kernel
theorem d_X2_tenthsOf_2 : decode prog_4_method_10_code 2 = .ok (.invokevirtual 46, 3) := by decide +kernel
theorem d_X2_tenthsOf_5 : decode prog_4_method_10_code 5 = .ok (.ifCond .eq 12, 3) := by decide +kernel
theorem d_X2_tenthsOf_8 : decode prog_4_method_10_code 8 = .ok (.aload_n 0, 1) := by decide +kernel
theorem d_X2_tenthsOf_9 : decode prog_4_method_10_code 9 = .ok (.getfield 28, 3) := by decide +kernel
theorem d_X2_tenthsOf_12 : decode prog_4_method_10_code 12 = .ok (.iload_n 1, 1) := by decide +kernel
theorem d_X2_tenthsOf_13 : decode prog_4_method_10_code 13 = .ok (.iaload, 1) := by decide +kernel
theorem d_X2_tenthsOf_14 : decode prog_4_method_10_code 14 = .ok (.goto 4, 3) := by decide +kernel
theorem d_X2_tenthsOf_17 : decode prog_4_method_10_code 17 = .ok (.iconst 0, 1) := by decide +kernel
theorem d_X2_tenthsOf_18 : decode prog_4_method_10_code 18 = .ok (.ireturn, 1) := by decide +kernel
def m_X2_tenthsOf (sh : Sh) (v0 : Nat) (v1 : Int32) (μ : Mu) : Option (Int32 × Mu) :=
  gd (iz sh 2 v0) <|
  ca2 (m_X2_hasPerson sh v0 v1 μ) fun r2 μ3 =>
  if r2 = 0 then
    some (0, μ3)
  else
    bd (gR μ3 v0 5) fun a5 =>
    gd (ix sh 8 a5 v1) <|
    bd (gI μ3 a5 v1.toNatClampNeg) fun w7 =>
    some (w7, μ3)
set_option maxHeartbeats 4000000 in
set_option maxRecDepth 20000 in
theorem t_X2_tenthsOf {l : Launch} {G : Gl} {n : Nat} {sh : Sh} {x : Int32 × Mu} {v0 : Nat} {v1 : Int32} {μ : Mu} (h : m_X2_tenthsOf sh v0 v1 μ = some x) : Ct l G ⟨"StripsOfFour$Plan", "tenthsOf", "(I)I"⟩ prog_4_method_10_code 2 (some .int) { frames := 1, cells := 0, slots := 0, locals := 21 } n sh μ [vr v0, vi v1] (some (.int x.1)) n sh x.2 := by
  refine Ct.of (lc := [some (vr v0), some (vi v1)]) (by decide +kernel) (Nat.le_of_ble_eq_true rfl) rfl ?_
  show Sj l G (QI G n sh x) c_X2_tenthsOf n sh 0 0 μ 0 [some (vr v0), some (vi v1)] []
  unfold m_X2_tenthsOf at h
  refine s_aload_n (pc := 0) d_X2_tenthsOf_0 rfl rfl ?_
  refine s_iload_n (pc := 1) d_X2_tenthsOf_1 rfl rfl ?_
  obtain ⟨g1, h⟩ := gd_1 h
  obtain ⟨r2, μ3, er2, h⟩ := ca2_1 h
  refine s_callV (pc := 2) (as := [vi v1]) (st := []) (vo := [vi r2]) (t_X2_hasPerson er2) cl_2 g1 d_X2_tenthsOf_2 y_X2_hasPerson w_259 w_260 w_261 ⟨by decide, by decide⟩ ⟨Nat.le_of_ble_eq_true rfl, Nat.le_of_ble_eq_true rfl⟩ (Nat.le_of_ble_eq_true rfl) rfl rfl rfl ?_
  refine s_as (kc' := 0) (js' := 0) (pc' := 5) (st' := [vi r2]) ⟨rfl, rfl, rfl, rfl⟩ ?_
  refine s_if_eq (pc := 5) (tgt := 17) d_X2_tenthsOf_5 (by decide) (fun c4 => ?_) (fun c4 => ?_)
  · have h := it_t c4 h
    refine s_iconst (pc := 17) (v := 0) d_X2_tenthsOf_17 (by decide) ?_
    obtain rfl := Option.some.inj h
    exact s_iret (pc := 18) d_X2_tenthsOf_18 rfl
  · have h := it_f c4 h
    refine s_aload_n (pc := 8) d_X2_tenthsOf_8 rfl rfl ?_
    refine s_getR (pc := 9) (k := 5) cl_2 d_X2_tenthsOf_9 g1 (by decide) w_34 (rt_arr _) ?_
    obtain ⟨a5, ea5, h⟩ := bd_1 h
    refine s_topR ea5 ?_
    refine s_iload_n (pc := 12) d_X2_tenthsOf_12 rfl rfl ?_
    obtain ⟨g6, h⟩ := gd_1 h
    refine s_iald (pc := 13) d_X2_tenthsOf_13 g6 ?_
    obtain ⟨w7, ew7, h⟩ := bd_1 h
    refine s_topI ew7 ?_
    refine s_goto (pc := 14) (tgt := 18) d_X2_tenthsOf_14 (by decide) ?_
    obtain rfl := Option.some.inj h
    exact s_iret (pc := 18) d_X2_tenthsOf_18 rfl
/-! StripsOfFour$Strip.take -/
abbrev c_X5_take : Cf := (prog_7_method_4_code, 6, "StripsOfFour$Strip", "take", none, { frames := 0, cells := 0, slots := 0, locals := 0 })
theorem d_X5_take_0 : decode prog_7_method_4_code 0 = .ok (.aload_n 0, 1) := by decide +kernel
theorem d_X5_take_1 : decode prog_7_method_4_code 1 = .ok (.getfield 15, 3) := by decide +kernel
theorem d_X5_take_4 : decode prog_7_method_4_code 4 = .ok (.iconst 4, 1) := by decide +kernel
theorem d_X5_take_5 : decode prog_7_method_4_code 5 = .ok (.imul, 1) := by decide +kernel
theorem d_X5_take_6 : decode prog_7_method_4_code 6 = .ok (.istore 5, 2) := by decide +kernel
theorem d_X5_take_8 : decode prog_7_method_4_code 8 = .ok (.iload 5, 2) := by decide +kernel
theorem d_X5_take_10 : decode prog_7_method_4_code 10 = .ok (.ifCond .lt 15, 3) := by decide +kernel
theorem d_X5_take_13 : decode prog_7_method_4_code 13 = .ok (.iload 5, 2) := by decide +kernel
theorem d_X5_take_15 : decode prog_7_method_4_code 15 = .ok (.iconst 4, 1) := by decide +kernel
theorem d_X5_take_16 : decode prog_7_method_4_code 16 = .ok (.iadd, 1) := by decide +kernel
theorem d_X5_take_17 : decode prog_7_method_4_code 17 = .ok (.aload_n 0, 1) := by decide +kernel
theorem d_X5_take_18 : decode prog_7_method_4_code 18 = .ok (.getfield 24, 3) := by decide +kernel
theorem d_X5_take_21 : decode prog_7_method_4_code 21 = .ok (.arraylength, 1) := by decide +kernel
theorem d_X5_take_22 : decode prog_7_method_4_code 22 = .ok (.if_icmp .le 4, 3) := by decide +kernel
theorem d_X5_take_25 : decode prog_7_method_4_code 25 = .ok (.return_, 1) := by decide +kernel
theorem d_X5_take_26 : decode prog_7_method_4_code 26 = .ok (.aload_n 0, 1) := by decide +kernel
theorem d_X5_take_27 : decode prog_7_method_4_code 27 = .ok (.getfield 24, 3) := by decide +kernel
theorem d_X5_take_30 : decode prog_7_method_4_code 30 = .ok (.iload 5, 2) := by decide +kernel
theorem d_X5_take_32 : decode prog_7_method_4_code 32 = .ok (.iconst 0, 1) := by decide +kernel
theorem d_X5_take_33 : decode prog_7_method_4_code 33 = .ok (.iadd, 1) := by decide +kernel
theorem d_X5_take_34 : decode prog_7_method_4_code 34 = .ok (.iload_n 1, 1) := by decide +kernel
theorem d_X5_take_35 : decode prog_7_method_4_code 35 = .ok (.iastore, 1) := by decide +kernel
theorem d_X5_take_36 : decode prog_7_method_4_code 36 = .ok (.aload_n 0, 1) := by decide +kernel
theorem d_X5_take_37 : decode prog_7_method_4_code 37 = .ok (.getfield 24, 3) := by decide +kernel
theorem d_X5_take_40 : decode prog_7_method_4_code 40 = .ok (.iload 5, 2) := by decide +kernel
theorem d_X5_take_42 : decode prog_7_method_4_code 42 = .ok (.iconst 1, 1) := by decide +kernel
theorem d_X5_take_43 : decode prog_7_method_4_code 43 = .ok (.iadd, 1) := by decide +kernel
theorem d_X5_take_44 : decode prog_7_method_4_code 44 = .ok (.iload_n 2, 1) := by decide +kernel
theorem d_X5_take_45 : decode prog_7_method_4_code 45 = .ok (.iastore, 1) := by decide +kernel
theorem d_X5_take_46 : decode prog_7_method_4_code 46 = .ok (.aload_n 0, 1) := by decide +kernel
theorem d_X5_take_47 : decode prog_7_method_4_code 47 = .ok (.getfield 24, 3) := by decide +kernel
theorem d_X5_take_50 : decode prog_7_method_4_code 50 = .ok (.iload 5, 2) := by decide +kernel
theorem d_X5_take_52 : decode prog_7_method_4_code 52 = .ok (.iconst 2, 1) := by decide +kernel
theorem d_X5_take_53 : decode prog_7_method_4_code 53 = .ok (.iadd, 1) := by decide +kernel
theorem d_X5_take_54 : decode prog_7_method_4_code 54 = .ok (.iload_n 3, 1) := by decide +kernel
theorem d_X5_take_55 : decode prog_7_method_4_code 55 = .ok (.iastore, 1) := by decide +kernel
theorem d_X5_take_56 : decode prog_7_method_4_code 56 = .ok (.aload_n 0, 1) := by decide +kernel
theorem d_X5_take_57 : decode prog_7_method_4_code 57 = .ok (.getfield 24, 3) := by decide +kernel
theorem d_X5_take_60 : decode prog_7_method_4_code 60 = .ok (.iload 5, 2) := by decide +kernel
theorem d_X5_take_62 : decode prog_7_method_4_code 62 = .ok (.iconst 3, 1) := by decide +kernel
theorem d_X5_take_63 : decode prog_7_method_4_code 63 = .ok (.iadd, 1) := by decide +kernel
theorem d_X5_take_64 : decode prog_7_method_4_code 64 = .ok (.iload 4, 2) := by decide +kernel
theorem d_X5_take_66 : decode prog_7_method_4_code 66 = .ok (.iastore, 1) := by decide +kernel
theorem d_X5_take_67 : decode prog_7_method_4_code 67 = .ok (.aload_n 0, 1) := by decide +kernel
theorem d_X5_take_68 : decode prog_7_method_4_code 68 = .ok (.dup, 1) := by decide +kernel
theorem d_X5_take_69 : decode prog_7_method_4_code 69 = .ok (.getfield 15, 3) := by decide +kernel
theorem d_X5_take_72 : decode prog_7_method_4_code 72 = .ok (.iconst 1, 1) := by decide +kernel
theorem d_X5_take_73 : decode prog_7_method_4_code 73 = .ok (.iadd, 1) := by decide +kernel
theorem d_X5_take_74 : decode prog_7_method_4_code 74 = .ok (.putfield 15, 3) := by decide +kernel
theorem d_X5_take_77 : decode prog_7_method_4_code 77 = .ok (.return_, 1) := by decide +kernel
def m_X5_take (sh : Sh) (v0 : Nat) (v1 : Int32) (v2 : Int32) (v3 : Int32) (v4 : Int32) (μ : Mu) : Option Mu :=
  gd (iz sh 5 v0) <|
  bd ((gI μ v0 1) * 4) fun w2 =>
  if w2 < 0 then
    some μ
  else
    bd (gR μ v0 4) fun a4 =>
    gd (iz sh 8 a4) <|
    if (w2 + 4) ≤ (nI (sh a4).2) then
      bd (gR μ v0 4) fun a7 =>
      gd (ix sh 8 a7 (w2 + 0)) <|
      bd (sI μ a7 (w2 + 0).toNatClampNeg v1) fun μ9 =>
      bd (gR μ9 v0 4) fun a10 =>
      gd (ix sh 8 a10 (w2 + 1)) <|
      bd (sI μ9 a10 (w2 + 1).toNatClampNeg v2) fun μ12 =>
      bd (gR μ12 v0 4) fun a13 =>
      gd (ix sh 8 a13 (w2 + 2)) <|
      bd (sI μ12 a13 (w2 + 2).toNatClampNeg v3) fun μ15 =>
      bd (gR μ15 v0 4) fun a16 =>
      gd (ix sh 8 a16 (w2 + 3)) <|
      bd (sI μ15 a16 (w2 + 3).toNatClampNeg v4) fun μ18 =>
      bd (sI μ18 v0 1 ((gI μ18 v0 1) + 1)) fun μ19 =>
      some μ19
    else
      some μ
set_option maxHeartbeats 4000000 in
set_option maxRecDepth 20000 in
theorem t_X5_take {l : Launch} {G : Gl} {n : Nat} {sh : Sh} {x : Mu} {v0 : Nat} {v1 : Int32} {v2 : Int32} {v3 : Int32} {v4 : Int32} {μ : Mu} (h : m_X5_take sh v0 v1 v2 v3 v4 μ = some x) : Ct l G ⟨"StripsOfFour$Strip", "take", "(IIII)V"⟩ prog_7_method_4_code 6 none { frames := 0, cells := 0, slots := 0, locals := 0 } n sh μ [vr v0, vi v1, vi v2, vi v3, vi v4] none n sh x := by
  refine Ct.of (lc := [some (vr v0), some (vi v1), some (vi v2), some (vi v3), some (vi v4), none]) (by decide +kernel) (Nat.le_of_ble_eq_true rfl) rfl ?_
  show Sj l G (QV G n sh x) c_X5_take n sh 0 0 μ 0 [some (vr v0), some (vi v1), some (vi v2), some (vi v3), some (vi v4), none] []
  unfold m_X5_take at h
  refine s_aload_n (pc := 0) d_X5_take_0 rfl rfl ?_
  obtain ⟨g1, h⟩ := gd_1 h
  refine s_getI (pc := 1) (k := 1) cl_5 d_X5_take_1 g1 (by decide) w_65 rfl ?_
  refine s_iconst (pc := 4) (v := 4) d_X5_take_4 (by decide) ?_
  refine s_imul (pc := 5) d_X5_take_5 ?_
  obtain ⟨w2, ew2, h⟩ := bd_1 h
  refine s_topI ew2 ?_
  refine s_istore (pc := 6) (lc' := [some (vr v0), some (vi v1), some (vi v2), some (vi v3), some (vi v4), some (vi w2)]) d_X5_take_6 (by decide) rfl ?_
  refine s_iload (pc := 8) d_X5_take_8 rfl ?_
  refine s_if_lt (pc := 10) (tgt := 25) d_X5_take_10 (by decide) (fun c3 => ?_) (fun c3 => ?_)
  · have h := it_t c3 h
    obtain rfl := Option.some.inj h
    exact s_vret (pc := 25) d_X5_take_25 rfl
  · have h := it_f c3 h
    refine s_iload (pc := 13) d_X5_take_13 rfl ?_
    refine s_iconst (pc := 15) (v := 4) d_X5_take_15 (by decide) ?_
    refine s_iadd (pc := 16) d_X5_take_16 ?_
    refine s_aload_n (pc := 17) d_X5_take_17 rfl rfl ?_
    refine s_getR (pc := 18) (k := 4) cl_5 d_X5_take_18 g1 (by decide) w_74 (rt_arr _) ?_
    obtain ⟨a4, ea4, h⟩ := bd_1 h
    refine s_topR ea4 ?_
    obtain ⟨g5, h⟩ := gd_1 h
    refine s_alen8 (pc := 21) d_X5_take_21 g5 ?_
    refine s_icmp_le (pc := 22) (tgt := 26) d_X5_take_22 (by decide) (fun c6 => ?_) (fun c6 => ?_)
    · have h := it_t c6 h
      refine s_aload_n (pc := 26) d_X5_take_26 rfl rfl ?_
      refine s_getR (pc := 27) (k := 4) cl_5 d_X5_take_27 g1 (by decide) w_74 (rt_arr _) ?_
      obtain ⟨a7, ea7, h⟩ := bd_1 h
      refine s_topR ea7 ?_
      refine s_iload (pc := 30) d_X5_take_30 rfl ?_
      refine s_iconst (pc := 32) (v := 0) d_X5_take_32 (by decide) ?_
      refine s_iadd (pc := 33) d_X5_take_33 ?_
      refine s_iload_n (pc := 34) d_X5_take_34 rfl rfl ?_
      obtain ⟨g8, h⟩ := gd_1 h
      refine s_iast (pc := 35) d_X5_take_35 g8 ?_
      obtain ⟨μ9, eμ9, h⟩ := bd_1 h
      refine s_mu eμ9 ?_
      refine s_aload_n (pc := 36) d_X5_take_36 rfl rfl ?_
      refine s_getR (pc := 37) (k := 4) cl_5 d_X5_take_37 g1 (by decide) w_74 (rt_arr _) ?_
      obtain ⟨a10, ea10, h⟩ := bd_1 h
      refine s_topR ea10 ?_
      refine s_iload (pc := 40) d_X5_take_40 rfl ?_
      refine s_iconst (pc := 42) (v := 1) d_X5_take_42 (by decide) ?_
      refine s_iadd (pc := 43) d_X5_take_43 ?_
      refine s_iload_n (pc := 44) d_X5_take_44 rfl rfl ?_
      obtain ⟨g11, h⟩ := gd_1 h
      refine s_iast (pc := 45) d_X5_take_45 g11 ?_
      obtain ⟨μ12, eμ12, h⟩ := bd_1 h
      refine s_mu eμ12 ?_
      refine s_aload_n (pc := 46) d_X5_take_46 rfl rfl ?_
      refine s_getR (pc := 47) (k := 4) cl_5 d_X5_take_47 g1 (by decide) w_74 (rt_arr _) ?_
      obtain ⟨a13, ea13, h⟩ := bd_1 h
      refine s_topR ea13 ?_
      refine s_iload (pc := 50) d_X5_take_50 rfl ?_
      refine s_iconst (pc := 52) (v := 2) d_X5_take_52 (by decide) ?_
      refine s_iadd (pc := 53) d_X5_take_53 ?_
      refine s_iload_n (pc := 54) d_X5_take_54 rfl rfl ?_
      obtain ⟨g14, h⟩ := gd_1 h
      refine s_iast (pc := 55) d_X5_take_55 g14 ?_
      obtain ⟨μ15, eμ15, h⟩ := bd_1 h
      refine s_mu eμ15 ?_
      refine s_aload_n (pc := 56) d_X5_take_56 rfl rfl ?_
      refine s_getR (pc := 57) (k := 4) cl_5 d_X5_take_57 g1 (by decide) w_74 (rt_arr _) ?_
      obtain ⟨a16, ea16, h⟩ := bd_1 h
      refine s_topR ea16 ?_
      refine s_iload (pc := 60) d_X5_take_60 rfl ?_
      refine s_iconst (pc := 62) (v := 3) d_X5_take_62 (by decide) ?_
      refine s_iadd (pc := 63) d_X5_take_63 ?_
      refine s_iload (pc := 64) d_X5_take_64 rfl ?_
      obtain ⟨g17, h⟩ := gd_1 h
      refine s_iast (pc := 66) d_X5_take_66 g17 ?_
      obtain ⟨μ18, eμ18, h⟩ := bd_1 h
      refine s_mu eμ18 ?_
      refine s_aload_n (pc := 67) d_X5_take_67 rfl rfl ?_
      refine s_dup (pc := 68) d_X5_take_68 rfl ?_
      refine s_getI (pc := 69) (k := 1) cl_5 d_X5_take_69 g1 (by decide) w_65 rfl ?_
      refine s_iconst (pc := 72) (v := 1) d_X5_take_72 (by decide) ?_
      refine s_iadd (pc := 73) d_X5_take_73 ?_
      refine s_putI (pc := 74) (k := 1) cl_5 d_X5_take_74 g1 (by decide) w_65 rfl rfl ?_
      obtain ⟨μ19, eμ19, h⟩ := bd_1 h
      refine s_mu eμ19 ?_
      obtain rfl := Option.some.inj h
      exact s_vret (pc := 77) d_X5_take_77 rfl
    · have h := it_f c6 h
      obtain rfl := Option.some.inj h
      exact s_vret (pc := 25) d_X5_take_25 rfl
/-! StripsOfFour$Plan.flashesBetween -/
abbrev c_X2_flashesBetween : Cf := (prog_4_method_13_code, 5, "StripsOfFour$Plan", "flashesBetween", (some .int), { frames := 3, cells := 0, slots := 0, locals := 65 })
theorem d_X2_flashesBetween_0 : decode prog_4_method_13_code 0 = .ok (.aload_n 0, 1) := by decide +kernel
theorem d_X2_flashesBetween_1 : decode prog_4_method_13_code 1 = .ok (.iload_n 1, 1) := by decide +kernel
theorem d_X2_flashesBetween_2 : decode prog_4_method_13_code 2 = .ok (.iload_n 2, 1) := by decide +kernel
theorem d_X2_flashesBetween_3 : decode prog_4_method_13_code 3 = .ok (.invokevirtual 54, 3) := by decide +kernel
theorem d_X2_flashesBetween_6 : decode prog_4_method_13_code 6 = .ok (.istore 4, 2) := by decide +kernel
theorem d_X2_flashesBetween_8 : decode prog_4_method_13_code 8 = .ok (.iload 4, 2) := by decide +kernel
theorem d_X2_flashesBetween_10 : decode prog_4_method_13_code 10 = .ok (.iload_n 3, 1) := by decide +kernel
theorem d_X2_flashesBetween_11 : decode prog_4_method_13_code 11 = .ok (.if_icmp .le 7, 3) := by decide +kernel
theorem d_X2_flashesBetween_14 : decode prog_4_method_13_code 14 = .ok (.iconst 0, 1) := by decide +kernel
theorem d_X2_flashesBetween_15 : decode prog_4_method_13_code 15 = .ok (.goto 15, 3) := by decide +kernel
theorem d_X2_flashesBetween_18 : decode prog_4_method_13_code 18 = .ok (.iload_n 3, 1) := by decide +kernel
theorem d_X2_flashesBetween_19 : decode prog_4_method_13_code 19 = .ok (.iload 4, 2) := by decide +kernel
theorem d_X2_flashesBetween_21 : decode prog_4_method_13_code 21 = .ok (.isub, 1) := by decide +kernel
theorem d_X2_flashesBetween_22 : decode prog_4_method_13_code 22 = .ok (.aload_n 0, 1) := by decide +kernel
theorem d_X2_flashesBetween_23 : decode prog_4_method_13_code 23 = .ok (.iload_n 1, 1) := by decide +kernel
theorem d_X2_flashesBetween_24 : decode prog_4_method_13_code 24 = .ok (.invokevirtual 60, 3) := by decide +kernel
theorem d_X2_flashesBetween_27 : decode prog_4_method_13_code 27 = .ok (.idiv, 1) := by decide +kernel
theorem d_X2_flashesBetween_28 : decode prog_4_method_13_code 28 = .ok (.iconst 1, 1) := by decide +kernel
theorem d_X2_flashesBetween_29 : decode prog_4_method_13_code 29 = .ok (.iadd, 1) := by decide +kernel
theorem d_X2_flashesBetween_30 : decode prog_4_method_13_code 30 = .ok (.ireturn, 1) := by decide +kernel
def m_X2_flashesBetween (sh : Sh) (v0 : Nat) (v1 : Int32) (v2 : Int32) (v3 : Int32) (μ : Mu) : Option (Int32 × Mu) :=
  gd (iz sh 2 v0) <|
  ca2 (m_X2_nextFlash sh v0 v1 v2 μ) fun r2 μ3 =>
  if r2 ≤ v3 then
    ca2 (m_X2_everyOf sh v0 v1 μ3) fun r5 μ6 =>
    gd (nzI r5) <|
    some (((v3 - r2) / r5) + 1, μ6)
  else
    some (0, μ3)
set_option maxHeartbeats 4000000 in
set_option maxRecDepth 20000 in
theorem t_X2_flashesBetween {l : Launch} {G : Gl} {n : Nat} {sh : Sh} {x : Int32 × Mu} {v0 : Nat} {v1 : Int32} {v2 : Int32} {v3 : Int32} {μ : Mu} (h : m_X2_flashesBetween sh v0 v1 v2 v3 μ = some x) : Ct l G ⟨"StripsOfFour$Plan", "flashesBetween", "(III)I"⟩ prog_4_method_13_code 5 (some .int) { frames := 3, cells := 0, slots := 0, locals := 65 } n sh μ [vr v0, vi v1, vi v2, vi v3] (some (.int x.1)) n sh x.2 := by
  refine Ct.of (lc := [some (vr v0), some (vi v1), some (vi v2), some (vi v3), none]) (by decide +kernel) (Nat.le_of_ble_eq_true rfl) rfl ?_
  show Sj l G (QI G n sh x) c_X2_flashesBetween n sh 0 0 μ 0 [some (vr v0), some (vi v1), some (vi v2), some (vi v3), none] []
  unfold m_X2_flashesBetween at h
  refine s_aload_n (pc := 0) d_X2_flashesBetween_0 rfl rfl ?_
  refine s_iload_n (pc := 1) d_X2_flashesBetween_1 rfl rfl ?_
  refine s_iload_n (pc := 2) d_X2_flashesBetween_2 rfl rfl ?_
  obtain ⟨g1, h⟩ := gd_1 h
  obtain ⟨r2, μ3, er2, h⟩ := ca2_1 h
  refine s_callV (pc := 3) (as := [vi v1, vi v2]) (st := []) (vo := [vi r2]) (t_X2_nextFlash er2) cl_2 g1 d_X2_flashesBetween_3 y_X2_nextFlash w_424 w_305 w_306 ⟨by decide, by decide⟩ ⟨Nat.le_of_ble_eq_true rfl, Nat.le_of_ble_eq_true rfl⟩ (Nat.le_of_ble_eq_true rfl) rfl rfl rfl ?_
  refine s_as (kc' := 0) (js' := 0) (pc' := 6) (st' := [vi r2]) ⟨rfl, rfl, rfl, rfl⟩ ?_
  refine s_istore (pc := 6) (lc' := [some (vr v0), some (vi v1), some (vi v2), some (vi v3), some (vi r2)]) d_X2_flashesBetween_6 (by decide) rfl ?_
  refine s_iload (pc := 8) d_X2_flashesBetween_8 rfl ?_
  refine s_iload_n (pc := 10) d_X2_flashesBetween_10 rfl rfl ?_
  refine s_icmp_le (pc := 11) (tgt := 18) d_X2_flashesBetween_11 (by decide) (fun c4 => ?_) (fun c4 => ?_)
  · have h := it_t c4 h
    refine s_iload_n (pc := 18) d_X2_flashesBetween_18 rfl rfl ?_
    refine s_iload (pc := 19) d_X2_flashesBetween_19 rfl ?_
    refine s_isub (pc := 21) d_X2_flashesBetween_21 ?_
    refine s_aload_n (pc := 22) d_X2_flashesBetween_22 rfl rfl ?_
    refine s_iload_n (pc := 23) d_X2_flashesBetween_23 rfl rfl ?_
    obtain ⟨r5, μ6, er5, h⟩ := ca2_1 h
    refine s_callV (pc := 24) (as := [vi v1]) (st := [vi (v3 - r2)]) (vo := [vi r5]) (t_X2_everyOf er5) cl_2 g1 d_X2_flashesBetween_24 y_X2_everyOf w_309 w_290 w_291 ⟨by decide, by decide⟩ ⟨Nat.le_of_ble_eq_true rfl, Nat.le_of_ble_eq_true rfl⟩ (Nat.le_of_ble_eq_true rfl) rfl rfl rfl ?_
    refine s_as (kc' := 0) (js' := 0) (pc' := 27) (st' := [vi r5, vi (v3 - r2)]) ⟨rfl, rfl, rfl, rfl⟩ ?_
    obtain ⟨g7, h⟩ := gd_1 h
    refine s_idiv (pc := 27) d_X2_flashesBetween_27 (nzI_eq g7) ?_
    refine s_iconst (pc := 28) (v := 1) d_X2_flashesBetween_28 (by decide) ?_
    refine s_iadd (pc := 29) d_X2_flashesBetween_29 ?_
    obtain rfl := Option.some.inj h
    exact s_iret (pc := 30) d_X2_flashesBetween_30 rfl
  · have h := it_f c4 h
    refine s_iconst (pc := 14) (v := 0) d_X2_flashesBetween_14 (by decide) ?_
    refine s_goto (pc := 15) (tgt := 30) d_X2_flashesBetween_15 (by decide) ?_
    obtain rfl := Option.some.inj h
    exact s_iret (pc := 30) d_X2_flashesBetween_30 rfl
/-! StripsOfFour$Plan.openWeight -/
abbrev c_X2_openWeight : Cf := (prog_4_method_15_code, 6, "StripsOfFour$Plan", "openWeight", (some .long), { frames := 2, cells := 0, slots := 0, locals := 42 })
theorem d_X2_openWeight_0 : decode prog_4_method_15_code 0 = .ok (.lconst 1, 1) := by decide +kernel
theorem d_X2_openWeight_1 : decode prog_4_method_15_code 1 = .ok (.lstore_n 3, 1) := by decide +kernel
theorem d_X2_openWeight_2 : decode prog_4_method_15_code 2 = .ok (.iconst 0, 1) := by decide +kernel
theorem d_X2_openWeight_3 : decode prog_4_method_15_code 3 = .ok (.istore 5, 2) := by decide +kernel
theorem d_X2_openWeight_5 : decode prog_4_method_15_code 5 = .ok (.iload 5, 2) := by decide +kernel
theorem d_X2_openWeight_7 : decode prog_4_method_15_code 7 = .ok (.iconst 5, 1) := by decide +kernel
theorem d_X2_openWeight_8 : decode prog_4_method_15_code 8 = .ok (.if_icmp .ge 50, 3) := by decide +kernel
theorem d_X2_openWeight_11 : decode prog_4_method_15_code 11 = .ok (.iload_n 1, 1) := by decide +kernel
theorem d_X2_openWeight_12 : decode prog_4_method_15_code 12 = .ok (.iload 5, 2) := by decide +kernel
theorem d_X2_openWeight_14 : decode prog_4_method_15_code 14 = .ok (.invokestatic 69, 3) := by decide +kernel
theorem d_X2_openWeight_17 : decode prog_4_method_15_code 17 = .ok (.ifCond .eq 35, 3) := by decide +kernel
theorem d_X2_openWeight_20 : decode prog_4_method_15_code 20 = .ok (.lload_n 3, 1) := by decide +kernel
theorem d_X2_openWeight_21 : decode prog_4_method_15_code 21 = .ok (.iload_n 2, 1) := by decide +kernel
theorem d_X2_openWeight_22 : decode prog_4_method_15_code 22 = .ok (.iload 5, 2) := by decide +kernel
theorem d_X2_openWeight_24 : decode prog_4_method_15_code 24 = .ok (.invokestatic 69, 3) := by decide +kernel
theorem d_X2_openWeight_27 : decode prog_4_method_15_code 27 = .ok (.ifCond .eq 16, 3) := by decide +kernel
theorem d_X2_openWeight_30 : decode prog_4_method_15_code 30 = .ok (.bipush 10, 2) := by decide +kernel
theorem d_X2_openWeight_32 : decode prog_4_method_15_code 32 = .ok (.aload_n 0, 1) := by decide +kernel
theorem d_X2_openWeight_33 : decode prog_4_method_15_code 33 = .ok (.iload 5, 2) := by decide +kernel
theorem d_X2_openWeight_35 : decode prog_4_method_15_code 35 = .ok (.invokevirtual 66, 3) := by decide +kernel
theorem d_X2_openWeight_38 : decode prog_4_method_15_code 38 = .ok (.isub, 1) := by decide +kernel
theorem d_X2_openWeight_39 : decode prog_4_method_15_code 39 = .ok (.i2l, 1) := by decide +kernel
theorem d_X2_openWeight_40 : decode prog_4_method_15_code 40 = .ok (.goto 10, 3) := by decide +kernel
theorem d_X2_openWeight_43 : decode prog_4_method_15_code 43 = .ok (.aload_n 0, 1) := by decide +kernel
theorem d_X2_openWeight_44 : decode prog_4_method_15_code 44 = .ok (.iload 5, 2) := by decide +kernel
theorem d_X2_openWeight_46 : decode prog_4_method_15_code 46 = .ok (.invokevirtual 66, 3) := by decide +kernel
theorem d_X2_openWeight_49 : decode prog_4_method_15_code 49 = .ok (.i2l, 1) := by decide +kernel
theorem d_X2_openWeight_50 : decode prog_4_method_15_code 50 = .ok (.lmul, 1) := by decide +kernel
theorem d_X2_openWeight_51 : decode prog_4_method_15_code 51 = .ok (.lstore_n 3, 1) := by decide +kernel
theorem d_X2_openWeight_52 : decode prog_4_method_15_code 52 = .ok (.iinc 5 1, 3) := by decide +kernel
theorem d_X2_openWeight_55 : decode prog_4_method_15_code 55 = .ok (.goto (-50), 3) := by decide +kernel
theorem d_X2_openWeight_58 : decode prog_4_method_15_code 58 = .ok (.lload_n 3, 1) := by decide +kernel
theorem d_X2_openWeight_59 : decode prog_4_method_15_code 59 = .ok (.lreturn, 1) := by decide +kernel
def m_X2_openWeight_b52 (sh : Sh) (k5 : Int64 → Int32 → Mu → Option (Int64 × Mu)) (v0 : Nat) (v1 : Int32) (v2 : Int32) (v3 : Int64) (v5 : Int32) (μ : Mu) : Option (Int64 × Mu) :=
  bd (v5 + 1) fun w14 =>
  k5 v3 w14 μ
def m_X2_openWeight_b50 (sh : Sh) (k5 : Int64 → Int32 → Mu → Option (Int64 × Mu)) (v0 : Nat) (v1 : Int32) (v2 : Int32) (v5 : Int32) (s0 : Int64) (s1 : Int64) (μ : Mu) : Option (Int64 × Mu) :=
  bd (s1 * s0) fun w15 =>
  m_X2_openWeight_b52 sh k5 v0 v1 v2 w15 v5 μ
def m_X2_openWeight_b5 (sh : Sh) (k5 : Int64 → Int32 → Mu → Option (Int64 × Mu)) (v0 : Nat) (v1 : Int32) (v2 : Int32) (v3 : Int64) (v5 : Int32) (μ : Mu) : Option (Int64 × Mu) :=
  if 5 ≤ v5 then
    some (v3, μ)
  else
    ca2 (m_X6_has sh v1 v5 μ) fun r2 μ3 =>
    if r2 = 0 then
      m_X2_openWeight_b52 sh k5 v0 v1 v2 v3 v5 μ3
    else
      ca2 (m_X6_has sh v2 v5 μ3) fun r5 μ6 =>
      if r5 = 0 then
        gd (iz sh 2 v0) <|
        ca2 (m_X2_tenthsOf sh v0 v5 μ6) fun r9 μ10 =>
        m_X2_openWeight_b50 sh k5 v0 v1 v2 v5 (r9.toInt64) v3 μ10
      else
        gd (iz sh 2 v0) <|
        ca2 (m_X2_tenthsOf sh v0 v5 μ6) fun r12 μ13 =>
        m_X2_openWeight_b50 sh k5 v0 v1 v2 v5 ((10 - r12).toInt64) v3 μ13
def m_X2_openWeight_h5 (sh : Sh) (v0 : Nat) (v1 : Int32) (v2 : Int32) : Nat → Int64 → Int32 → Mu → Option (Int64 × Mu)
  | 0 => fun _ _ _ => none
  | f + 1 => fun v3 v5 μ => m_X2_openWeight_b5 sh (m_X2_openWeight_h5 sh v0 v1 v2 f) v0 v1 v2 v3 v5 μ
def m_X2_openWeight (sh : Sh) (v0 : Nat) (v1 : Int32) (v2 : Int32) (μ : Mu) : Option (Int64 × Mu) :=
  m_X2_openWeight_h5 sh v0 v1 v2 FU 1 0 μ
set_option maxHeartbeats 4000000 in
set_option maxRecDepth 20000 in
theorem t_X2_openWeight_b52 {l : Launch} {G : Gl} {n : Nat} {sh : Sh} {x : Int64 × Mu} {k5 : Int64 → Int32 → Mu → Option (Int64 × Mu)} {v0 : Nat} {v1 : Int32} {v2 : Int32} {v3 : Int64} {v5 : Int32} {μ : Mu} (hk5 : ∀ (v3 : Int64) (v5 : Int32) (μ : Mu), k5 v3 v5 μ = some x → Sj l G (QJ G n sh x) c_X2_openWeight n sh 0 0 μ 5 [some (vr v0), some (vi v1), some (vi v2), some (vl v3), none, some (vi v5)] []) (h : m_X2_openWeight_b52 sh k5 v0 v1 v2 v3 v5 μ = some x) : Sj l G (QJ G n sh x) c_X2_openWeight n sh 0 0 μ 52 [some (vr v0), some (vi v1), some (vi v2), some (vl v3), none, some (vi v5)] [] := by
  unfold m_X2_openWeight_b52 at h
  obtain ⟨w14, ew14, h⟩ := bd_1 h
  refine s_iinc (pc := 52) (v := w14) (lc' := [some (vr v0), some (vi v1), some (vi v2), some (vl v3), none, some (vi w14)]) d_X2_openWeight_52 rfl (by rw [ew14]; rfl) (by decide) rfl ?_
  refine s_goto (pc := 55) (tgt := 5) d_X2_openWeight_55 (by decide) ?_
  exact hk5 _ _ _ h
set_option maxHeartbeats 4000000 in
set_option maxRecDepth 20000 in
theorem t_X2_openWeight_b50 {l : Launch} {G : Gl} {n : Nat} {sh : Sh} {x : Int64 × Mu} {k5 : Int64 → Int32 → Mu → Option (Int64 × Mu)} {v0 : Nat} {v1 : Int32} {v2 : Int32} {v5 : Int32} {s0 : Int64} {s1 : Int64} {μ : Mu} (hk5 : ∀ (v3 : Int64) (v5 : Int32) (μ : Mu), k5 v3 v5 μ = some x → Sj l G (QJ G n sh x) c_X2_openWeight n sh 0 0 μ 5 [some (vr v0), some (vi v1), some (vi v2), some (vl v3), none, some (vi v5)] []) (h : m_X2_openWeight_b50 sh k5 v0 v1 v2 v5 s0 s1 μ = some x) : Sj l G (QJ G n sh x) c_X2_openWeight n sh 0 0 μ 50 [some (vr v0), some (vi v1), some (vi v2), none, none, some (vi v5)] [vl s0, vl s1] := by
  unfold m_X2_openWeight_b50 at h
  refine s_lmul (pc := 50) d_X2_openWeight_50 ?_
  obtain ⟨w15, ew15, h⟩ := bd_1 h
  refine s_topJ ew15 ?_
  refine s_lstore_n (pc := 51) (lc' := [some (vr v0), some (vi v1), some (vi v2), some (vl w15), none, some (vi v5)]) d_X2_openWeight_51 rfl (by decide) rfl ?_
  exact t_X2_openWeight_b52 hk5 h
set_option maxHeartbeats 4000000 in
set_option maxRecDepth 20000 in
theorem t_X2_openWeight_b5 {l : Launch} {G : Gl} {n : Nat} {sh : Sh} {x : Int64 × Mu} {k5 : Int64 → Int32 → Mu → Option (Int64 × Mu)} {v0 : Nat} {v1 : Int32} {v2 : Int32} {v3 : Int64} {v5 : Int32} {μ : Mu} (hk5 : ∀ (v3 : Int64) (v5 : Int32) (μ : Mu), k5 v3 v5 μ = some x → Sj l G (QJ G n sh x) c_X2_openWeight n sh 0 0 μ 5 [some (vr v0), some (vi v1), some (vi v2), some (vl v3), none, some (vi v5)] []) (h : m_X2_openWeight_b5 sh k5 v0 v1 v2 v3 v5 μ = some x) : Sj l G (QJ G n sh x) c_X2_openWeight n sh 0 0 μ 5 [some (vr v0), some (vi v1), some (vi v2), some (vl v3), none, some (vi v5)] [] := by
  unfold m_X2_openWeight_b5 at h
  refine s_iload (pc := 5) d_X2_openWeight_5 rfl ?_
  refine s_iconst (pc := 7) (v := 5) d_X2_openWeight_7 (by decide) ?_
  refine s_icmp_ge (pc := 8) (tgt := 58) d_X2_openWeight_8 (by decide) (fun c1 => ?_) (fun c1 => ?_)
  · have h := it_t c1 h
    refine s_lload_n (pc := 58) d_X2_openWeight_58 rfl rfl ?_
    obtain rfl := Option.some.inj h
    exact s_lret (pc := 59) d_X2_openWeight_59 rfl
  · have h := it_f c1 h
    refine s_iload_n (pc := 11) d_X2_openWeight_11 rfl rfl ?_
    refine s_iload (pc := 12) d_X2_openWeight_12 rfl ?_
    obtain ⟨r2, μ3, er2, h⟩ := ca2_1 h
    refine s_callSN (pc := 14) (as := [vi v1, vi v5]) (st := []) (vo := [vi r2]) (t_X6_has er2) d_X2_openWeight_14 y_X6_has w_n640 w_426 ⟨by decide, by decide⟩ ⟨Nat.le_of_ble_eq_true rfl, Nat.le_of_ble_eq_true rfl⟩ (Nat.le_of_ble_eq_true rfl) rfl rfl rfl ?_
    refine s_as (kc' := 0) (js' := 0) (pc' := 17) (st' := [vi r2]) ⟨rfl, rfl, rfl, rfl⟩ ?_
    refine s_if_eq (pc := 17) (tgt := 52) d_X2_openWeight_17 (by decide) (fun c4 => ?_) (fun c4 => ?_)
    · have h := it_t c4 h
      exact t_X2_openWeight_b52 hk5 h
    · have h := it_f c4 h
      refine s_lload_n (pc := 20) d_X2_openWeight_20 rfl rfl ?_
      refine s_iload_n (pc := 21) d_X2_openWeight_21 rfl rfl ?_
      refine s_iload (pc := 22) d_X2_openWeight_22 rfl ?_
      obtain ⟨r5, μ6, er5, h⟩ := ca2_1 h
      refine s_callSN (pc := 24) (as := [vi v2, vi v5]) (st := [vl v3]) (vo := [vi r5]) (t_X6_has er5) d_X2_openWeight_24 y_X6_has w_n640 w_426 ⟨by decide, by decide⟩ ⟨Nat.le_of_ble_eq_true rfl, Nat.le_of_ble_eq_true rfl⟩ (Nat.le_of_ble_eq_true rfl) rfl rfl rfl ?_
      refine s_as (kc' := 0) (js' := 0) (pc' := 27) (st' := [vi r5, vl v3]) ⟨rfl, rfl, rfl, rfl⟩ ?_
      refine s_if_eq (pc := 27) (tgt := 43) d_X2_openWeight_27 (by decide) (fun c7 => ?_) (fun c7 => ?_)
      · have h := it_t c7 h
        refine s_aload_n (pc := 43) d_X2_openWeight_43 rfl rfl ?_
        refine s_iload (pc := 44) d_X2_openWeight_44 rfl ?_
        obtain ⟨g8, h⟩ := gd_1 h
        obtain ⟨r9, μ10, er9, h⟩ := ca2_1 h
        refine s_callV (pc := 46) (as := [vi v5]) (st := [vl v3]) (vo := [vi r9]) (t_X2_tenthsOf er9) cl_2 g8 d_X2_openWeight_46 y_X2_tenthsOf w_627 w_319 w_320 ⟨by decide, by decide⟩ ⟨Nat.le_of_ble_eq_true rfl, Nat.le_of_ble_eq_true rfl⟩ (Nat.le_of_ble_eq_true rfl) rfl rfl rfl ?_
        refine s_as (kc' := 0) (js' := 0) (pc' := 49) (st' := [vi r9, vl v3]) ⟨rfl, rfl, rfl, rfl⟩ ?_
        refine s_i2l (pc := 49) d_X2_openWeight_49 ?_
        refine s_mask [true, true, true, false, true, true] rfl ?_
        exact t_X2_openWeight_b50 hk5 h
      · have h := it_f c7 h
        refine s_bipush (pc := 30) (v := 10) d_X2_openWeight_30 (by decide) ?_
        refine s_aload_n (pc := 32) d_X2_openWeight_32 rfl rfl ?_
        refine s_iload (pc := 33) d_X2_openWeight_33 rfl ?_
        obtain ⟨g11, h⟩ := gd_1 h
        obtain ⟨r12, μ13, er12, h⟩ := ca2_1 h
        refine s_callV (pc := 35) (as := [vi v5]) (st := [vi 10, vl v3]) (vo := [vi r12]) (t_X2_tenthsOf er12) cl_2 g11 d_X2_openWeight_35 y_X2_tenthsOf w_627 w_319 w_320 ⟨by decide, by decide⟩ ⟨Nat.le_of_ble_eq_true rfl, Nat.le_of_ble_eq_true rfl⟩ (Nat.le_of_ble_eq_true rfl) rfl rfl rfl ?_
        refine s_as (kc' := 0) (js' := 0) (pc' := 38) (st' := [vi r12, vi 10, vl v3]) ⟨rfl, rfl, rfl, rfl⟩ ?_
        refine s_isub (pc := 38) d_X2_openWeight_38 ?_
        refine s_i2l (pc := 39) d_X2_openWeight_39 ?_
        refine s_goto (pc := 40) (tgt := 50) d_X2_openWeight_40 (by decide) ?_
        refine s_mask [true, true, true, false, true, true] rfl ?_
        exact t_X2_openWeight_b50 hk5 h
set_option maxHeartbeats 4000000 in
set_option maxRecDepth 20000 in
theorem t_X2_openWeight_h5 {l : Launch} {G : Gl} {n : Nat} {sh : Sh} {x : Int64 × Mu} {v0 : Nat} {v1 : Int32} {v2 : Int32} : ∀ (f : Nat) (v3 : Int64) (v5 : Int32) (μ : Mu), m_X2_openWeight_h5 sh v0 v1 v2 f v3 v5 μ = some x → Sj l G (QJ G n sh x) c_X2_openWeight n sh 0 0 μ 5 [some (vr v0), some (vi v1), some (vi v2), some (vl v3), none, some (vi v5)] [] := by
  intro f
  induction f with
  | zero =>
    intro v3 v5 μ h
    cases h
  | succ f ih =>
    intro v3 v5 μ h
    exact t_X2_openWeight_b5 ih h
set_option maxHeartbeats 4000000 in
set_option maxRecDepth 20000 in
theorem t_X2_openWeight {l : Launch} {G : Gl} {n : Nat} {sh : Sh} {x : Int64 × Mu} {v0 : Nat} {v1 : Int32} {v2 : Int32} {μ : Mu} (h : m_X2_openWeight sh v0 v1 v2 μ = some x) : Ct l G ⟨"StripsOfFour$Plan", "openWeight", "(II)J"⟩ prog_4_method_15_code 6 (some .long) { frames := 2, cells := 0, slots := 0, locals := 42 } n sh μ [vr v0, vi v1, vi v2] (some (.long x.1)) n sh x.2 := by
  refine Ct.of (lc := [some (vr v0), some (vi v1), some (vi v2), none, none, none]) (by decide +kernel) (Nat.le_of_ble_eq_true rfl) rfl ?_
  show Sj l G (QJ G n sh x) c_X2_openWeight n sh 0 0 μ 0 [some (vr v0), some (vi v1), some (vi v2), none, none, none] []
  unfold m_X2_openWeight at h
  refine s_lconst (pc := 0) (v := 1) d_X2_openWeight_0 (by decide) ?_
  refine s_lstore_n (pc := 1) (lc' := [some (vr v0), some (vi v1), some (vi v2), some (vl 1), none, none]) d_X2_openWeight_1 rfl (by decide) rfl ?_
  refine s_iconst (pc := 2) (v := 0) d_X2_openWeight_2 (by decide) ?_
  refine s_istore (pc := 3) (lc' := [some (vr v0), some (vi v1), some (vi v2), some (vl 1), none, some (vi 0)]) d_X2_openWeight_3 (by decide) rfl ?_
  exact t_X2_openWeight_h5 FU _ _ _ h
/-! StripsOfFour.hatGoesOn -/
abbrev c_X6_hatGoesOn : Cf := (prog_1_method_41_code, 2, "StripsOfFour", "hatGoesOn", (some .boolean), { frames := 0, cells := 0, slots := 0, locals := 0 })
theorem d_X6_hatGoesOn_0 : decode prog_1_method_41_code 0 = .ok (.iload_n 0, 1) := by decide +kernel
theorem d_X6_hatGoesOn_1 : decode prog_1_method_41_code 1 = .ok (.bipush (-9), 2) := by decide +kernel
theorem d_X6_hatGoesOn_3 : decode prog_1_method_41_code 3 = .ok (.if_icmp .eq 14, 3) := by decide +kernel
theorem d_X6_hatGoesOn_6 : decode prog_1_method_41_code 6 = .ok (.iload_n 1, 1) := by decide +kernel
theorem d_X6_hatGoesOn_7 : decode prog_1_method_41_code 7 = .ok (.bipush (-9), 2) := by decide +kernel
theorem d_X6_hatGoesOn_9 : decode prog_1_method_41_code 9 = .ok (.if_icmp .eq 8, 3) := by decide +kernel
theorem d_X6_hatGoesOn_12 : decode prog_1_method_41_code 12 = .ok (.iload_n 0, 1) := by decide +kernel
theorem d_X6_hatGoesOn_13 : decode prog_1_method_41_code 13 = .ok (.iload_n 1, 1) := by decide +kernel
theorem d_X6_hatGoesOn_14 : decode prog_1_method_41_code 14 = .ok (.if_icmp .ne 7, 3) := by decide +kernel
theorem d_X6_hatGoesOn_17 : decode prog_1_method_41_code 17 = .ok (.iconst 1, 1) := by decide +kernel
theorem d_X6_hatGoesOn_18 : decode prog_1_method_41_code 18 = .ok (.goto 4, 3) := by decide +kernel
theorem d_X6_hatGoesOn_21 : decode prog_1_method_41_code 21 = .ok (.iconst 0, 1) := by decide +kernel
theorem d_X6_hatGoesOn_22 : decode prog_1_method_41_code 22 = .ok (.ireturn, 1) := by decide +kernel
def m_X6_hatGoesOn_b17 (sh : Sh) (μ : Mu) : Option (Int32 × Mu) :=
  some (1, μ)
def m_X6_hatGoesOn (sh : Sh) (v0 : Int32) (v1 : Int32) (μ : Mu) : Option (Int32 × Mu) :=
  if v0 = (-9) then
    m_X6_hatGoesOn_b17 sh μ
  else
    if v1 = (-9) then
      m_X6_hatGoesOn_b17 sh μ
    else
      if v0 = v1 then
        m_X6_hatGoesOn_b17 sh μ
      else
        some (0, μ)
set_option maxHeartbeats 4000000 in
set_option maxRecDepth 20000 in
theorem t_X6_hatGoesOn_b17 {l : Launch} {G : Gl} {n : Nat} {sh : Sh} {x : Int32 × Mu} {μ : Mu} (h : m_X6_hatGoesOn_b17 sh μ = some x) : Sj l G (QI G n sh x) c_X6_hatGoesOn n sh 0 0 μ 17 [none, none] [] := by
  unfold m_X6_hatGoesOn_b17 at h
  refine s_iconst (pc := 17) (v := 1) d_X6_hatGoesOn_17 (by decide) ?_
  refine s_goto (pc := 18) (tgt := 22) d_X6_hatGoesOn_18 (by decide) ?_
  obtain rfl := Option.some.inj h
  exact s_zret0 (pc := 22) rfl d_X6_hatGoesOn_22 rfl
set_option maxHeartbeats 4000000 in
set_option maxRecDepth 20000 in
theorem t_X6_hatGoesOn {l : Launch} {G : Gl} {n : Nat} {sh : Sh} {x : Int32 × Mu} {v0 : Int32} {v1 : Int32} {μ : Mu} (h : m_X6_hatGoesOn sh v0 v1 μ = some x) : Ct l G ⟨"StripsOfFour", "hatGoesOn", "(II)Z"⟩ prog_1_method_41_code 2 (some .boolean) { frames := 0, cells := 0, slots := 0, locals := 0 } n sh μ [vi v0, vi v1] (some (.int x.1)) n sh x.2 := by
  refine Ct.of (lc := [some (vi v0), some (vi v1)]) (by decide +kernel) (Nat.le_of_ble_eq_true rfl) rfl ?_
  show Sj l G (QI G n sh x) c_X6_hatGoesOn n sh 0 0 μ 0 [some (vi v0), some (vi v1)] []
  unfold m_X6_hatGoesOn at h
  refine s_iload_n (pc := 0) d_X6_hatGoesOn_0 rfl rfl ?_
  refine s_bipush (pc := 1) (v := (-9)) d_X6_hatGoesOn_1 (by decide) ?_
  refine s_icmp_eq (pc := 3) (tgt := 17) d_X6_hatGoesOn_3 (by decide) (fun c1 => ?_) (fun c1 => ?_)
  · have h := it_t c1 h
    refine s_mask [false, false] rfl ?_
    exact t_X6_hatGoesOn_b17 h
  · have h := it_f c1 h
    refine s_iload_n (pc := 6) d_X6_hatGoesOn_6 rfl rfl ?_
    refine s_bipush (pc := 7) (v := (-9)) d_X6_hatGoesOn_7 (by decide) ?_
    refine s_icmp_eq (pc := 9) (tgt := 17) d_X6_hatGoesOn_9 (by decide) (fun c2 => ?_) (fun c2 => ?_)
    · have h := it_t c2 h
      refine s_mask [false, false] rfl ?_
      exact t_X6_hatGoesOn_b17 h
    · have h := it_f c2 h
      refine s_iload_n (pc := 12) d_X6_hatGoesOn_12 rfl rfl ?_
      refine s_iload_n (pc := 13) d_X6_hatGoesOn_13 rfl rfl ?_
      refine s_icmp_ne (pc := 14) (tgt := 21) d_X6_hatGoesOn_14 (by decide) (fun c3 => ?_) (fun c3 => ?_)
      · have h := it_f c3 h
        refine s_iconst (pc := 21) (v := 0) d_X6_hatGoesOn_21 (by decide) ?_
        obtain rfl := Option.some.inj h
        exact s_zret0 (pc := 22) rfl d_X6_hatGoesOn_22 rfl
      · have h := it_t c3 h
        refine s_mask [false, false] rfl ?_
        exact t_X6_hatGoesOn_b17 h
/-! StripsOfFour$Strip.allOnIt -/
abbrev c_X5_allOnIt : Cf := (prog_7_method_6_code, 3, "StripsOfFour$Strip", "allOnIt", (some .int), { frames := 1, cells := 0, slots := 0, locals := 22 })
theorem d_X5_allOnIt_0 : decode prog_7_method_6_code 0 = .ok (.iconst 0, 1) := by decide +kernel
theorem d_X5_allOnIt_1 : decode prog_7_method_6_code 1 = .ok (.istore_n 1, 1) := by decide +kernel
theorem d_X5_allOnIt_2 : decode prog_7_method_6_code 2 = .ok (.iconst 0, 1) := by decide +kernel
theorem d_X5_allOnIt_3 : decode prog_7_method_6_code 3 = .ok (.istore_n 2, 1) := by decide +kernel
theorem d_X5_allOnIt_4 : decode prog_7_method_6_code 4 = .ok (.iload_n 2, 1) := by decide +kernel
theorem d_X5_allOnIt_5 : decode prog_7_method_6_code 5 = .ok (.iconst 4, 1) := by decide +kernel
theorem d_X5_allOnIt_6 : decode prog_7_method_6_code 6 = .ok (.if_icmp .ge 18, 3) := by decide +kernel
theorem d_X5_allOnIt_9 : decode prog_7_method_6_code 9 = .ok (.iload_n 1, 1) := by decide +kernel
theorem d_X5_allOnIt_10 : decode prog_7_method_6_code 10 = .ok (.aload_n 0, 1) := by decide +kernel
theorem d_X5_allOnIt_11 : decode prog_7_method_6_code 11 = .ok (.iload_n 2, 1) := by decide +kernel
theorem d_X5_allOnIt_12 : decode prog_7_method_6_code 12 = .ok (.iconst 1, 1) := by decide +kernel
theorem d_X5_allOnIt_13 : decode prog_7_method_6_code 13 = .ok (.invokevirtual 34, 3) := by decide +kernel
theorem d_X5_allOnIt_16 : decode prog_7_method_6_code 16 = .ok (.ior, 1) := by decide +kernel
theorem d_X5_allOnIt_17 : decode prog_7_method_6_code 17 = .ok (.istore_n 1, 1) := by decide +kernel
theorem d_X5_allOnIt_18 : decode prog_7_method_6_code 18 = .ok (.iinc 2 1, 3) := by decide +kernel
theorem d_X5_allOnIt_21 : decode prog_7_method_6_code 21 = .ok (.goto (-17), 3) := by decide +kernel
theorem d_X5_allOnIt_24 : decode prog_7_method_6_code 24 = .ok (.iload_n 1, 1) := by decide +kernel
theorem d_X5_allOnIt_25 : decode prog_7_method_6_code 25 = .ok (.ireturn, 1) := by decide +kernel
def m_X5_allOnIt_b4 (sh : Sh) (k4 : Int32 → Int32 → Mu → Option (Int32 × Mu)) (v0 : Nat) (v1 : Int32) (v2 : Int32) (μ : Mu) : Option (Int32 × Mu) :=
  if 4 ≤ v2 then
    some (v1, μ)
  else
    gd (iz sh 5 v0) <|
    ca2 (m_X5_cell sh v0 v2 1 μ) fun r3 μ4 =>
    bd (v1 ||| r3) fun w5 =>
    bd (v2 + 1) fun w6 =>
    k4 w5 w6 μ4
def m_X5_allOnIt_h4 (sh : Sh) (v0 : Nat) : Nat → Int32 → Int32 → Mu → Option (Int32 × Mu)
  | 0 => fun _ _ _ => none
  | f + 1 => fun v1 v2 μ => m_X5_allOnIt_b4 sh (m_X5_allOnIt_h4 sh v0 f) v0 v1 v2 μ
def m_X5_allOnIt (sh : Sh) (v0 : Nat) (μ : Mu) : Option (Int32 × Mu) :=
  m_X5_allOnIt_h4 sh v0 FU 0 0 μ
set_option maxHeartbeats 4000000 in
set_option maxRecDepth 20000 in
theorem t_X5_allOnIt_b4 {l : Launch} {G : Gl} {n : Nat} {sh : Sh} {x : Int32 × Mu} {k4 : Int32 → Int32 → Mu → Option (Int32 × Mu)} {v0 : Nat} {v1 : Int32} {v2 : Int32} {μ : Mu} (hk4 : ∀ (v1 : Int32) (v2 : Int32) (μ : Mu), k4 v1 v2 μ = some x → Sj l G (QI G n sh x) c_X5_allOnIt n sh 0 0 μ 4 [some (vr v0), some (vi v1), some (vi v2)] []) (h : m_X5_allOnIt_b4 sh k4 v0 v1 v2 μ = some x) : Sj l G (QI G n sh x) c_X5_allOnIt n sh 0 0 μ 4 [some (vr v0), some (vi v1), some (vi v2)] [] := by
  unfold m_X5_allOnIt_b4 at h
  refine s_iload_n (pc := 4) d_X5_allOnIt_4 rfl rfl ?_
  refine s_iconst (pc := 5) (v := 4) d_X5_allOnIt_5 (by decide) ?_
  refine s_icmp_ge (pc := 6) (tgt := 24) d_X5_allOnIt_6 (by decide) (fun c1 => ?_) (fun c1 => ?_)
  · have h := it_t c1 h
    refine s_iload_n (pc := 24) d_X5_allOnIt_24 rfl rfl ?_
    obtain rfl := Option.some.inj h
    exact s_iret (pc := 25) d_X5_allOnIt_25 rfl
  · have h := it_f c1 h
    refine s_iload_n (pc := 9) d_X5_allOnIt_9 rfl rfl ?_
    refine s_aload_n (pc := 10) d_X5_allOnIt_10 rfl rfl ?_
    refine s_iload_n (pc := 11) d_X5_allOnIt_11 rfl rfl ?_
    refine s_iconst (pc := 12) (v := 1) d_X5_allOnIt_12 (by decide) ?_
    obtain ⟨g2, h⟩ := gd_1 h
    obtain ⟨r3, μ4, er3, h⟩ := ca2_1 h
    refine s_callV (pc := 13) (as := [vi v2, vi 1]) (st := [vi v1]) (vo := [vi r3]) (t_X5_cell er3) cl_5 g2 d_X5_allOnIt_13 y_X5_cell w_349 w_350 w_351 ⟨by decide, by decide⟩ ⟨Nat.le_of_ble_eq_true rfl, Nat.le_of_ble_eq_true rfl⟩ (Nat.le_of_ble_eq_true rfl) rfl rfl rfl ?_
    refine s_as (kc' := 0) (js' := 0) (pc' := 16) (st' := [vi r3, vi v1]) ⟨rfl, rfl, rfl, rfl⟩ ?_
    refine s_ior (pc := 16) d_X5_allOnIt_16 ?_
    obtain ⟨w5, ew5, h⟩ := bd_1 h
    refine s_topI ew5 ?_
    refine s_istore_n (pc := 17) (lc' := [some (vr v0), some (vi w5), some (vi v2)]) d_X5_allOnIt_17 rfl (by decide) rfl ?_
    obtain ⟨w6, ew6, h⟩ := bd_1 h
    refine s_iinc (pc := 18) (v := w6) (lc' := [some (vr v0), some (vi w5), some (vi w6)]) d_X5_allOnIt_18 rfl (by rw [ew6]; rfl) (by decide) rfl ?_
    refine s_goto (pc := 21) (tgt := 4) d_X5_allOnIt_21 (by decide) ?_
    exact hk4 _ _ _ h
set_option maxHeartbeats 4000000 in
set_option maxRecDepth 20000 in
theorem t_X5_allOnIt_h4 {l : Launch} {G : Gl} {n : Nat} {sh : Sh} {x : Int32 × Mu} {v0 : Nat} : ∀ (f : Nat) (v1 : Int32) (v2 : Int32) (μ : Mu), m_X5_allOnIt_h4 sh v0 f v1 v2 μ = some x → Sj l G (QI G n sh x) c_X5_allOnIt n sh 0 0 μ 4 [some (vr v0), some (vi v1), some (vi v2)] [] := by
  intro f
  induction f with
  | zero =>
    intro v1 v2 μ h
    cases h
  | succ f ih =>
    intro v1 v2 μ h
    exact t_X5_allOnIt_b4 ih h
set_option maxHeartbeats 4000000 in
set_option maxRecDepth 20000 in
theorem t_X5_allOnIt {l : Launch} {G : Gl} {n : Nat} {sh : Sh} {x : Int32 × Mu} {v0 : Nat} {μ : Mu} (h : m_X5_allOnIt sh v0 μ = some x) : Ct l G ⟨"StripsOfFour$Strip", "allOnIt", "()I"⟩ prog_7_method_6_code 3 (some .int) { frames := 1, cells := 0, slots := 0, locals := 22 } n sh μ [vr v0] (some (.int x.1)) n sh x.2 := by
  refine Ct.of (lc := [some (vr v0), none, none]) (by decide +kernel) (Nat.le_of_ble_eq_true rfl) rfl ?_
  show Sj l G (QI G n sh x) c_X5_allOnIt n sh 0 0 μ 0 [some (vr v0), none, none] []
  unfold m_X5_allOnIt at h
  refine s_iconst (pc := 0) (v := 0) d_X5_allOnIt_0 (by decide) ?_
  refine s_istore_n (pc := 1) (lc' := [some (vr v0), some (vi 0), none]) d_X5_allOnIt_1 rfl (by decide) rfl ?_
  refine s_iconst (pc := 2) (v := 0) d_X5_allOnIt_2 (by decide) ?_
  refine s_istore_n (pc := 3) (lc' := [some (vr v0), some (vi 0), some (vi 0)]) d_X5_allOnIt_3 rfl (by decide) rfl ?_
  exact t_X5_allOnIt_h4 FU _ _ _ h
/-! StripsOfFour$Plan.blinkWeight -/
abbrev c_X2_blinkWeight : Cf := (prog_4_method_14_code, 7, "StripsOfFour$Plan", "blinkWeight", (some .long), { frames := 2, cells := 0, slots := 0, locals := 42 })
theorem d_X2_blinkWeight_0 : decode prog_4_method_14_code 0 = .ok (.lconst 1, 1) := by decide +kernel
theorem d_X2_blinkWeight_1 : decode prog_4_method_14_code 1 = .ok (.lstore 4, 2) := by decide +kernel
theorem d_X2_blinkWeight_3 : decode prog_4_method_14_code 3 = .ok (.iconst 0, 1) := by decide +kernel
theorem d_X2_blinkWeight_4 : decode prog_4_method_14_code 4 = .ok (.istore 6, 2) := by decide +kernel
theorem d_X2_blinkWeight_6 : decode prog_4_method_14_code 6 = .ok (.iload 6, 2) := by decide +kernel
theorem d_X2_blinkWeight_8 : decode prog_4_method_14_code 8 = .ok (.iload_n 2, 1) := by decide +kernel
theorem d_X2_blinkWeight_9 : decode prog_4_method_14_code 9 = .ok (.if_icmp .ge 38, 3) := by decide +kernel
theorem d_X2_blinkWeight_12 : decode prog_4_method_14_code 12 = .ok (.lload 4, 2) := by decide +kernel
theorem d_X2_blinkWeight_14 : decode prog_4_method_14_code 14 = .ok (.iload 6, 2) := by decide +kernel
theorem d_X2_blinkWeight_16 : decode prog_4_method_14_code 16 = .ok (.iload_n 3, 1) := by decide +kernel
theorem d_X2_blinkWeight_17 : decode prog_4_method_14_code 17 = .ok (.if_icmp .ge 12, 3) := by decide +kernel
theorem d_X2_blinkWeight_20 : decode prog_4_method_14_code 20 = .ok (.aload_n 0, 1) := by decide +kernel
theorem d_X2_blinkWeight_21 : decode prog_4_method_14_code 21 = .ok (.iload_n 1, 1) := by decide +kernel
theorem d_X2_blinkWeight_22 : decode prog_4_method_14_code 22 = .ok (.invokevirtual 66, 3) := by decide +kernel
theorem d_X2_blinkWeight_25 : decode prog_4_method_14_code 25 = .ok (.i2l, 1) := by decide +kernel
theorem d_X2_blinkWeight_26 : decode prog_4_method_14_code 26 = .ok (.goto 12, 3) := by decide +kernel
theorem d_X2_blinkWeight_29 : decode prog_4_method_14_code 29 = .ok (.bipush 10, 2) := by decide +kernel
theorem d_X2_blinkWeight_31 : decode prog_4_method_14_code 31 = .ok (.aload_n 0, 1) := by decide +kernel
theorem d_X2_blinkWeight_32 : decode prog_4_method_14_code 32 = .ok (.iload_n 1, 1) := by decide +kernel
theorem d_X2_blinkWeight_33 : decode prog_4_method_14_code 33 = .ok (.invokevirtual 66, 3) := by decide +kernel
theorem d_X2_blinkWeight_36 : decode prog_4_method_14_code 36 = .ok (.isub, 1) := by decide +kernel
theorem d_X2_blinkWeight_37 : decode prog_4_method_14_code 37 = .ok (.i2l, 1) := by decide +kernel
theorem d_X2_blinkWeight_38 : decode prog_4_method_14_code 38 = .ok (.lmul, 1) := by decide +kernel
theorem d_X2_blinkWeight_39 : decode prog_4_method_14_code 39 = .ok (.lstore 4, 2) := by decide +kernel
theorem d_X2_blinkWeight_41 : decode prog_4_method_14_code 41 = .ok (.iinc 6 1, 3) := by decide +kernel
theorem d_X2_blinkWeight_44 : decode prog_4_method_14_code 44 = .ok (.goto (-38), 3) := by decide +kernel
theorem d_X2_blinkWeight_47 : decode prog_4_method_14_code 47 = .ok (.lload 4, 2) := by decide +kernel
theorem d_X2_blinkWeight_49 : decode prog_4_method_14_code 49 = .ok (.lreturn, 1) := by decide +kernel
def m_X2_blinkWeight_b38 (sh : Sh) (k6 : Int64 → Int32 → Mu → Option (Int64 × Mu)) (v0 : Nat) (v1 : Int32) (v2 : Int32) (v3 : Int32) (v6 : Int32) (s0 : Int64) (s1 : Int64) (μ : Mu) : Option (Int64 × Mu) :=
  bd (s1 * s0) fun w9 =>
  bd (v6 + 1) fun w10 =>
  k6 w9 w10 μ
def m_X2_blinkWeight_b6 (sh : Sh) (k6 : Int64 → Int32 → Mu → Option (Int64 × Mu)) (v0 : Nat) (v1 : Int32) (v2 : Int32) (v3 : Int32) (v4 : Int64) (v6 : Int32) (μ : Mu) : Option (Int64 × Mu) :=
  if v2 ≤ v6 then
    some (v4, μ)
  else
    if v3 ≤ v6 then
      gd (iz sh 2 v0) <|
      ca2 (m_X2_tenthsOf sh v0 v1 μ) fun r4 μ5 =>
      m_X2_blinkWeight_b38 sh k6 v0 v1 v2 v3 v6 ((10 - r4).toInt64) v4 μ5
    else
      gd (iz sh 2 v0) <|
      ca2 (m_X2_tenthsOf sh v0 v1 μ) fun r7 μ8 =>
      m_X2_blinkWeight_b38 sh k6 v0 v1 v2 v3 v6 (r7.toInt64) v4 μ8
def m_X2_blinkWeight_h6 (sh : Sh) (v0 : Nat) (v1 : Int32) (v2 : Int32) (v3 : Int32) : Nat → Int64 → Int32 → Mu → Option (Int64 × Mu)
  | 0 => fun _ _ _ => none
  | f + 1 => fun v4 v6 μ => m_X2_blinkWeight_b6 sh (m_X2_blinkWeight_h6 sh v0 v1 v2 v3 f) v0 v1 v2 v3 v4 v6 μ
def m_X2_blinkWeight (sh : Sh) (v0 : Nat) (v1 : Int32) (v2 : Int32) (v3 : Int32) (μ : Mu) : Option (Int64 × Mu) :=
  m_X2_blinkWeight_h6 sh v0 v1 v2 v3 FU 1 0 μ
set_option maxHeartbeats 4000000 in
set_option maxRecDepth 20000 in
theorem t_X2_blinkWeight_b38 {l : Launch} {G : Gl} {n : Nat} {sh : Sh} {x : Int64 × Mu} {k6 : Int64 → Int32 → Mu → Option (Int64 × Mu)} {v0 : Nat} {v1 : Int32} {v2 : Int32} {v3 : Int32} {v6 : Int32} {s0 : Int64} {s1 : Int64} {μ : Mu} (hk6 : ∀ (v4 : Int64) (v6 : Int32) (μ : Mu), k6 v4 v6 μ = some x → Sj l G (QJ G n sh x) c_X2_blinkWeight n sh 0 0 μ 6 [some (vr v0), some (vi v1), some (vi v2), some (vi v3), some (vl v4), none, some (vi v6)] []) (h : m_X2_blinkWeight_b38 sh k6 v0 v1 v2 v3 v6 s0 s1 μ = some x) : Sj l G (QJ G n sh x) c_X2_blinkWeight n sh 0 0 μ 38 [some (vr v0), some (vi v1), some (vi v2), some (vi v3), none, none, some (vi v6)] [vl s0, vl s1] := by
  unfold m_X2_blinkWeight_b38 at h
  refine s_lmul (pc := 38) d_X2_blinkWeight_38 ?_
  obtain ⟨w9, ew9, h⟩ := bd_1 h
  refine s_topJ ew9 ?_
  refine s_lstore (pc := 39) (lc' := [some (vr v0), some (vi v1), some (vi v2), some (vi v3), some (vl w9), none, some (vi v6)]) d_X2_blinkWeight_39 (by decide) rfl ?_
  obtain ⟨w10, ew10, h⟩ := bd_1 h
  refine s_iinc (pc := 41) (v := w10) (lc' := [some (vr v0), some (vi v1), some (vi v2), some (vi v3), some (vl w9), none, some (vi w10)]) d_X2_blinkWeight_41 rfl (by rw [ew10]; rfl) (by decide) rfl ?_
  refine s_goto (pc := 44) (tgt := 6) d_X2_blinkWeight_44 (by decide) ?_
  exact hk6 _ _ _ h
set_option maxHeartbeats 4000000 in
set_option maxRecDepth 20000 in
theorem t_X2_blinkWeight_b6 {l : Launch} {G : Gl} {n : Nat} {sh : Sh} {x : Int64 × Mu} {k6 : Int64 → Int32 → Mu → Option (Int64 × Mu)} {v0 : Nat} {v1 : Int32} {v2 : Int32} {v3 : Int32} {v4 : Int64} {v6 : Int32} {μ : Mu} (hk6 : ∀ (v4 : Int64) (v6 : Int32) (μ : Mu), k6 v4 v6 μ = some x → Sj l G (QJ G n sh x) c_X2_blinkWeight n sh 0 0 μ 6 [some (vr v0), some (vi v1), some (vi v2), some (vi v3), some (vl v4), none, some (vi v6)] []) (h : m_X2_blinkWeight_b6 sh k6 v0 v1 v2 v3 v4 v6 μ = some x) : Sj l G (QJ G n sh x) c_X2_blinkWeight n sh 0 0 μ 6 [some (vr v0), some (vi v1), some (vi v2), some (vi v3), some (vl v4), none, some (vi v6)] [] := by
  unfold m_X2_blinkWeight_b6 at h
  refine s_iload (pc := 6) d_X2_blinkWeight_6 rfl ?_
  refine s_iload_n (pc := 8) d_X2_blinkWeight_8 rfl rfl ?_
  refine s_icmp_ge (pc := 9) (tgt := 47) d_X2_blinkWeight_9 (by decide) (fun c1 => ?_) (fun c1 => ?_)
  · have h := it_t c1 h
    refine s_lload (pc := 47) d_X2_blinkWeight_47 rfl ?_
    obtain rfl := Option.some.inj h
    exact s_lret (pc := 49) d_X2_blinkWeight_49 rfl
  · have h := it_f c1 h
    refine s_lload (pc := 12) d_X2_blinkWeight_12 rfl ?_
    refine s_iload (pc := 14) d_X2_blinkWeight_14 rfl ?_
    refine s_iload_n (pc := 16) d_X2_blinkWeight_16 rfl rfl ?_
    refine s_icmp_ge (pc := 17) (tgt := 29) d_X2_blinkWeight_17 (by decide) (fun c2 => ?_) (fun c2 => ?_)
    · have h := it_t c2 h
      refine s_bipush (pc := 29) (v := 10) d_X2_blinkWeight_29 (by decide) ?_
      refine s_aload_n (pc := 31) d_X2_blinkWeight_31 rfl rfl ?_
      refine s_iload_n (pc := 32) d_X2_blinkWeight_32 rfl rfl ?_
      obtain ⟨g3, h⟩ := gd_1 h
      obtain ⟨r4, μ5, er4, h⟩ := ca2_1 h
      refine s_callV (pc := 33) (as := [vi v1]) (st := [vi 10, vl v4]) (vo := [vi r4]) (t_X2_tenthsOf er4) cl_2 g3 d_X2_blinkWeight_33 y_X2_tenthsOf w_627 w_319 w_320 ⟨by decide, by decide⟩ ⟨Nat.le_of_ble_eq_true rfl, Nat.le_of_ble_eq_true rfl⟩ (Nat.le_of_ble_eq_true rfl) rfl rfl rfl ?_
      refine s_as (kc' := 0) (js' := 0) (pc' := 36) (st' := [vi r4, vi 10, vl v4]) ⟨rfl, rfl, rfl, rfl⟩ ?_
      refine s_isub (pc := 36) d_X2_blinkWeight_36 ?_
      refine s_i2l (pc := 37) d_X2_blinkWeight_37 ?_
      refine s_mask [true, true, true, true, false, true, true] rfl ?_
      exact t_X2_blinkWeight_b38 hk6 h
    · have h := it_f c2 h
      refine s_aload_n (pc := 20) d_X2_blinkWeight_20 rfl rfl ?_
      refine s_iload_n (pc := 21) d_X2_blinkWeight_21 rfl rfl ?_
      obtain ⟨g6, h⟩ := gd_1 h
      obtain ⟨r7, μ8, er7, h⟩ := ca2_1 h
      refine s_callV (pc := 22) (as := [vi v1]) (st := [vl v4]) (vo := [vi r7]) (t_X2_tenthsOf er7) cl_2 g6 d_X2_blinkWeight_22 y_X2_tenthsOf w_627 w_319 w_320 ⟨by decide, by decide⟩ ⟨Nat.le_of_ble_eq_true rfl, Nat.le_of_ble_eq_true rfl⟩ (Nat.le_of_ble_eq_true rfl) rfl rfl rfl ?_
      refine s_as (kc' := 0) (js' := 0) (pc' := 25) (st' := [vi r7, vl v4]) ⟨rfl, rfl, rfl, rfl⟩ ?_
      refine s_i2l (pc := 25) d_X2_blinkWeight_25 ?_
      refine s_goto (pc := 26) (tgt := 38) d_X2_blinkWeight_26 (by decide) ?_
      refine s_mask [true, true, true, true, false, true, true] rfl ?_
      exact t_X2_blinkWeight_b38 hk6 h
set_option maxHeartbeats 4000000 in
set_option maxRecDepth 20000 in
theorem t_X2_blinkWeight_h6 {l : Launch} {G : Gl} {n : Nat} {sh : Sh} {x : Int64 × Mu} {v0 : Nat} {v1 : Int32} {v2 : Int32} {v3 : Int32} : ∀ (f : Nat) (v4 : Int64) (v6 : Int32) (μ : Mu), m_X2_blinkWeight_h6 sh v0 v1 v2 v3 f v4 v6 μ = some x → Sj l G (QJ G n sh x) c_X2_blinkWeight n sh 0 0 μ 6 [some (vr v0), some (vi v1), some (vi v2), some (vi v3), some (vl v4), none, some (vi v6)] [] := by
  intro f
  induction f with
  | zero =>
    intro v4 v6 μ h
    cases h
  | succ f ih =>
    intro v4 v6 μ h
    exact t_X2_blinkWeight_b6 ih h
set_option maxHeartbeats 4000000 in
set_option maxRecDepth 20000 in
theorem t_X2_blinkWeight {l : Launch} {G : Gl} {n : Nat} {sh : Sh} {x : Int64 × Mu} {v0 : Nat} {v1 : Int32} {v2 : Int32} {v3 : Int32} {μ : Mu} (h : m_X2_blinkWeight sh v0 v1 v2 v3 μ = some x) : Ct l G ⟨"StripsOfFour$Plan", "blinkWeight", "(III)J"⟩ prog_4_method_14_code 7 (some .long) { frames := 2, cells := 0, slots := 0, locals := 42 } n sh μ [vr v0, vi v1, vi v2, vi v3] (some (.long x.1)) n sh x.2 := by
  refine Ct.of (lc := [some (vr v0), some (vi v1), some (vi v2), some (vi v3), none, none, none]) (by decide +kernel) (Nat.le_of_ble_eq_true rfl) rfl ?_
  show Sj l G (QJ G n sh x) c_X2_blinkWeight n sh 0 0 μ 0 [some (vr v0), some (vi v1), some (vi v2), some (vi v3), none, none, none] []
  unfold m_X2_blinkWeight at h
  refine s_lconst (pc := 0) (v := 1) d_X2_blinkWeight_0 (by decide) ?_
  refine s_lstore (pc := 1) (lc' := [some (vr v0), some (vi v1), some (vi v2), some (vi v3), some (vl 1), none, none]) d_X2_blinkWeight_1 (by decide) rfl ?_
  refine s_iconst (pc := 3) (v := 0) d_X2_blinkWeight_3 (by decide) ?_
  refine s_istore (pc := 4) (lc' := [some (vr v0), some (vi v1), some (vi v2), some (vi v3), some (vl 1), none, some (vi 0)]) d_X2_blinkWeight_4 (by decide) rfl ?_
  exact t_X2_blinkWeight_h6 FU _ _ _ h

/-! StripsOfFour$Parts.<init> -/
abbrev c_X0_init : Cf := (prog_2_method_1_code, 1, "StripsOfFour$Parts", "<init>", none, { frames := 1, cells := 3, slots := 272, locals := 20 })
theorem d_X0_init_0 : decode prog_2_method_1_code 0 = .ok (.aload_n 0, 1) := by decide +kernel
theorem d_X0_init_1 : decode prog_2_method_1_code 1 = .ok (.invokespecial 3, 3) := by decide +kernel
theorem d_X0_init_4 : decode prog_2_method_1_code 4 = .ok (.aload_n 0, 1) := by decide +kernel
theorem d_X0_init_5 : decode prog_2_method_1_code 5 = .ok (.iconst 0, 1) := by decide +kernel
theorem d_X0_init_6 : decode prog_2_method_1_code 6 = .ok (.putfield 9, 3) := by decide +kernel
theorem d_X0_init_9 : decode prog_2_method_1_code 9 = .ok (.aload_n 0, 1) := by decide +kernel
theorem d_X0_init_10 : decode prog_2_method_1_code 10 = .ok (.bipush 8, 2) := by decide +kernel
theorem d_X0_init_12 : decode prog_2_method_1_code 12 = .ok (.newarray .int, 2) := by decide +kernel
theorem d_X0_init_14 : decode prog_2_method_1_code 14 = .ok (.putfield 15, 3) := by decide +kernel
theorem d_X0_init_17 : decode prog_2_method_1_code 17 = .ok (.aload_n 0, 1) := by decide +kernel
theorem d_X0_init_18 : decode prog_2_method_1_code 18 = .ok (.bipush 8, 2) := by decide +kernel
theorem d_X0_init_20 : decode prog_2_method_1_code 20 = .ok (.newarray .int, 2) := by decide +kernel
theorem d_X0_init_22 : decode prog_2_method_1_code 22 = .ok (.putfield 19, 3) := by decide +kernel
theorem d_X0_init_25 : decode prog_2_method_1_code 25 = .ok (.aload_n 0, 1) := by decide +kernel
theorem d_X0_init_26 : decode prog_2_method_1_code 26 = .ok (.sipush 256, 3) := by decide +kernel
theorem d_X0_init_29 : decode prog_2_method_1_code 29 = .ok (.newarray .int, 2) := by decide +kernel
theorem d_X0_init_31 : decode prog_2_method_1_code 31 = .ok (.putfield 22, 3) := by decide +kernel
theorem d_X0_init_34 : decode prog_2_method_1_code 34 = .ok (.return_, 1) := by decide +kernel
def m_X0_init (n : Nat) (sh : Sh) (v0 : Nat) (μ : Mu) : Option (Nat × Sh × Mu) :=
  gd (nn0 v0) <|
  gd (iz sh 0 v0) <|
  bd (sI μ v0 0 0) fun μ3 =>
  gd (roomB (0 + 1) 3 (0 + 8) 272) <|
  bd (n + 1) fun n5 =>
  bd (0 + 1) fun kc6 =>
  bd (0 + 8) fun js7 =>
  bd (shn sh n5 8 8) fun sh8 =>
  bd (zr μ3 n5) fun μ9 =>
  gd (iz sh8 0 v0) <|
  bd (sR μ9 v0 1 n5) fun μ11 =>
  gd (roomB (kc6 + 1) 3 (js7 + 8) 272) <|
  bd (n5 + 1) fun n13 =>
  bd (kc6 + 1) fun kc14 =>
  bd (js7 + 8) fun js15 =>
  bd (shn sh8 n13 8 8) fun sh16 =>
  bd (zr μ11 n13) fun μ17 =>
  gd (iz sh16 0 v0) <|
  bd (sR μ17 v0 2 n13) fun μ19 =>
  gd (roomB (kc14 + 1) 3 (js15 + 256) 272) <|
  bd (n13 + 1) fun n21 =>
  bd (kc14 + 1) fun kc22 =>
  bd (js15 + 256) fun js23 =>
  bd (shn sh16 n21 8 256) fun sh24 =>
  bd (zr μ19 n21) fun μ25 =>
  gd (iz sh24 0 v0) <|
  bd (sR μ25 v0 3 n21) fun μ27 =>
  gd (eqB kc22 3 js23 272) <|
  some (n21, sh24, μ27)
set_option maxHeartbeats 4000000 in
set_option maxRecDepth 20000 in
theorem t_X0_init {l : Launch} {G : Gl} {n : Nat} {sh : Sh} {x : Nat × Sh × Mu} {v0 : Nat} {μ : Mu} (h : m_X0_init n sh v0 μ = some x) : Ct l G ⟨"StripsOfFour$Parts", "<init>", "()V"⟩ prog_2_method_1_code 1 none { frames := 1, cells := 3, slots := 272, locals := 20 } n sh μ [vr v0] none x.1 x.2.1 x.2.2 := by
  refine Ct.of (lc := [some (vr v0)]) (by decide +kernel) (Nat.le_of_ble_eq_true rfl) rfl ?_
  show Sj l G (QA G 3 272 x) c_X0_init n sh 0 0 μ 0 [some (vr v0)] []
  unfold m_X0_init at h
  refine s_aload_n (pc := 0) d_X0_init_0 rfl rfl ?_
  obtain ⟨g1, h⟩ := gd_1 h
  refine s_objInit (pc := 1) d_X0_init_1 (nn0_eq g1) w_159 w_18 w_19 (by decide) (Nat.le_of_ble_eq_true rfl) ?_
  refine s_aload_n (pc := 4) d_X0_init_4 rfl rfl ?_
  refine s_iconst (pc := 5) (v := 0) d_X0_init_5 (by decide) ?_
  obtain ⟨g2, h⟩ := gd_1 h
  refine s_putI (pc := 6) (k := 0) cl_0 d_X0_init_6 g2 (by decide) w_160 rfl rfl ?_
  obtain ⟨μ3, eμ3, h⟩ := bd_1 h
  refine s_mu eμ3 ?_
  refine s_aload_n (pc := 9) d_X0_init_9 rfl rfl ?_
  refine s_bipush (pc := 10) (v := 8) d_X0_init_10 (by decide) ?_
  obtain ⟨g4, h⟩ := gd_1 h
  refine s_newa (pc := 12) (kd := 8) (ty := .int) (N := 8) (Or.inl ⟨rfl, rfl⟩) d_X0_init_12 rfl w_48 (by decide) (by decide) (by decide) (roomB_eq g4) ?_
  obtain ⟨n5, en5, h⟩ := bd_1 h
  obtain ⟨kc6, ekc6, h⟩ := bd_1 h
  obtain ⟨js7, ejs7, h⟩ := bd_1 h
  obtain ⟨sh8, esh8, h⟩ := bd_1 h
  obtain ⟨μ9, eμ9, h⟩ := bd_1 h
  rw [← en5]
  refine s_nsm (n' := n5) (sh' := sh8) (μ' := μ9) ⟨rfl, esh8, eμ9⟩ ?_
  refine s_as (kc' := kc6) (js' := js7) (pc' := 14) (st' := [vr n5, vr v0]) ⟨ekc6, ejs7, rfl, rfl⟩ ?_
  obtain ⟨g10, h⟩ := gd_1 h
  refine s_putFR (pc := 14) (k := 1) cl_0 d_X0_init_14 g10 (by decide) w_161 rfl rfl rfl (rt_arr _) ?_
  obtain ⟨μ11, eμ11, h⟩ := bd_1 h
  refine s_mu eμ11 ?_
  refine s_aload_n (pc := 17) d_X0_init_17 rfl rfl ?_
  refine s_bipush (pc := 18) (v := 8) d_X0_init_18 (by decide) ?_
  obtain ⟨g12, h⟩ := gd_1 h
  refine s_newa (pc := 20) (kd := 8) (ty := .int) (N := 8) (Or.inl ⟨rfl, rfl⟩) d_X0_init_20 rfl w_48 (by decide) (by decide) (by decide) (roomB_eq g12) ?_
  obtain ⟨n13, en13, h⟩ := bd_1 h
  obtain ⟨kc14, ekc14, h⟩ := bd_1 h
  obtain ⟨js15, ejs15, h⟩ := bd_1 h
  obtain ⟨sh16, esh16, h⟩ := bd_1 h
  obtain ⟨μ17, eμ17, h⟩ := bd_1 h
  rw [← en13]
  refine s_nsm (n' := n13) (sh' := sh16) (μ' := μ17) ⟨rfl, esh16, eμ17⟩ ?_
  refine s_as (kc' := kc14) (js' := js15) (pc' := 22) (st' := [vr n13, vr v0]) ⟨ekc14, ejs15, rfl, rfl⟩ ?_
  obtain ⟨g18, h⟩ := gd_1 h
  refine s_putFR (pc := 22) (k := 2) cl_0 d_X0_init_22 g18 (by decide) w_162 rfl rfl rfl (rt_arr _) ?_
  obtain ⟨μ19, eμ19, h⟩ := bd_1 h
  refine s_mu eμ19 ?_
  refine s_aload_n (pc := 25) d_X0_init_25 rfl rfl ?_
  refine s_sipush (pc := 26) (v := 256) d_X0_init_26 (by decide) ?_
  obtain ⟨g20, h⟩ := gd_1 h
  refine s_newa (pc := 29) (kd := 8) (ty := .int) (N := 256) (Or.inl ⟨rfl, rfl⟩) d_X0_init_29 rfl w_48 (by decide) (by decide) (by decide) (roomB_eq g20) ?_
  obtain ⟨n21, en21, h⟩ := bd_1 h
  obtain ⟨kc22, ekc22, h⟩ := bd_1 h
  obtain ⟨js23, ejs23, h⟩ := bd_1 h
  obtain ⟨sh24, esh24, h⟩ := bd_1 h
  obtain ⟨μ25, eμ25, h⟩ := bd_1 h
  rw [← en21]
  refine s_nsm (n' := n21) (sh' := sh24) (μ' := μ25) ⟨rfl, esh24, eμ25⟩ ?_
  refine s_as (kc' := kc22) (js' := js23) (pc' := 31) (st' := [vr n21, vr v0]) ⟨ekc22, ejs23, rfl, rfl⟩ ?_
  obtain ⟨g26, h⟩ := gd_1 h
  refine s_putFR (pc := 31) (k := 3) cl_0 d_X0_init_31 g26 (by decide) w_163 rfl rfl rfl (rt_arr _) ?_
  obtain ⟨μ27, eμ27, h⟩ := bd_1 h
  refine s_mu eμ27 ?_
  obtain ⟨g28, h⟩ := gd_1 h
  obtain ⟨ez1, ez2⟩ := eqB_eq g28
  obtain rfl := Option.some.inj h
  refine s_as (kc' := 3) (js' := 272) (pc' := 34) (st' := []) ⟨ez1.symm, ez2.symm, rfl, rfl⟩ ?_
  exact s_vret (pc := 34) d_X0_init_34 rfl
/-! StripsOfFour$Rows.<init> -/
abbrev c_X3_init : Cf := (prog_5_method_1_code, 1, "StripsOfFour$Rows", "<init>", none, { frames := 1, cells := 4, slots := 780, locals := 20 })
theorem d_X3_init_0 : decode prog_5_method_1_code 0 = .ok (.aload_n 0, 1) := by decide +kernel
theorem d_X3_init_1 : decode prog_5_method_1_code 1 = .ok (.invokespecial 3, 3) := by decide +kernel
theorem d_X3_init_4 : decode prog_5_method_1_code 4 = .ok (.aload_n 0, 1) := by decide +kernel
theorem d_X3_init_5 : decode prog_5_method_1_code 5 = .ok (.iconst 0, 1) := by decide +kernel
theorem d_X3_init_6 : decode prog_5_method_1_code 6 = .ok (.putfield 9, 3) := by decide +kernel
theorem d_X3_init_9 : decode prog_5_method_1_code 9 = .ok (.aload_n 0, 1) := by decide +kernel
theorem d_X3_init_10 : decode prog_5_method_1_code 10 = .ok (.bipush 6, 2) := by decide +kernel
theorem d_X3_init_12 : decode prog_5_method_1_code 12 = .ok (.newarray .int, 2) := by decide +kernel
theorem d_X3_init_14 : decode prog_5_method_1_code 14 = .ok (.putfield 15, 3) := by decide +kernel
theorem d_X3_init_17 : decode prog_5_method_1_code 17 = .ok (.aload_n 0, 1) := by decide +kernel
theorem d_X3_init_18 : decode prog_5_method_1_code 18 = .ok (.bipush 6, 2) := by decide +kernel
theorem d_X3_init_20 : decode prog_5_method_1_code 20 = .ok (.newarray .int, 2) := by decide +kernel
theorem d_X3_init_22 : decode prog_5_method_1_code 22 = .ok (.putfield 19, 3) := by decide +kernel
theorem d_X3_init_25 : decode prog_5_method_1_code 25 = .ok (.aload_n 0, 1) := by decide +kernel
theorem d_X3_init_26 : decode prog_5_method_1_code 26 = .ok (.sipush 384, 3) := by decide +kernel
theorem d_X3_init_29 : decode prog_5_method_1_code 29 = .ok (.newarray .int, 2) := by decide +kernel
theorem d_X3_init_31 : decode prog_5_method_1_code 31 = .ok (.putfield 22, 3) := by decide +kernel
theorem d_X3_init_34 : decode prog_5_method_1_code 34 = .ok (.aload_n 0, 1) := by decide +kernel
theorem d_X3_init_35 : decode prog_5_method_1_code 35 = .ok (.sipush 384, 3) := by decide +kernel
theorem d_X3_init_38 : decode prog_5_method_1_code 38 = .ok (.newarray .int, 2) := by decide +kernel
theorem d_X3_init_40 : decode prog_5_method_1_code 40 = .ok (.putfield 25, 3) := by decide +kernel
theorem d_X3_init_43 : decode prog_5_method_1_code 43 = .ok (.return_, 1) := by decide +kernel
def m_X3_init (n : Nat) (sh : Sh) (v0 : Nat) (μ : Mu) : Option (Nat × Sh × Mu) :=
  gd (nn0 v0) <|
  gd (iz sh 3 v0) <|
  bd (sI μ v0 0 0) fun μ3 =>
  gd (roomB (0 + 1) 4 (0 + 6) 780) <|
  bd (n + 1) fun n5 =>
  bd (0 + 1) fun kc6 =>
  bd (0 + 6) fun js7 =>
  bd (shn sh n5 8 6) fun sh8 =>
  bd (zr μ3 n5) fun μ9 =>
  gd (iz sh8 3 v0) <|
  bd (sR μ9 v0 1 n5) fun μ11 =>
  gd (roomB (kc6 + 1) 4 (js7 + 6) 780) <|
  bd (n5 + 1) fun n13 =>
  bd (kc6 + 1) fun kc14 =>
  bd (js7 + 6) fun js15 =>
  bd (shn sh8 n13 8 6) fun sh16 =>
  bd (zr μ11 n13) fun μ17 =>
  gd (iz sh16 3 v0) <|
  bd (sR μ17 v0 2 n13) fun μ19 =>
  gd (roomB (kc14 + 1) 4 (js15 + 384) 780) <|
  bd (n13 + 1) fun n21 =>
  bd (kc14 + 1) fun kc22 =>
  bd (js15 + 384) fun js23 =>
  bd (shn sh16 n21 8 384) fun sh24 =>
  bd (zr μ19 n21) fun μ25 =>
  gd (iz sh24 3 v0) <|
  bd (sR μ25 v0 3 n21) fun μ27 =>
  gd (roomB (kc22 + 1) 4 (js23 + 384) 780) <|
  bd (n21 + 1) fun n29 =>
  bd (kc22 + 1) fun kc30 =>
  bd (js23 + 384) fun js31 =>
  bd (shn sh24 n29 8 384) fun sh32 =>
  bd (zr μ27 n29) fun μ33 =>
  gd (iz sh32 3 v0) <|
  bd (sR μ33 v0 4 n29) fun μ35 =>
  gd (eqB kc30 4 js31 780) <|
  some (n29, sh32, μ35)
set_option maxHeartbeats 4000000 in
set_option maxRecDepth 20000 in
theorem t_X3_init {l : Launch} {G : Gl} {n : Nat} {sh : Sh} {x : Nat × Sh × Mu} {v0 : Nat} {μ : Mu} (h : m_X3_init n sh v0 μ = some x) : Ct l G ⟨"StripsOfFour$Rows", "<init>", "()V"⟩ prog_5_method_1_code 1 none { frames := 1, cells := 4, slots := 780, locals := 20 } n sh μ [vr v0] none x.1 x.2.1 x.2.2 := by
  refine Ct.of (lc := [some (vr v0)]) (by decide +kernel) (Nat.le_of_ble_eq_true rfl) rfl ?_
  show Sj l G (QA G 4 780 x) c_X3_init n sh 0 0 μ 0 [some (vr v0)] []
  unfold m_X3_init at h
  refine s_aload_n (pc := 0) d_X3_init_0 rfl rfl ?_
  obtain ⟨g1, h⟩ := gd_1 h
  refine s_objInit (pc := 1) d_X3_init_1 (nn0_eq g1) w_179 w_18 w_19 (by decide) (Nat.le_of_ble_eq_true rfl) ?_
  refine s_aload_n (pc := 4) d_X3_init_4 rfl rfl ?_
  refine s_iconst (pc := 5) (v := 0) d_X3_init_5 (by decide) ?_
  obtain ⟨g2, h⟩ := gd_1 h
  refine s_putI (pc := 6) (k := 0) cl_3 d_X3_init_6 g2 (by decide) w_180 rfl rfl ?_
  obtain ⟨μ3, eμ3, h⟩ := bd_1 h
  refine s_mu eμ3 ?_
  refine s_aload_n (pc := 9) d_X3_init_9 rfl rfl ?_
  refine s_bipush (pc := 10) (v := 6) d_X3_init_10 (by decide) ?_
  obtain ⟨g4, h⟩ := gd_1 h
  refine s_newa (pc := 12) (kd := 8) (ty := .int) (N := 6) (Or.inl ⟨rfl, rfl⟩) d_X3_init_12 rfl w_48 (by decide) (by decide) (by decide) (roomB_eq g4) ?_
  obtain ⟨n5, en5, h⟩ := bd_1 h
  obtain ⟨kc6, ekc6, h⟩ := bd_1 h
  obtain ⟨js7, ejs7, h⟩ := bd_1 h
  obtain ⟨sh8, esh8, h⟩ := bd_1 h
  obtain ⟨μ9, eμ9, h⟩ := bd_1 h
  rw [← en5]
  refine s_nsm (n' := n5) (sh' := sh8) (μ' := μ9) ⟨rfl, esh8, eμ9⟩ ?_
  refine s_as (kc' := kc6) (js' := js7) (pc' := 14) (st' := [vr n5, vr v0]) ⟨ekc6, ejs7, rfl, rfl⟩ ?_
  obtain ⟨g10, h⟩ := gd_1 h
  refine s_putFR (pc := 14) (k := 1) cl_3 d_X3_init_14 g10 (by decide) w_181 rfl rfl rfl (rt_arr _) ?_
  obtain ⟨μ11, eμ11, h⟩ := bd_1 h
  refine s_mu eμ11 ?_
  refine s_aload_n (pc := 17) d_X3_init_17 rfl rfl ?_
  refine s_bipush (pc := 18) (v := 6) d_X3_init_18 (by decide) ?_
  obtain ⟨g12, h⟩ := gd_1 h
  refine s_newa (pc := 20) (kd := 8) (ty := .int) (N := 6) (Or.inl ⟨rfl, rfl⟩) d_X3_init_20 rfl w_48 (by decide) (by decide) (by decide) (roomB_eq g12) ?_
  obtain ⟨n13, en13, h⟩ := bd_1 h
  obtain ⟨kc14, ekc14, h⟩ := bd_1 h
  obtain ⟨js15, ejs15, h⟩ := bd_1 h
  obtain ⟨sh16, esh16, h⟩ := bd_1 h
  obtain ⟨μ17, eμ17, h⟩ := bd_1 h
  rw [← en13]
  refine s_nsm (n' := n13) (sh' := sh16) (μ' := μ17) ⟨rfl, esh16, eμ17⟩ ?_
  refine s_as (kc' := kc14) (js' := js15) (pc' := 22) (st' := [vr n13, vr v0]) ⟨ekc14, ejs15, rfl, rfl⟩ ?_
  obtain ⟨g18, h⟩ := gd_1 h
  refine s_putFR (pc := 22) (k := 2) cl_3 d_X3_init_22 g18 (by decide) w_182 rfl rfl rfl (rt_arr _) ?_
  obtain ⟨μ19, eμ19, h⟩ := bd_1 h
  refine s_mu eμ19 ?_
  refine s_aload_n (pc := 25) d_X3_init_25 rfl rfl ?_
  refine s_sipush (pc := 26) (v := 384) d_X3_init_26 (by decide) ?_
  obtain ⟨g20, h⟩ := gd_1 h
  refine s_newa (pc := 29) (kd := 8) (ty := .int) (N := 384) (Or.inl ⟨rfl, rfl⟩) d_X3_init_29 rfl w_48 (by decide) (by decide) (by decide) (roomB_eq g20) ?_
  obtain ⟨n21, en21, h⟩ := bd_1 h
  obtain ⟨kc22, ekc22, h⟩ := bd_1 h
  obtain ⟨js23, ejs23, h⟩ := bd_1 h
  obtain ⟨sh24, esh24, h⟩ := bd_1 h
  obtain ⟨μ25, eμ25, h⟩ := bd_1 h
  rw [← en21]
  refine s_nsm (n' := n21) (sh' := sh24) (μ' := μ25) ⟨rfl, esh24, eμ25⟩ ?_
  refine s_as (kc' := kc22) (js' := js23) (pc' := 31) (st' := [vr n21, vr v0]) ⟨ekc22, ejs23, rfl, rfl⟩ ?_
  obtain ⟨g26, h⟩ := gd_1 h
  refine s_putFR (pc := 31) (k := 3) cl_3 d_X3_init_31 g26 (by decide) w_183 rfl rfl rfl (rt_arr _) ?_
  obtain ⟨μ27, eμ27, h⟩ := bd_1 h
  refine s_mu eμ27 ?_
  refine s_aload_n (pc := 34) d_X3_init_34 rfl rfl ?_
  refine s_sipush (pc := 35) (v := 384) d_X3_init_35 (by decide) ?_
  obtain ⟨g28, h⟩ := gd_1 h
  refine s_newa (pc := 38) (kd := 8) (ty := .int) (N := 384) (Or.inl ⟨rfl, rfl⟩) d_X3_init_38 rfl w_48 (by decide) (by decide) (by decide) (roomB_eq g28) ?_
  obtain ⟨n29, en29, h⟩ := bd_1 h
  obtain ⟨kc30, ekc30, h⟩ := bd_1 h
  obtain ⟨js31, ejs31, h⟩ := bd_1 h
  obtain ⟨sh32, esh32, h⟩ := bd_1 h
  obtain ⟨μ33, eμ33, h⟩ := bd_1 h
  rw [← en29]
  refine s_nsm (n' := n29) (sh' := sh32) (μ' := μ33) ⟨rfl, esh32, eμ33⟩ ?_
  refine s_as (kc' := kc30) (js' := js31) (pc' := 40) (st' := [vr n29, vr v0]) ⟨ekc30, ejs31, rfl, rfl⟩ ?_
  obtain ⟨g34, h⟩ := gd_1 h
  refine s_putFR (pc := 40) (k := 4) cl_3 d_X3_init_40 g34 (by decide) w_184 rfl rfl rfl (rt_arr _) ?_
  obtain ⟨μ35, eμ35, h⟩ := bd_1 h
  refine s_mu eμ35 ?_
  obtain ⟨g36, h⟩ := gd_1 h
  obtain ⟨ez1, ez2⟩ := eqB_eq g36
  obtain rfl := Option.some.inj h
  refine s_as (kc' := 4) (js' := 780) (pc' := 43) (st' := []) ⟨ez1.symm, ez2.symm, rfl, rfl⟩ ?_
  exact s_vret (pc := 43) d_X3_init_43 rfl
/-! StripsOfFour$Rows.sumOver -/
abbrev c_X3_sumOver : Cf := (prog_5_method_5_code, 7, "StripsOfFour$Rows", "sumOver", (some .int), { frames := 0, cells := 0, slots := 0, locals := 0 })
theorem d_X3_sumOver_0 : decode prog_5_method_5_code 0 = .ok (.iconst 0, 1) := by decide +kernel
theorem d_X3_sumOver_1 : decode prog_5_method_5_code 1 = .ok (.istore 4, 2) := by decide +kernel
theorem d_X3_sumOver_3 : decode prog_5_method_5_code 3 = .ok (.iconst 0, 1) := by decide +kernel
theorem d_X3_sumOver_4 : decode prog_5_method_5_code 4 = .ok (.istore 5, 2) := by decide +kernel
theorem d_X3_sumOver_6 : decode prog_5_method_5_code 6 = .ok (.iload 5, 2) := by decide +kernel
theorem d_X3_sumOver_8 : decode prog_5_method_5_code 8 = .ok (.aload_n 0, 1) := by decide +kernel
theorem d_X3_sumOver_9 : decode prog_5_method_5_code 9 = .ok (.getfield 9, 3) := by decide +kernel
theorem d_X3_sumOver_12 : decode prog_5_method_5_code 12 = .ok (.if_icmp .ge 45, 3) := by decide +kernel
theorem d_X3_sumOver_15 : decode prog_5_method_5_code 15 = .ok (.iload_n 2, 1) := by decide +kernel
theorem d_X3_sumOver_16 : decode prog_5_method_5_code 16 = .ok (.bipush 6, 2) := by decide +kernel
theorem d_X3_sumOver_18 : decode prog_5_method_5_code 18 = .ok (.imul, 1) := by decide +kernel
theorem d_X3_sumOver_19 : decode prog_5_method_5_code 19 = .ok (.iload 5, 2) := by decide +kernel
theorem d_X3_sumOver_21 : decode prog_5_method_5_code 21 = .ok (.iadd, 1) := by decide +kernel
theorem d_X3_sumOver_22 : decode prog_5_method_5_code 22 = .ok (.istore 6, 2) := by decide +kernel
theorem d_X3_sumOver_24 : decode prog_5_method_5_code 24 = .ok (.iload_n 2, 1) := by decide +kernel
theorem d_X3_sumOver_25 : decode prog_5_method_5_code 25 = .ok (.iload_n 3, 1) := by decide +kernel
theorem d_X3_sumOver_26 : decode prog_5_method_5_code 26 = .ok (.iand, 1) := by decide +kernel
theorem d_X3_sumOver_27 : decode prog_5_method_5_code 27 = .ok (.iconst 1, 1) := by decide +kernel
theorem d_X3_sumOver_28 : decode prog_5_method_5_code 28 = .ok (.iload 5, 2) := by decide +kernel
theorem d_X3_sumOver_30 : decode prog_5_method_5_code 30 = .ok (.ishl, 1) := by decide +kernel
theorem d_X3_sumOver_31 : decode prog_5_method_5_code 31 = .ok (.iand, 1) := by decide +kernel
theorem d_X3_sumOver_32 : decode prog_5_method_5_code 32 = .ok (.ifCond .eq 19, 3) := by decide +kernel
theorem d_X3_sumOver_35 : decode prog_5_method_5_code 35 = .ok (.iload 6, 2) := by decide +kernel
theorem d_X3_sumOver_37 : decode prog_5_method_5_code 37 = .ok (.aload_n 1, 1) := by decide +kernel
theorem d_X3_sumOver_38 : decode prog_5_method_5_code 38 = .ok (.arraylength, 1) := by decide +kernel
theorem d_X3_sumOver_39 : decode prog_5_method_5_code 39 = .ok (.if_icmp .ge 12, 3) := by decide +kernel
theorem d_X3_sumOver_42 : decode prog_5_method_5_code 42 = .ok (.iload 4, 2) := by decide +kernel
theorem d_X3_sumOver_44 : decode prog_5_method_5_code 44 = .ok (.aload_n 1, 1) := by decide +kernel
theorem d_X3_sumOver_45 : decode prog_5_method_5_code 45 = .ok (.iload 6, 2) := by decide +kernel
theorem d_X3_sumOver_47 : decode prog_5_method_5_code 47 = .ok (.iaload, 1) := by decide +kernel
theorem d_X3_sumOver_48 : decode prog_5_method_5_code 48 = .ok (.iadd, 1) := by decide +kernel
theorem d_X3_sumOver_49 : decode prog_5_method_5_code 49 = .ok (.istore 4, 2) := by decide +kernel
theorem d_X3_sumOver_51 : decode prog_5_method_5_code 51 = .ok (.iinc 5 1, 3) := by decide +kernel
theorem d_X3_sumOver_54 : decode prog_5_method_5_code 54 = .ok (.goto (-48), 3) := by decide +kernel
theorem d_X3_sumOver_57 : decode prog_5_method_5_code 57 = .ok (.iload 4, 2) := by decide +kernel
theorem d_X3_sumOver_59 : decode prog_5_method_5_code 59 = .ok (.ireturn, 1) := by decide +kernel
def m_X3_sumOver_b51 (sh : Sh) (k6 : Int32 → Int32 → Mu → Option (Int32 × Mu)) (v0 : Nat) (v1 : Nat) (v2 : Int32) (v3 : Int32) (v4 : Int32) (v5 : Int32) (μ : Mu) : Option (Int32 × Mu) :=
  bd (v5 + 1) fun w10 =>
  k6 v4 w10 μ
def m_X3_sumOver_b6 (sh : Sh) (k6 : Int32 → Int32 → Mu → Option (Int32 × Mu)) (v0 : Nat) (v1 : Nat) (v2 : Int32) (v3 : Int32) (v4 : Int32) (v5 : Int32) (μ : Mu) : Option (Int32 × Mu) :=
  gd (iz sh 3 v0) <|
  if (gI μ v0 0) ≤ v5 then
    some (v4, μ)
  else
    bd ((v2 * 6) + v5) fun w3 =>
    if ((v2 &&& v3) &&& (1 <<< (v5 &&& 31))) = 0 then
      m_X3_sumOver_b51 sh k6 v0 v1 v2 v3 v4 v5 μ
    else
      gd (iz sh 8 v1) <|
      if (nI (sh v1).2) ≤ w3 then
        m_X3_sumOver_b51 sh k6 v0 v1 v2 v3 v4 v5 μ
      else
        gd (ix sh 8 v1 w3) <|
        bd (gI μ v1 w3.toNatClampNeg) fun w8 =>
        bd (v4 + w8) fun w9 =>
        m_X3_sumOver_b51 sh k6 v0 v1 v2 v3 w9 v5 μ
def m_X3_sumOver_h6 (sh : Sh) (v0 : Nat) (v1 : Nat) (v2 : Int32) (v3 : Int32) : Nat → Int32 → Int32 → Mu → Option (Int32 × Mu)
  | 0 => fun _ _ _ => none
  | f + 1 => fun v4 v5 μ => m_X3_sumOver_b6 sh (m_X3_sumOver_h6 sh v0 v1 v2 v3 f) v0 v1 v2 v3 v4 v5 μ
def m_X3_sumOver (sh : Sh) (v0 : Nat) (v1 : Nat) (v2 : Int32) (v3 : Int32) (μ : Mu) : Option (Int32 × Mu) :=
  m_X3_sumOver_h6 sh v0 v1 v2 v3 FU 0 0 μ
set_option maxHeartbeats 4000000 in
set_option maxRecDepth 20000 in
theorem t_X3_sumOver_b51 {l : Launch} {G : Gl} {n : Nat} {sh : Sh} {x : Int32 × Mu} {k6 : Int32 → Int32 → Mu → Option (Int32 × Mu)} {v0 : Nat} {v1 : Nat} {v2 : Int32} {v3 : Int32} {v4 : Int32} {v5 : Int32} {μ : Mu} (hk6 : ∀ (v4 : Int32) (v5 : Int32) (μ : Mu), k6 v4 v5 μ = some x → Sj l G (QI G n sh x) c_X3_sumOver n sh 0 0 μ 6 [some (vr v0), some (vr v1), some (vi v2), some (vi v3), some (vi v4), some (vi v5), none] []) (h : m_X3_sumOver_b51 sh k6 v0 v1 v2 v3 v4 v5 μ = some x) : Sj l G (QI G n sh x) c_X3_sumOver n sh 0 0 μ 51 [some (vr v0), some (vr v1), some (vi v2), some (vi v3), some (vi v4), some (vi v5), none] [] := by
  unfold m_X3_sumOver_b51 at h
  obtain ⟨w10, ew10, h⟩ := bd_1 h
  refine s_iinc (pc := 51) (v := w10) (lc' := [some (vr v0), some (vr v1), some (vi v2), some (vi v3), some (vi v4), some (vi w10), none]) d_X3_sumOver_51 rfl (by rw [ew10]; rfl) (by decide) rfl ?_
  refine s_goto (pc := 54) (tgt := 6) d_X3_sumOver_54 (by decide) ?_
  exact hk6 _ _ _ h
set_option maxHeartbeats 4000000 in
set_option maxRecDepth 20000 in
theorem t_X3_sumOver_b6 {l : Launch} {G : Gl} {n : Nat} {sh : Sh} {x : Int32 × Mu} {k6 : Int32 → Int32 → Mu → Option (Int32 × Mu)} {v0 : Nat} {v1 : Nat} {v2 : Int32} {v3 : Int32} {v4 : Int32} {v5 : Int32} {μ : Mu} (hk6 : ∀ (v4 : Int32) (v5 : Int32) (μ : Mu), k6 v4 v5 μ = some x → Sj l G (QI G n sh x) c_X3_sumOver n sh 0 0 μ 6 [some (vr v0), some (vr v1), some (vi v2), some (vi v3), some (vi v4), some (vi v5), none] []) (h : m_X3_sumOver_b6 sh k6 v0 v1 v2 v3 v4 v5 μ = some x) : Sj l G (QI G n sh x) c_X3_sumOver n sh 0 0 μ 6 [some (vr v0), some (vr v1), some (vi v2), some (vi v3), some (vi v4), some (vi v5), none] [] := by
  unfold m_X3_sumOver_b6 at h
  refine s_iload (pc := 6) d_X3_sumOver_6 rfl ?_
  refine s_aload_n (pc := 8) d_X3_sumOver_8 rfl rfl ?_
  obtain ⟨g1, h⟩ := gd_1 h
  refine s_getI (pc := 9) (k := 0) cl_3 d_X3_sumOver_9 g1 (by decide) w_180 rfl ?_
  refine s_icmp_ge (pc := 12) (tgt := 57) d_X3_sumOver_12 (by decide) (fun c2 => ?_) (fun c2 => ?_)
  · have h := it_t c2 h
    refine s_iload (pc := 57) d_X3_sumOver_57 rfl ?_
    obtain rfl := Option.some.inj h
    exact s_iret (pc := 59) d_X3_sumOver_59 rfl
  · have h := it_f c2 h
    refine s_iload_n (pc := 15) d_X3_sumOver_15 rfl rfl ?_
    refine s_bipush (pc := 16) (v := 6) d_X3_sumOver_16 (by decide) ?_
    refine s_imul (pc := 18) d_X3_sumOver_18 ?_
    refine s_iload (pc := 19) d_X3_sumOver_19 rfl ?_
    refine s_iadd (pc := 21) d_X3_sumOver_21 ?_
    obtain ⟨w3, ew3, h⟩ := bd_1 h
    refine s_topI ew3 ?_
    refine s_istore (pc := 22) (lc' := [some (vr v0), some (vr v1), some (vi v2), some (vi v3), some (vi v4), some (vi v5), some (vi w3)]) d_X3_sumOver_22 (by decide) rfl ?_
    refine s_iload_n (pc := 24) d_X3_sumOver_24 rfl rfl ?_
    refine s_iload_n (pc := 25) d_X3_sumOver_25 rfl rfl ?_
    refine s_iand (pc := 26) d_X3_sumOver_26 ?_
    refine s_iconst (pc := 27) (v := 1) d_X3_sumOver_27 (by decide) ?_
    refine s_iload (pc := 28) d_X3_sumOver_28 rfl ?_
    refine s_ishl (pc := 30) d_X3_sumOver_30 ?_
    refine s_iand (pc := 31) d_X3_sumOver_31 ?_
    refine s_if_eq (pc := 32) (tgt := 51) d_X3_sumOver_32 (by decide) (fun c4 => ?_) (fun c4 => ?_)
    · have h := it_t c4 h
      refine s_mask [true, true, true, true, true, true, false] rfl ?_
      exact t_X3_sumOver_b51 hk6 h
    · have h := it_f c4 h
      refine s_iload (pc := 35) d_X3_sumOver_35 rfl ?_
      refine s_aload_n (pc := 37) d_X3_sumOver_37 rfl rfl ?_
      obtain ⟨g5, h⟩ := gd_1 h
      refine s_alen8 (pc := 38) d_X3_sumOver_38 g5 ?_
      refine s_icmp_ge (pc := 39) (tgt := 51) d_X3_sumOver_39 (by decide) (fun c6 => ?_) (fun c6 => ?_)
      · have h := it_t c6 h
        refine s_mask [true, true, true, true, true, true, false] rfl ?_
        exact t_X3_sumOver_b51 hk6 h
      · have h := it_f c6 h
        refine s_iload (pc := 42) d_X3_sumOver_42 rfl ?_
        refine s_aload_n (pc := 44) d_X3_sumOver_44 rfl rfl ?_
        refine s_iload (pc := 45) d_X3_sumOver_45 rfl ?_
        obtain ⟨g7, h⟩ := gd_1 h
        refine s_iald (pc := 47) d_X3_sumOver_47 g7 ?_
        obtain ⟨w8, ew8, h⟩ := bd_1 h
        refine s_topI ew8 ?_
        refine s_iadd (pc := 48) d_X3_sumOver_48 ?_
        obtain ⟨w9, ew9, h⟩ := bd_1 h
        refine s_topI ew9 ?_
        refine s_istore (pc := 49) (lc' := [some (vr v0), some (vr v1), some (vi v2), some (vi v3), some (vi w9), some (vi v5), some (vi w3)]) d_X3_sumOver_49 (by decide) rfl ?_
        refine s_mask [true, true, true, true, true, true, false] rfl ?_
        exact t_X3_sumOver_b51 hk6 h
set_option maxHeartbeats 4000000 in
set_option maxRecDepth 20000 in
theorem t_X3_sumOver_h6 {l : Launch} {G : Gl} {n : Nat} {sh : Sh} {x : Int32 × Mu} {v0 : Nat} {v1 : Nat} {v2 : Int32} {v3 : Int32} : ∀ (f : Nat) (v4 : Int32) (v5 : Int32) (μ : Mu), m_X3_sumOver_h6 sh v0 v1 v2 v3 f v4 v5 μ = some x → Sj l G (QI G n sh x) c_X3_sumOver n sh 0 0 μ 6 [some (vr v0), some (vr v1), some (vi v2), some (vi v3), some (vi v4), some (vi v5), none] [] := by
  intro f
  induction f with
  | zero =>
    intro v4 v5 μ h
    cases h
  | succ f ih =>
    intro v4 v5 μ h
    exact t_X3_sumOver_b6 ih h
set_option maxHeartbeats 4000000 in
set_option maxRecDepth 20000 in
theorem t_X3_sumOver {l : Launch} {G : Gl} {n : Nat} {sh : Sh} {x : Int32 × Mu} {v0 : Nat} {v1 : Nat} {v2 : Int32} {v3 : Int32} {μ : Mu} (h : m_X3_sumOver sh v0 v1 v2 v3 μ = some x) : Ct l G ⟨"StripsOfFour$Rows", "sumOver", "([III)I"⟩ prog_5_method_5_code 7 (some .int) { frames := 0, cells := 0, slots := 0, locals := 0 } n sh μ [vr v0, vr v1, vi v2, vi v3] (some (.int x.1)) n sh x.2 := by
  refine Ct.of (lc := [some (vr v0), some (vr v1), some (vi v2), some (vi v3), none, none, none]) (by decide +kernel) (Nat.le_of_ble_eq_true rfl) rfl ?_
  show Sj l G (QI G n sh x) c_X3_sumOver n sh 0 0 μ 0 [some (vr v0), some (vr v1), some (vi v2), some (vi v3), none, none, none] []
  unfold m_X3_sumOver at h
  refine s_iconst (pc := 0) (v := 0) d_X3_sumOver_0 (by decide) ?_
  refine s_istore (pc := 1) (lc' := [some (vr v0), some (vr v1), some (vi v2), some (vi v3), some (vi 0), none, none]) d_X3_sumOver_1 (by decide) rfl ?_
  refine s_iconst (pc := 3) (v := 0) d_X3_sumOver_3 (by decide) ?_
  refine s_istore (pc := 4) (lc' := [some (vr v0), some (vr v1), some (vi v2), some (vi v3), some (vi 0), some (vi 0), none]) d_X3_sumOver_4 (by decide) rfl ?_
  exact t_X3_sumOver_h6 FU _ _ _ h
/-! StripsOfFour$Rows.countRows -/
abbrev c_X3_countRows : Cf := (prog_5_method_4_code, 7, "StripsOfFour$Rows", "countRows", none, { frames := 1, cells := 0, slots := 0, locals := 26 })
theorem d_X3_countRows_0 : decode prog_5_method_4_code 0 = .ok (.iconst 1, 1) := by decide +kernel
theorem d_X3_countRows_1 : decode prog_5_method_4_code 1 = .ok (.istore_n 3, 1) := by decide +kernel
theorem d_X3_countRows_2 : decode prog_5_method_4_code 2 = .ok (.iload_n 3, 1) := by decide +kernel
theorem d_X3_countRows_3 : decode prog_5_method_4_code 3 = .ok (.iconst 1, 1) := by decide +kernel
theorem d_X3_countRows_4 : decode prog_5_method_4_code 4 = .ok (.aload_n 0, 1) := by decide +kernel
theorem d_X3_countRows_5 : decode prog_5_method_4_code 5 = .ok (.getfield 9, 3) := by decide +kernel
theorem d_X3_countRows_8 : decode prog_5_method_4_code 8 = .ok (.ishl, 1) := by decide +kernel
theorem d_X3_countRows_9 : decode prog_5_method_4_code 9 = .ok (.if_icmp .ge 83, 3) := by decide +kernel
theorem d_X3_countRows_12 : decode prog_5_method_4_code 12 = .ok (.iconst 0, 1) := by decide +kernel
theorem d_X3_countRows_13 : decode prog_5_method_4_code 13 = .ok (.istore 4, 2) := by decide +kernel
theorem d_X3_countRows_15 : decode prog_5_method_4_code 15 = .ok (.iload 4, 2) := by decide +kernel
theorem d_X3_countRows_17 : decode prog_5_method_4_code 17 = .ok (.aload_n 0, 1) := by decide +kernel
theorem d_X3_countRows_18 : decode prog_5_method_4_code 18 = .ok (.getfield 9, 3) := by decide +kernel
theorem d_X3_countRows_21 : decode prog_5_method_4_code 21 = .ok (.if_icmp .ge 65, 3) := by decide +kernel
theorem d_X3_countRows_24 : decode prog_5_method_4_code 24 = .ok (.iload_n 3, 1) := by decide +kernel
theorem d_X3_countRows_25 : decode prog_5_method_4_code 25 = .ok (.iconst 1, 1) := by decide +kernel
theorem d_X3_countRows_26 : decode prog_5_method_4_code 26 = .ok (.iload 4, 2) := by decide +kernel
theorem d_X3_countRows_28 : decode prog_5_method_4_code 28 = .ok (.ishl, 1) := by decide +kernel
theorem d_X3_countRows_29 : decode prog_5_method_4_code 29 = .ok (.iconst (-1), 1) := by decide +kernel
theorem d_X3_countRows_30 : decode prog_5_method_4_code 30 = .ok (.ixor, 1) := by decide +kernel
theorem d_X3_countRows_31 : decode prog_5_method_4_code 31 = .ok (.iand, 1) := by decide +kernel
theorem d_X3_countRows_32 : decode prog_5_method_4_code 32 = .ok (.istore 5, 2) := by decide +kernel
theorem d_X3_countRows_34 : decode prog_5_method_4_code 34 = .ok (.iload_n 3, 1) := by decide +kernel
theorem d_X3_countRows_35 : decode prog_5_method_4_code 35 = .ok (.bipush 6, 2) := by decide +kernel
theorem d_X3_countRows_37 : decode prog_5_method_4_code 37 = .ok (.imul, 1) := by decide +kernel
theorem d_X3_countRows_38 : decode prog_5_method_4_code 38 = .ok (.iload 4, 2) := by decide +kernel
theorem d_X3_countRows_40 : decode prog_5_method_4_code 40 = .ok (.iadd, 1) := by decide +kernel
theorem d_X3_countRows_41 : decode prog_5_method_4_code 41 = .ok (.istore 6, 2) := by decide +kernel
theorem d_X3_countRows_43 : decode prog_5_method_4_code 43 = .ok (.iload 5, 2) := by decide +kernel
theorem d_X3_countRows_45 : decode prog_5_method_4_code 45 = .ok (.iload_n 3, 1) := by decide +kernel
theorem d_X3_countRows_46 : decode prog_5_method_4_code 46 = .ok (.if_icmp .eq 34, 3) := by decide +kernel
theorem d_X3_countRows_49 : decode prog_5_method_4_code 49 = .ok (.iload 6, 2) := by decide +kernel
theorem d_X3_countRows_51 : decode prog_5_method_4_code 51 = .ok (.aload_n 1, 1) := by decide +kernel
theorem d_X3_countRows_52 : decode prog_5_method_4_code 52 = .ok (.arraylength, 1) := by decide +kernel
theorem d_X3_countRows_53 : decode prog_5_method_4_code 53 = .ok (.if_icmp .ge 27, 3) := by decide +kernel
theorem d_X3_countRows_56 : decode prog_5_method_4_code 56 = .ok (.aload_n 1, 1) := by decide +kernel
theorem d_X3_countRows_57 : decode prog_5_method_4_code 57 = .ok (.iload 6, 2) := by decide +kernel
theorem d_X3_countRows_59 : decode prog_5_method_4_code 59 = .ok (.iload 5, 2) := by decide +kernel
theorem d_X3_countRows_61 : decode prog_5_method_4_code 61 = .ok (.ifCond .ne 7, 3) := by decide +kernel
theorem d_X3_countRows_64 : decode prog_5_method_4_code 64 = .ok (.iconst 1, 1) := by decide +kernel
theorem d_X3_countRows_65 : decode prog_5_method_4_code 65 = .ok (.goto 14, 3) := by decide +kernel
theorem d_X3_countRows_68 : decode prog_5_method_4_code 68 = .ok (.aload_n 0, 1) := by decide +kernel
theorem d_X3_countRows_69 : decode prog_5_method_4_code 69 = .ok (.aload_n 1, 1) := by decide +kernel
theorem d_X3_countRows_70 : decode prog_5_method_4_code 70 = .ok (.iload 5, 2) := by decide +kernel
theorem d_X3_countRows_72 : decode prog_5_method_4_code 72 = .ok (.aload_n 2, 1) := by decide +kernel
theorem d_X3_countRows_73 : decode prog_5_method_4_code 73 = .ok (.iload 4, 2) := by decide +kernel
theorem d_X3_countRows_75 : decode prog_5_method_4_code 75 = .ok (.iaload, 1) := by decide +kernel
theorem d_X3_countRows_76 : decode prog_5_method_4_code 76 = .ok (.invokevirtual 60, 3) := by decide +kernel
theorem d_X3_countRows_79 : decode prog_5_method_4_code 79 = .ok (.iastore, 1) := by decide +kernel
theorem d_X3_countRows_80 : decode prog_5_method_4_code 80 = .ok (.iinc 4 1, 3) := by decide +kernel
theorem d_X3_countRows_83 : decode prog_5_method_4_code 83 = .ok (.goto (-68), 3) := by decide +kernel
theorem d_X3_countRows_86 : decode prog_5_method_4_code 86 = .ok (.iinc 3 1, 3) := by decide +kernel
theorem d_X3_countRows_89 : decode prog_5_method_4_code 89 = .ok (.goto (-87), 3) := by decide +kernel
theorem d_X3_countRows_92 : decode prog_5_method_4_code 92 = .ok (.return_, 1) := by decide +kernel
def m_X3_countRows_b80 (sh : Sh) (k2 : Int32 → Mu → Option Mu) (k15 : Int32 → Mu → Option Mu) (v0 : Nat) (v1 : Nat) (v2 : Nat) (v3 : Int32) (v4 : Int32) (μ : Mu) : Option Mu :=
  bd (v4 + 1) fun w16 =>
  k15 w16 μ
def m_X3_countRows_b79 (sh : Sh) (k2 : Int32 → Mu → Option Mu) (k15 : Int32 → Mu → Option Mu) (v0 : Nat) (v1 : Nat) (v2 : Nat) (v3 : Int32) (v4 : Int32) (s0 : Int32) (s1 : Int32) (s2 : Nat) (μ : Mu) : Option Mu :=
  gd (ix sh 8 s2 s1) <|
  bd (sI μ s2 s1.toNatClampNeg s0) fun μ18 =>
  m_X3_countRows_b80 sh k2 k15 v0 v1 v2 v3 v4 μ18
def m_X3_countRows_b86 (sh : Sh) (k2 : Int32 → Mu → Option Mu) (v0 : Nat) (v1 : Nat) (v2 : Nat) (v3 : Int32) (μ : Mu) : Option Mu :=
  bd (v3 + 1) fun w15 =>
  k2 w15 μ
def m_X3_countRows_b15 (sh : Sh) (k2 : Int32 → Mu → Option Mu) (k15 : Int32 → Mu → Option Mu) (v0 : Nat) (v1 : Nat) (v2 : Nat) (v3 : Int32) (v4 : Int32) (μ : Mu) : Option Mu :=
  gd (iz sh 3 v0) <|
  if (gI μ v0 0) ≤ v4 then
    m_X3_countRows_b86 sh k2 v0 v1 v2 v3 μ
  else
    bd (v3 &&& ((1 <<< (v4 &&& 31)) ^^^ (-1))) fun w5 =>
    bd ((v3 * 6) + v4) fun w6 =>
    if w5 = v3 then
      m_X3_countRows_b80 sh k2 k15 v0 v1 v2 v3 v4 μ
    else
      gd (iz sh 8 v1) <|
      if (nI (sh v1).2) ≤ w6 then
        m_X3_countRows_b80 sh k2 k15 v0 v1 v2 v3 v4 μ
      else
        if w5 = 0 then
          m_X3_countRows_b79 sh k2 k15 v0 v1 v2 v3 v4 1 w6 v1 μ
        else
          gd (ix sh 8 v2 v4) <|
          bd (gI μ v2 v4.toNatClampNeg) fun w12 =>
          ca2 (m_X3_sumOver sh v0 v1 w5 w12 μ) fun r13 μ14 =>
          m_X3_countRows_b79 sh k2 k15 v0 v1 v2 v3 v4 r13 w6 v1 μ14
def m_X3_countRows_h15 (sh : Sh) (k2 : Int32 → Mu → Option Mu) (v0 : Nat) (v1 : Nat) (v2 : Nat) (v3 : Int32) : Nat → Int32 → Mu → Option Mu
  | 0 => fun _ _ => none
  | f + 1 => fun v4 μ => m_X3_countRows_b15 sh k2 (m_X3_countRows_h15 sh k2 v0 v1 v2 v3 f) v0 v1 v2 v3 v4 μ
def m_X3_countRows_b2 (sh : Sh) (k2 : Int32 → Mu → Option Mu) (v0 : Nat) (v1 : Nat) (v2 : Nat) (v3 : Int32) (μ : Mu) : Option Mu :=
  gd (iz sh 3 v0) <|
  if (1 <<< ((gI μ v0 0) &&& 31)) ≤ v3 then
    some μ
  else
    m_X3_countRows_h15 sh k2 v0 v1 v2 v3 FU 0 μ
def m_X3_countRows_h2 (sh : Sh) (v0 : Nat) (v1 : Nat) (v2 : Nat) : Nat → Int32 → Mu → Option Mu
  | 0 => fun _ _ => none
  | f + 1 => fun v3 μ => m_X3_countRows_b2 sh (m_X3_countRows_h2 sh v0 v1 v2 f) v0 v1 v2 v3 μ
def m_X3_countRows (sh : Sh) (v0 : Nat) (v1 : Nat) (v2 : Nat) (μ : Mu) : Option Mu :=
  m_X3_countRows_h2 sh v0 v1 v2 FU 1 μ
set_option maxHeartbeats 4000000 in
set_option maxRecDepth 20000 in
theorem t_X3_countRows_b80 {l : Launch} {G : Gl} {n : Nat} {sh : Sh} {x : Mu} {k2 : Int32 → Mu → Option Mu} {k15 : Int32 → Mu → Option Mu} {v0 : Nat} {v1 : Nat} {v2 : Nat} {v3 : Int32} {v4 : Int32} {μ : Mu} (hk2 : ∀ (v3 : Int32) (μ : Mu), k2 v3 μ = some x → Sj l G (QV G n sh x) c_X3_countRows n sh 0 0 μ 2 [some (vr v0), some (vr v1), some (vr v2), some (vi v3), none, none, none] []) (hk15 : ∀ (v4 : Int32) (μ : Mu), k15 v4 μ = some x → Sj l G (QV G n sh x) c_X3_countRows n sh 0 0 μ 15 [some (vr v0), some (vr v1), some (vr v2), some (vi v3), some (vi v4), none, none] []) (h : m_X3_countRows_b80 sh k2 k15 v0 v1 v2 v3 v4 μ = some x) : Sj l G (QV G n sh x) c_X3_countRows n sh 0 0 μ 80 [some (vr v0), some (vr v1), some (vr v2), some (vi v3), some (vi v4), none, none] [] := by
  unfold m_X3_countRows_b80 at h
  obtain ⟨w16, ew16, h⟩ := bd_1 h
  refine s_iinc (pc := 80) (v := w16) (lc' := [some (vr v0), some (vr v1), some (vr v2), some (vi v3), some (vi w16), none, none]) d_X3_countRows_80 rfl (by rw [ew16]; rfl) (by decide) rfl ?_
  refine s_goto (pc := 83) (tgt := 15) d_X3_countRows_83 (by decide) ?_
  exact hk15 _ _ h
set_option maxHeartbeats 4000000 in
set_option maxRecDepth 20000 in
theorem t_X3_countRows_b79 {l : Launch} {G : Gl} {n : Nat} {sh : Sh} {x : Mu} {k2 : Int32 → Mu → Option Mu} {k15 : Int32 → Mu → Option Mu} {v0 : Nat} {v1 : Nat} {v2 : Nat} {v3 : Int32} {v4 : Int32} {s0 : Int32} {s1 : Int32} {s2 : Nat} {μ : Mu} (hk2 : ∀ (v3 : Int32) (μ : Mu), k2 v3 μ = some x → Sj l G (QV G n sh x) c_X3_countRows n sh 0 0 μ 2 [some (vr v0), some (vr v1), some (vr v2), some (vi v3), none, none, none] []) (hk15 : ∀ (v4 : Int32) (μ : Mu), k15 v4 μ = some x → Sj l G (QV G n sh x) c_X3_countRows n sh 0 0 μ 15 [some (vr v0), some (vr v1), some (vr v2), some (vi v3), some (vi v4), none, none] []) (h : m_X3_countRows_b79 sh k2 k15 v0 v1 v2 v3 v4 s0 s1 s2 μ = some x) : Sj l G (QV G n sh x) c_X3_countRows n sh 0 0 μ 79 [some (vr v0), some (vr v1), some (vr v2), some (vi v3), some (vi v4), none, none] [vi s0, vi s1, vr s2] := by
  unfold m_X3_countRows_b79 at h
  obtain ⟨g17, h⟩ := gd_1 h
  refine s_iast (pc := 79) d_X3_countRows_79 g17 ?_
  obtain ⟨μ18, eμ18, h⟩ := bd_1 h
  refine s_mu eμ18 ?_
  exact t_X3_countRows_b80 hk2 hk15 h
set_option maxHeartbeats 4000000 in
set_option maxRecDepth 20000 in
theorem t_X3_countRows_b86 {l : Launch} {G : Gl} {n : Nat} {sh : Sh} {x : Mu} {k2 : Int32 → Mu → Option Mu} {v0 : Nat} {v1 : Nat} {v2 : Nat} {v3 : Int32} {μ : Mu} (hk2 : ∀ (v3 : Int32) (μ : Mu), k2 v3 μ = some x → Sj l G (QV G n sh x) c_X3_countRows n sh 0 0 μ 2 [some (vr v0), some (vr v1), some (vr v2), some (vi v3), none, none, none] []) (h : m_X3_countRows_b86 sh k2 v0 v1 v2 v3 μ = some x) : Sj l G (QV G n sh x) c_X3_countRows n sh 0 0 μ 86 [some (vr v0), some (vr v1), some (vr v2), some (vi v3), none, none, none] [] := by
  unfold m_X3_countRows_b86 at h
  obtain ⟨w15, ew15, h⟩ := bd_1 h
  refine s_iinc (pc := 86) (v := w15) (lc' := [some (vr v0), some (vr v1), some (vr v2), some (vi w15), none, none, none]) d_X3_countRows_86 rfl (by rw [ew15]; rfl) (by decide) rfl ?_
  refine s_goto (pc := 89) (tgt := 2) d_X3_countRows_89 (by decide) ?_
  exact hk2 _ _ h
set_option maxHeartbeats 4000000 in
set_option maxRecDepth 20000 in
theorem t_X3_countRows_b15 {l : Launch} {G : Gl} {n : Nat} {sh : Sh} {x : Mu} {k2 : Int32 → Mu → Option Mu} {k15 : Int32 → Mu → Option Mu} {v0 : Nat} {v1 : Nat} {v2 : Nat} {v3 : Int32} {v4 : Int32} {μ : Mu} (hk2 : ∀ (v3 : Int32) (μ : Mu), k2 v3 μ = some x → Sj l G (QV G n sh x) c_X3_countRows n sh 0 0 μ 2 [some (vr v0), some (vr v1), some (vr v2), some (vi v3), none, none, none] []) (hk15 : ∀ (v4 : Int32) (μ : Mu), k15 v4 μ = some x → Sj l G (QV G n sh x) c_X3_countRows n sh 0 0 μ 15 [some (vr v0), some (vr v1), some (vr v2), some (vi v3), some (vi v4), none, none] []) (h : m_X3_countRows_b15 sh k2 k15 v0 v1 v2 v3 v4 μ = some x) : Sj l G (QV G n sh x) c_X3_countRows n sh 0 0 μ 15 [some (vr v0), some (vr v1), some (vr v2), some (vi v3), some (vi v4), none, none] [] := by
  unfold m_X3_countRows_b15 at h
  refine s_iload (pc := 15) d_X3_countRows_15 rfl ?_
  refine s_aload_n (pc := 17) d_X3_countRows_17 rfl rfl ?_
  obtain ⟨g3, h⟩ := gd_1 h
  refine s_getI (pc := 18) (k := 0) cl_3 d_X3_countRows_18 g3 (by decide) w_180 rfl ?_
  refine s_icmp_ge (pc := 21) (tgt := 86) d_X3_countRows_21 (by decide) (fun c4 => ?_) (fun c4 => ?_)
  · have h := it_t c4 h
    refine s_mask [true, true, true, true, false, true, true] rfl ?_
    exact t_X3_countRows_b86 hk2 h
  · have h := it_f c4 h
    refine s_iload_n (pc := 24) d_X3_countRows_24 rfl rfl ?_
    refine s_iconst (pc := 25) (v := 1) d_X3_countRows_25 (by decide) ?_
    refine s_iload (pc := 26) d_X3_countRows_26 rfl ?_
    refine s_ishl (pc := 28) d_X3_countRows_28 ?_
    refine s_iconst (pc := 29) (v := (-1)) d_X3_countRows_29 (by decide) ?_
    refine s_ixor (pc := 30) d_X3_countRows_30 ?_
    refine s_iand (pc := 31) d_X3_countRows_31 ?_
    obtain ⟨w5, ew5, h⟩ := bd_1 h
    refine s_topI ew5 ?_
    refine s_istore (pc := 32) (lc' := [some (vr v0), some (vr v1), some (vr v2), some (vi v3), some (vi v4), some (vi w5), none]) d_X3_countRows_32 (by decide) rfl ?_
    refine s_iload_n (pc := 34) d_X3_countRows_34 rfl rfl ?_
    refine s_bipush (pc := 35) (v := 6) d_X3_countRows_35 (by decide) ?_
    refine s_imul (pc := 37) d_X3_countRows_37 ?_
    refine s_iload (pc := 38) d_X3_countRows_38 rfl ?_
    refine s_iadd (pc := 40) d_X3_countRows_40 ?_
    obtain ⟨w6, ew6, h⟩ := bd_1 h
    refine s_topI ew6 ?_
    refine s_istore (pc := 41) (lc' := [some (vr v0), some (vr v1), some (vr v2), some (vi v3), some (vi v4), some (vi w5), some (vi w6)]) d_X3_countRows_41 (by decide) rfl ?_
    refine s_iload (pc := 43) d_X3_countRows_43 rfl ?_
    refine s_iload_n (pc := 45) d_X3_countRows_45 rfl rfl ?_
    refine s_icmp_eq (pc := 46) (tgt := 80) d_X3_countRows_46 (by decide) (fun c7 => ?_) (fun c7 => ?_)
    · have h := it_t c7 h
      refine s_mask [true, true, true, true, true, false, false] rfl ?_
      exact t_X3_countRows_b80 hk2 hk15 h
    · have h := it_f c7 h
      refine s_iload (pc := 49) d_X3_countRows_49 rfl ?_
      refine s_aload_n (pc := 51) d_X3_countRows_51 rfl rfl ?_
      obtain ⟨g8, h⟩ := gd_1 h
      refine s_alen8 (pc := 52) d_X3_countRows_52 g8 ?_
      refine s_icmp_ge (pc := 53) (tgt := 80) d_X3_countRows_53 (by decide) (fun c9 => ?_) (fun c9 => ?_)
      · have h := it_t c9 h
        refine s_mask [true, true, true, true, true, false, false] rfl ?_
        exact t_X3_countRows_b80 hk2 hk15 h
      · have h := it_f c9 h
        refine s_aload_n (pc := 56) d_X3_countRows_56 rfl rfl ?_
        refine s_iload (pc := 57) d_X3_countRows_57 rfl ?_
        refine s_iload (pc := 59) d_X3_countRows_59 rfl ?_
        refine s_if_ne (pc := 61) (tgt := 68) d_X3_countRows_61 (by decide) (fun c10 => ?_) (fun c10 => ?_)
        · have h := it_f c10 h
          refine s_aload_n (pc := 68) d_X3_countRows_68 rfl rfl ?_
          refine s_aload_n (pc := 69) d_X3_countRows_69 rfl rfl ?_
          refine s_iload (pc := 70) d_X3_countRows_70 rfl ?_
          refine s_aload_n (pc := 72) d_X3_countRows_72 rfl rfl ?_
          refine s_iload (pc := 73) d_X3_countRows_73 rfl ?_
          obtain ⟨g11, h⟩ := gd_1 h
          refine s_iald (pc := 75) d_X3_countRows_75 g11 ?_
          obtain ⟨w12, ew12, h⟩ := bd_1 h
          refine s_topI ew12 ?_
          obtain ⟨r13, μ14, er13, h⟩ := ca2_1 h
          refine s_callV (pc := 76) (as := [vr v1, vi w5, vi w12]) (st := [vi w6, vr v1]) (vo := [vi r13]) (t_X3_sumOver er13) cl_3 g3 d_X3_countRows_76 y_X3_sumOver w_542 w_544 w_s6 ⟨by decide, by decide⟩ ⟨Nat.le_of_ble_eq_true rfl, Nat.le_of_ble_eq_true rfl⟩ (Nat.le_of_ble_eq_true rfl) rfl rfl rfl ?_
          refine s_as (kc' := 0) (js' := 0) (pc' := 79) (st' := [vi r13, vi w6, vr v1]) ⟨rfl, rfl, rfl, rfl⟩ ?_
          refine s_mask [true, true, true, true, true, false, false] rfl ?_
          exact t_X3_countRows_b79 hk2 hk15 h
        · have h := it_t c10 h
          refine s_iconst (pc := 64) (v := 1) d_X3_countRows_64 (by decide) ?_
          refine s_goto (pc := 65) (tgt := 79) d_X3_countRows_65 (by decide) ?_
          refine s_mask [true, true, true, true, true, false, false] rfl ?_
          exact t_X3_countRows_b79 hk2 hk15 h
set_option maxHeartbeats 4000000 in
set_option maxRecDepth 20000 in
theorem t_X3_countRows_h15 {l : Launch} {G : Gl} {n : Nat} {sh : Sh} {x : Mu} {k2 : Int32 → Mu → Option Mu} {v0 : Nat} {v1 : Nat} {v2 : Nat} {v3 : Int32} (hk2 : ∀ (v3 : Int32) (μ : Mu), k2 v3 μ = some x → Sj l G (QV G n sh x) c_X3_countRows n sh 0 0 μ 2 [some (vr v0), some (vr v1), some (vr v2), some (vi v3), none, none, none] []) : ∀ (f : Nat) (v4 : Int32) (μ : Mu), m_X3_countRows_h15 sh k2 v0 v1 v2 v3 f v4 μ = some x → Sj l G (QV G n sh x) c_X3_countRows n sh 0 0 μ 15 [some (vr v0), some (vr v1), some (vr v2), some (vi v3), some (vi v4), none, none] [] := by
  intro f
  induction f with
  | zero =>
    intro v4 μ h
    cases h
  | succ f ih =>
    intro v4 μ h
    exact t_X3_countRows_b15 hk2 ih h
set_option maxHeartbeats 4000000 in
set_option maxRecDepth 20000 in
theorem t_X3_countRows_b2 {l : Launch} {G : Gl} {n : Nat} {sh : Sh} {x : Mu} {k2 : Int32 → Mu → Option Mu} {v0 : Nat} {v1 : Nat} {v2 : Nat} {v3 : Int32} {μ : Mu} (hk2 : ∀ (v3 : Int32) (μ : Mu), k2 v3 μ = some x → Sj l G (QV G n sh x) c_X3_countRows n sh 0 0 μ 2 [some (vr v0), some (vr v1), some (vr v2), some (vi v3), none, none, none] []) (h : m_X3_countRows_b2 sh k2 v0 v1 v2 v3 μ = some x) : Sj l G (QV G n sh x) c_X3_countRows n sh 0 0 μ 2 [some (vr v0), some (vr v1), some (vr v2), some (vi v3), none, none, none] [] := by
  unfold m_X3_countRows_b2 at h
  refine s_iload_n (pc := 2) d_X3_countRows_2 rfl rfl ?_
  refine s_iconst (pc := 3) (v := 1) d_X3_countRows_3 (by decide) ?_
  refine s_aload_n (pc := 4) d_X3_countRows_4 rfl rfl ?_
  obtain ⟨g1, h⟩ := gd_1 h
  refine s_getI (pc := 5) (k := 0) cl_3 d_X3_countRows_5 g1 (by decide) w_180 rfl ?_
  refine s_ishl (pc := 8) d_X3_countRows_8 ?_
  refine s_icmp_ge (pc := 9) (tgt := 92) d_X3_countRows_9 (by decide) (fun c2 => ?_) (fun c2 => ?_)
  · have h := it_t c2 h
    obtain rfl := Option.some.inj h
    exact s_vret (pc := 92) d_X3_countRows_92 rfl
  · have h := it_f c2 h
    refine s_iconst (pc := 12) (v := 0) d_X3_countRows_12 (by decide) ?_
    refine s_istore (pc := 13) (lc' := [some (vr v0), some (vr v1), some (vr v2), some (vi v3), some (vi 0), none, none]) d_X3_countRows_13 (by decide) rfl ?_
    exact t_X3_countRows_h15 hk2 FU _ _ h
set_option maxHeartbeats 4000000 in
set_option maxRecDepth 20000 in
theorem t_X3_countRows_h2 {l : Launch} {G : Gl} {n : Nat} {sh : Sh} {x : Mu} {v0 : Nat} {v1 : Nat} {v2 : Nat} : ∀ (f : Nat) (v3 : Int32) (μ : Mu), m_X3_countRows_h2 sh v0 v1 v2 f v3 μ = some x → Sj l G (QV G n sh x) c_X3_countRows n sh 0 0 μ 2 [some (vr v0), some (vr v1), some (vr v2), some (vi v3), none, none, none] [] := by
  intro f
  induction f with
  | zero =>
    intro v3 μ h
    cases h
  | succ f ih =>
    intro v3 μ h
    exact t_X3_countRows_b2 ih h
set_option maxHeartbeats 4000000 in
set_option maxRecDepth 20000 in
theorem t_X3_countRows {l : Launch} {G : Gl} {n : Nat} {sh : Sh} {x : Mu} {v0 : Nat} {v1 : Nat} {v2 : Nat} {μ : Mu} (h : m_X3_countRows sh v0 v1 v2 μ = some x) : Ct l G ⟨"StripsOfFour$Rows", "countRows", "([I[I)V"⟩ prog_5_method_4_code 7 none { frames := 1, cells := 0, slots := 0, locals := 26 } n sh μ [vr v0, vr v1, vr v2] none n sh x := by
  refine Ct.of (lc := [some (vr v0), some (vr v1), some (vr v2), none, none, none, none]) (by decide +kernel) (Nat.le_of_ble_eq_true rfl) rfl ?_
  show Sj l G (QV G n sh x) c_X3_countRows n sh 0 0 μ 0 [some (vr v0), some (vr v1), some (vr v2), none, none, none, none] []
  unfold m_X3_countRows at h
  refine s_iconst (pc := 0) (v := 1) d_X3_countRows_0 (by decide) ?_
  refine s_istore_n (pc := 1) (lc' := [some (vr v0), some (vr v1), some (vr v2), some (vi 1), none, none, none]) d_X3_countRows_1 rfl (by decide) rfl ?_
  exact t_X3_countRows_h2 FU _ _ h
/-! StripsOfFour$Rows.mayFollow -/
abbrev c_X3_mayFollow : Cf := (prog_5_method_3_code, 2, "StripsOfFour$Rows", "mayFollow", (some .boolean), { frames := 1, cells := 0, slots := 0, locals := 22 })
theorem d_X3_mayFollow_0 : decode prog_5_method_3_code 0 = .ok (.aload_n 0, 1) := by decide +kernel
theorem d_X3_mayFollow_1 : decode prog_5_method_3_code 1 = .ok (.iconst 3, 1) := by decide +kernel
theorem d_X3_mayFollow_2 : decode prog_5_method_3_code 2 = .ok (.iconst 2, 1) := by decide +kernel
theorem d_X3_mayFollow_3 : decode prog_5_method_3_code 3 = .ok (.invokevirtual 51, 3) := by decide +kernel
theorem d_X3_mayFollow_6 : decode prog_5_method_3_code 6 = .ok (.aload_n 1, 1) := by decide +kernel
theorem d_X3_mayFollow_7 : decode prog_5_method_3_code 7 = .ok (.iconst 0, 1) := by decide +kernel
theorem d_X3_mayFollow_8 : decode prog_5_method_3_code 8 = .ok (.iconst 2, 1) := by decide +kernel
theorem d_X3_mayFollow_9 : decode prog_5_method_3_code 9 = .ok (.invokevirtual 51, 3) := by decide +kernel
theorem d_X3_mayFollow_12 : decode prog_5_method_3_code 12 = .ok (.invokestatic 56, 3) := by decide +kernel
theorem d_X3_mayFollow_15 : decode prog_5_method_3_code 15 = .ok (.ireturn, 1) := by decide +kernel
def m_X3_mayFollow (sh : Sh) (v0 : Nat) (v1 : Nat) (μ : Mu) : Option (Int32 × Mu) :=
  gd (iz sh 5 v0) <|
  ca2 (m_X5_cell sh v0 3 2 μ) fun r2 μ3 =>
  gd (iz sh 5 v1) <|
  ca2 (m_X5_cell sh v1 0 2 μ3) fun r5 μ6 =>
  ca2 (m_X6_hatGoesOn sh r2 r5 μ6) fun r7 μ8 =>
  some (r7 &&& 1, μ8)
set_option maxHeartbeats 4000000 in
set_option maxRecDepth 20000 in
theorem t_X3_mayFollow {l : Launch} {G : Gl} {n : Nat} {sh : Sh} {x : Int32 × Mu} {v0 : Nat} {v1 : Nat} {μ : Mu} (h : m_X3_mayFollow sh v0 v1 μ = some x) : Ct l G ⟨"StripsOfFour$Rows", "mayFollow", "(LStripsOfFour$Strip;LStripsOfFour$Strip;)Z"⟩ prog_5_method_3_code 2 (some .boolean) { frames := 1, cells := 0, slots := 0, locals := 22 } n sh μ [vr v0, vr v1] (some (.int x.1)) n sh x.2 := by
  refine Ct.of (lc := [some (vr v0), some (vr v1)]) (by decide +kernel) (Nat.le_of_ble_eq_true rfl) rfl ?_
  show Sj l G (QI G n sh x) c_X3_mayFollow n sh 0 0 μ 0 [some (vr v0), some (vr v1)] []
  unfold m_X3_mayFollow at h
  refine s_aload_n (pc := 0) d_X3_mayFollow_0 rfl rfl ?_
  refine s_iconst (pc := 1) (v := 3) d_X3_mayFollow_1 (by decide) ?_
  refine s_iconst (pc := 2) (v := 2) d_X3_mayFollow_2 (by decide) ?_
  obtain ⟨g1, h⟩ := gd_1 h
  obtain ⟨r2, μ3, er2, h⟩ := ca2_1 h
  refine s_callV (pc := 3) (as := [vi 3, vi 2]) (st := []) (vo := [vi r2]) (t_X5_cell er2) cl_5 g1 d_X3_mayFollow_3 y_X5_cell w_536 w_350 w_351 ⟨by decide, by decide⟩ ⟨Nat.le_of_ble_eq_true rfl, Nat.le_of_ble_eq_true rfl⟩ (Nat.le_of_ble_eq_true rfl) rfl rfl rfl ?_
  refine s_as (kc' := 0) (js' := 0) (pc' := 6) (st' := [vi r2]) ⟨rfl, rfl, rfl, rfl⟩ ?_
  refine s_aload_n (pc := 6) d_X3_mayFollow_6 rfl rfl ?_
  refine s_iconst (pc := 7) (v := 0) d_X3_mayFollow_7 (by decide) ?_
  refine s_iconst (pc := 8) (v := 2) d_X3_mayFollow_8 (by decide) ?_
  obtain ⟨g4, h⟩ := gd_1 h
  obtain ⟨r5, μ6, er5, h⟩ := ca2_1 h
  refine s_callV (pc := 9) (as := [vi 0, vi 2]) (st := [vi r2]) (vo := [vi r5]) (t_X5_cell er5) cl_5 g4 d_X3_mayFollow_9 y_X5_cell w_536 w_350 w_351 ⟨by decide, by decide⟩ ⟨Nat.le_of_ble_eq_true rfl, Nat.le_of_ble_eq_true rfl⟩ (Nat.le_of_ble_eq_true rfl) rfl rfl rfl ?_
  refine s_as (kc' := 0) (js' := 0) (pc' := 12) (st' := [vi r5, vi r2]) ⟨rfl, rfl, rfl, rfl⟩ ?_
  obtain ⟨r7, μ8, er7, h⟩ := ca2_1 h
  refine s_callSN (pc := 12) (as := [vi r2, vi r5]) (st := []) (vo := [vi r7]) (t_X6_hatGoesOn er7) d_X3_mayFollow_12 y_X6_hatGoesOn w_n537 w_504 ⟨by decide, by decide⟩ ⟨Nat.le_of_ble_eq_true rfl, Nat.le_of_ble_eq_true rfl⟩ (Nat.le_of_ble_eq_true rfl) rfl rfl rfl ?_
  refine s_as (kc' := 0) (js' := 0) (pc' := 15) (st' := [vi r7]) ⟨rfl, rfl, rfl, rfl⟩ ?_
  obtain rfl := Option.some.inj h
  exact s_zret (pc := 15) d_X3_mayFollow_15 rfl
/-! StripsOfFour$Rows.gather -/
abbrev c_X3_gather : Cf := (prog_5_method_2_code, 4, "StripsOfFour$Rows", "gather", none, { frames := 2, cells := 0, slots := 0, locals := 52 })
theorem d_X3_gather_0 : decode prog_5_method_2_code 0 = .ok (.aload_n 0, 1) := by decide +kernel
theorem d_X3_gather_1 : decode prog_5_method_2_code 1 = .ok (.aload_n 1, 1) := by decide +kernel
theorem d_X3_gather_2 : decode prog_5_method_2_code 2 = .ok (.getfield 28, 3) := by decide +kernel
theorem d_X3_gather_5 : decode prog_5_method_2_code 5 = .ok (.bipush 6, 2) := by decide +kernel
theorem d_X3_gather_7 : decode prog_5_method_2_code 7 = .ok (.invokestatic 33, 3) := by decide +kernel
theorem d_X3_gather_10 : decode prog_5_method_2_code 10 = .ok (.putfield 9, 3) := by decide +kernel
theorem d_X3_gather_13 : decode prog_5_method_2_code 13 = .ok (.iconst 0, 1) := by decide +kernel
theorem d_X3_gather_14 : decode prog_5_method_2_code 14 = .ok (.istore_n 2, 1) := by decide +kernel
theorem d_X3_gather_15 : decode prog_5_method_2_code 15 = .ok (.iload_n 2, 1) := by decide +kernel
theorem d_X3_gather_16 : decode prog_5_method_2_code 16 = .ok (.aload_n 0, 1) := by decide +kernel
theorem d_X3_gather_17 : decode prog_5_method_2_code 17 = .ok (.getfield 9, 3) := by decide +kernel
theorem d_X3_gather_20 : decode prog_5_method_2_code 20 = .ok (.if_icmp .ge 107, 3) := by decide +kernel
theorem d_X3_gather_23 : decode prog_5_method_2_code 23 = .ok (.aload_n 0, 1) := by decide +kernel
theorem d_X3_gather_24 : decode prog_5_method_2_code 24 = .ok (.getfield 15, 3) := by decide +kernel
theorem d_X3_gather_27 : decode prog_5_method_2_code 27 = .ok (.iload_n 2, 1) := by decide +kernel
theorem d_X3_gather_28 : decode prog_5_method_2_code 28 = .ok (.iconst 0, 1) := by decide +kernel
theorem d_X3_gather_29 : decode prog_5_method_2_code 29 = .ok (.iastore, 1) := by decide +kernel
theorem d_X3_gather_30 : decode prog_5_method_2_code 30 = .ok (.aload_n 0, 1) := by decide +kernel
theorem d_X3_gather_31 : decode prog_5_method_2_code 31 = .ok (.getfield 19, 3) := by decide +kernel
theorem d_X3_gather_34 : decode prog_5_method_2_code 34 = .ok (.iload_n 2, 1) := by decide +kernel
theorem d_X3_gather_35 : decode prog_5_method_2_code 35 = .ok (.iconst 0, 1) := by decide +kernel
theorem d_X3_gather_36 : decode prog_5_method_2_code 36 = .ok (.iastore, 1) := by decide +kernel
theorem d_X3_gather_37 : decode prog_5_method_2_code 37 = .ok (.iconst 0, 1) := by decide +kernel
theorem d_X3_gather_38 : decode prog_5_method_2_code 38 = .ok (.istore_n 3, 1) := by decide +kernel
theorem d_X3_gather_39 : decode prog_5_method_2_code 39 = .ok (.iload_n 3, 1) := by decide +kernel
theorem d_X3_gather_40 : decode prog_5_method_2_code 40 = .ok (.aload_n 0, 1) := by decide +kernel
theorem d_X3_gather_41 : decode prog_5_method_2_code 41 = .ok (.getfield 9, 3) := by decide +kernel
theorem d_X3_gather_44 : decode prog_5_method_2_code 44 = .ok (.if_icmp .ge 77, 3) := by decide +kernel
theorem d_X3_gather_47 : decode prog_5_method_2_code 47 = .ok (.aload_n 0, 1) := by decide +kernel
theorem d_X3_gather_48 : decode prog_5_method_2_code 48 = .ok (.getfield 15, 3) := by decide +kernel
theorem d_X3_gather_51 : decode prog_5_method_2_code 51 = .ok (.iload_n 2, 1) := by decide +kernel
theorem d_X3_gather_52 : decode prog_5_method_2_code 52 = .ok (.dup2, 1) := by decide +kernel
theorem d_X3_gather_53 : decode prog_5_method_2_code 53 = .ok (.iaload, 1) := by decide +kernel
theorem d_X3_gather_54 : decode prog_5_method_2_code 54 = .ok (.aload_n 1, 1) := by decide +kernel
theorem d_X3_gather_55 : decode prog_5_method_2_code 55 = .ok (.getfield 39, 3) := by decide +kernel
theorem d_X3_gather_58 : decode prog_5_method_2_code 58 = .ok (.iload_n 3, 1) := by decide +kernel
theorem d_X3_gather_59 : decode prog_5_method_2_code 59 = .ok (.aaload, 1) := by decide +kernel
theorem d_X3_gather_60 : decode prog_5_method_2_code 60 = .ok (.aload_n 1, 1) := by decide +kernel
theorem d_X3_gather_61 : decode prog_5_method_2_code 61 = .ok (.getfield 39, 3) := by decide +kernel
theorem d_X3_gather_64 : decode prog_5_method_2_code 64 = .ok (.iload_n 2, 1) := by decide +kernel
theorem d_X3_gather_65 : decode prog_5_method_2_code 65 = .ok (.aaload, 1) := by decide +kernel
theorem d_X3_gather_66 : decode prog_5_method_2_code 66 = .ok (.invokestatic 43, 3) := by decide +kernel
theorem d_X3_gather_69 : decode prog_5_method_2_code 69 = .ok (.ifCond .eq 9, 3) := by decide +kernel
theorem d_X3_gather_72 : decode prog_5_method_2_code 72 = .ok (.iconst 1, 1) := by decide +kernel
theorem d_X3_gather_73 : decode prog_5_method_2_code 73 = .ok (.iload_n 3, 1) := by decide +kernel
theorem d_X3_gather_74 : decode prog_5_method_2_code 74 = .ok (.ishl, 1) := by decide +kernel
theorem d_X3_gather_75 : decode prog_5_method_2_code 75 = .ok (.goto 4, 3) := by decide +kernel
theorem d_X3_gather_78 : decode prog_5_method_2_code 78 = .ok (.iconst 0, 1) := by decide +kernel
theorem d_X3_gather_79 : decode prog_5_method_2_code 79 = .ok (.ior, 1) := by decide +kernel
theorem d_X3_gather_80 : decode prog_5_method_2_code 80 = .ok (.iastore, 1) := by decide +kernel
theorem d_X3_gather_81 : decode prog_5_method_2_code 81 = .ok (.aload_n 0, 1) := by decide +kernel
theorem d_X3_gather_82 : decode prog_5_method_2_code 82 = .ok (.getfield 19, 3) := by decide +kernel
theorem d_X3_gather_85 : decode prog_5_method_2_code 85 = .ok (.iload_n 2, 1) := by decide +kernel
theorem d_X3_gather_86 : decode prog_5_method_2_code 86 = .ok (.dup2, 1) := by decide +kernel
theorem d_X3_gather_87 : decode prog_5_method_2_code 87 = .ok (.iaload, 1) := by decide +kernel
theorem d_X3_gather_88 : decode prog_5_method_2_code 88 = .ok (.aload_n 1, 1) := by decide +kernel
theorem d_X3_gather_89 : decode prog_5_method_2_code 89 = .ok (.getfield 39, 3) := by decide +kernel
theorem d_X3_gather_92 : decode prog_5_method_2_code 92 = .ok (.iload_n 2, 1) := by decide +kernel
theorem d_X3_gather_93 : decode prog_5_method_2_code 93 = .ok (.aaload, 1) := by decide +kernel
theorem d_X3_gather_94 : decode prog_5_method_2_code 94 = .ok (.aload_n 1, 1) := by decide +kernel
theorem d_X3_gather_95 : decode prog_5_method_2_code 95 = .ok (.getfield 39, 3) := by decide +kernel
theorem d_X3_gather_98 : decode prog_5_method_2_code 98 = .ok (.iload_n 3, 1) := by decide +kernel
theorem d_X3_gather_99 : decode prog_5_method_2_code 99 = .ok (.aaload, 1) := by decide +kernel
theorem d_X3_gather_100 : decode prog_5_method_2_code 100 = .ok (.invokestatic 43, 3) := by decide +kernel
theorem d_X3_gather_103 : decode prog_5_method_2_code 103 = .ok (.ifCond .eq 9, 3) := by decide +kernel
theorem d_X3_gather_106 : decode prog_5_method_2_code 106 = .ok (.iconst 1, 1) := by decide +kernel
theorem d_X3_gather_107 : decode prog_5_method_2_code 107 = .ok (.iload_n 3, 1) := by decide +kernel
theorem d_X3_gather_108 : decode prog_5_method_2_code 108 = .ok (.ishl, 1) := by decide +kernel
theorem d_X3_gather_109 : decode prog_5_method_2_code 109 = .ok (.goto 4, 3) := by decide +kernel
theorem d_X3_gather_112 : decode prog_5_method_2_code 112 = .ok (.iconst 0, 1) := by decide +kernel
theorem d_X3_gather_113 : decode prog_5_method_2_code 113 = .ok (.ior, 1) := by decide +kernel
theorem d_X3_gather_114 : decode prog_5_method_2_code 114 = .ok (.iastore, 1) := by decide +kernel
theorem d_X3_gather_115 : decode prog_5_method_2_code 115 = .ok (.iinc 3 1, 3) := by decide +kernel
theorem d_X3_gather_118 : decode prog_5_method_2_code 118 = .ok (.goto (-79), 3) := by decide +kernel
theorem d_X3_gather_121 : decode prog_5_method_2_code 121 = .ok (.iinc 2 1, 3) := by decide +kernel
theorem d_X3_gather_124 : decode prog_5_method_2_code 124 = .ok (.goto (-109), 3) := by decide +kernel
theorem d_X3_gather_127 : decode prog_5_method_2_code 127 = .ok (.aload_n 0, 1) := by decide +kernel
theorem d_X3_gather_128 : decode prog_5_method_2_code 128 = .ok (.aload_n 0, 1) := by decide +kernel
theorem d_X3_gather_129 : decode prog_5_method_2_code 129 = .ok (.getfield 22, 3) := by decide +kernel
theorem d_X3_gather_132 : decode prog_5_method_2_code 132 = .ok (.aload_n 0, 1) := by decide +kernel
theorem d_X3_gather_133 : decode prog_5_method_2_code 133 = .ok (.getfield 15, 3) := by decide +kernel
theorem d_X3_gather_136 : decode prog_5_method_2_code 136 = .ok (.invokevirtual 47, 3) := by decide +kernel
theorem d_X3_gather_139 : decode prog_5_method_2_code 139 = .ok (.aload_n 0, 1) := by decide +kernel
theorem d_X3_gather_140 : decode prog_5_method_2_code 140 = .ok (.aload_n 0, 1) := by decide +kernel
theorem d_X3_gather_141 : decode prog_5_method_2_code 141 = .ok (.getfield 25, 3) := by decide +kernel
theorem d_X3_gather_144 : decode prog_5_method_2_code 144 = .ok (.aload_n 0, 1) := by decide +kernel
theorem d_X3_gather_145 : decode prog_5_method_2_code 145 = .ok (.getfield 19, 3) := by decide +kernel
theorem d_X3_gather_148 : decode prog_5_method_2_code 148 = .ok (.invokevirtual 47, 3) := by decide +kernel
theorem d_X3_gather_151 : decode prog_5_method_2_code 151 = .ok (.return_, 1) := by decide +kernel
def m_X3_gather_b113 (sh : Sh) (k15 : Int32 → Mu → Option Mu) (k39 : Int32 → Mu → Option Mu) (v0 : Nat) (v1 : Nat) (v2 : Int32) (v3 : Int32) (s0 : Int32) (s1 : Int32) (s2 : Int32) (s3 : Nat) (μ : Mu) : Option Mu :=
  gd (ix sh 8 s3 s2) <|
  bd (sI μ s3 s2.toNatClampNeg (s1 ||| s0)) fun μ54 =>
  bd (v3 + 1) fun w55 =>
  k39 w55 μ54
def m_X3_gather_b79 (sh : Sh) (k15 : Int32 → Mu → Option Mu) (k39 : Int32 → Mu → Option Mu) (v0 : Nat) (v1 : Nat) (v2 : Int32) (v3 : Int32) (s0 : Int32) (s1 : Int32) (s2 : Int32) (s3 : Nat) (μ : Mu) : Option Mu :=
  gd (ix sh 8 s3 s2) <|
  bd (sI μ s3 s2.toNatClampNeg (s1 ||| s0)) fun μ38 =>
  gd (iz sh 3 v0) <|
  bd (gR μ38 v0 2) fun a40 =>
  gd (ix sh 8 a40 v2) <|
  bd (gI μ38 a40 v2.toNatClampNeg) fun w42 =>
  gd (iz sh 4 v1) <|
  bd (gR μ38 v1 5) fun a44 =>
  gd (ix sh 11 a44 v2) <|
  bd (gR μ38 a44 v2.toNatClampNeg) fun a46 =>
  bd (gR μ38 v1 5) fun a47 =>
  gd (ix sh 11 a47 v3) <|
  bd (gR μ38 a47 v3.toNatClampNeg) fun a49 =>
  ca2 (m_X3_mayFollow sh a46 a49 μ38) fun r50 μ51 =>
  if r50 = 0 then
    m_X3_gather_b113 sh k15 k39 v0 v1 v2 v3 0 w42 v2 a40 μ51
  else
    m_X3_gather_b113 sh k15 k39 v0 v1 v2 v3 (1 <<< (v3 &&& 31)) w42 v2 a40 μ51
def m_X3_gather_b121 (sh : Sh) (k15 : Int32 → Mu → Option Mu) (v0 : Nat) (v1 : Nat) (v2 : Int32) (μ : Mu) : Option Mu :=
  bd (v2 + 1) fun w36 =>
  k15 w36 μ
def m_X3_gather_b39 (sh : Sh) (k15 : Int32 → Mu → Option Mu) (k39 : Int32 → Mu → Option Mu) (v0 : Nat) (v1 : Nat) (v2 : Int32) (v3 : Int32) (μ : Mu) : Option Mu :=
  gd (iz sh 3 v0) <|
  if (gI μ v0 0) ≤ v3 then
    m_X3_gather_b121 sh k15 v0 v1 v2 μ
  else
    bd (gR μ v0 1) fun a23 =>
    gd (ix sh 8 a23 v2) <|
    bd (gI μ a23 v2.toNatClampNeg) fun w25 =>
    gd (iz sh 4 v1) <|
    bd (gR μ v1 5) fun a27 =>
    gd (ix sh 11 a27 v3) <|
    bd (gR μ a27 v3.toNatClampNeg) fun a29 =>
    bd (gR μ v1 5) fun a30 =>
    gd (ix sh 11 a30 v2) <|
    bd (gR μ a30 v2.toNatClampNeg) fun a32 =>
    ca2 (m_X3_mayFollow sh a29 a32 μ) fun r33 μ34 =>
    if r33 = 0 then
      m_X3_gather_b79 sh k15 k39 v0 v1 v2 v3 0 w25 v2 a23 μ34
    else
      m_X3_gather_b79 sh k15 k39 v0 v1 v2 v3 (1 <<< (v3 &&& 31)) w25 v2 a23 μ34
def m_X3_gather_h39 (sh : Sh) (k15 : Int32 → Mu → Option Mu) (v0 : Nat) (v1 : Nat) (v2 : Int32) : Nat → Int32 → Mu → Option Mu
  | 0 => fun _ _ => none
  | f + 1 => fun v3 μ => m_X3_gather_b39 sh k15 (m_X3_gather_h39 sh k15 v0 v1 v2 f) v0 v1 v2 v3 μ
def m_X3_gather_b127 (sh : Sh) (v0 : Nat) (μ : Mu) : Option Mu :=
  gd (iz sh 3 v0) <|
  bd (gR μ v0 3) fun a15 =>
  bd (gR μ v0 1) fun a16 =>
  ca (m_X3_countRows sh v0 a15 a16 μ) fun μ17 =>
  bd (gR μ17 v0 4) fun a18 =>
  bd (gR μ17 v0 2) fun a19 =>
  ca (m_X3_countRows sh v0 a18 a19 μ17) fun μ20 =>
  some μ20
def m_X3_gather_b15 (sh : Sh) (k15 : Int32 → Mu → Option Mu) (v0 : Nat) (v1 : Nat) (v2 : Int32) (μ : Mu) : Option Mu :=
  gd (iz sh 3 v0) <|
  if (gI μ v0 0) ≤ v2 then
    m_X3_gather_b127 sh v0 μ
  else
    bd (gR μ v0 1) fun a8 =>
    gd (ix sh 8 a8 v2) <|
    bd (sI μ a8 v2.toNatClampNeg 0) fun μ10 =>
    bd (gR μ10 v0 2) fun a11 =>
    gd (ix sh 8 a11 v2) <|
    bd (sI μ10 a11 v2.toNatClampNeg 0) fun μ13 =>
    m_X3_gather_h39 sh k15 v0 v1 v2 FU 0 μ13
def m_X3_gather_h15 (sh : Sh) (v0 : Nat) (v1 : Nat) : Nat → Int32 → Mu → Option Mu
  | 0 => fun _ _ => none
  | f + 1 => fun v2 μ => m_X3_gather_b15 sh (m_X3_gather_h15 sh v0 v1 f) v0 v1 v2 μ
def m_X3_gather (sh : Sh) (v0 : Nat) (v1 : Nat) (μ : Mu) : Option Mu :=
  gd (iz sh 4 v1) <|
  ca2 (m_J9_min_7cf53 sh (gI μ v1 4) 6 μ) fun r2 μ3 =>
  gd (iz sh 3 v0) <|
  bd (sI μ3 v0 0 r2) fun μ5 =>
  m_X3_gather_h15 sh v0 v1 FU 0 μ5
set_option maxHeartbeats 4000000 in
set_option maxRecDepth 20000 in
theorem t_X3_gather_b113 {l : Launch} {G : Gl} {n : Nat} {sh : Sh} {x : Mu} {k15 : Int32 → Mu → Option Mu} {k39 : Int32 → Mu → Option Mu} {v0 : Nat} {v1 : Nat} {v2 : Int32} {v3 : Int32} {s0 : Int32} {s1 : Int32} {s2 : Int32} {s3 : Nat} {μ : Mu} (hk15 : ∀ (v2 : Int32) (μ : Mu), k15 v2 μ = some x → Sj l G (QV G n sh x) c_X3_gather n sh 0 0 μ 15 [some (vr v0), some (vr v1), some (vi v2), none] []) (hk39 : ∀ (v3 : Int32) (μ : Mu), k39 v3 μ = some x → Sj l G (QV G n sh x) c_X3_gather n sh 0 0 μ 39 [some (vr v0), some (vr v1), some (vi v2), some (vi v3)] []) (h : m_X3_gather_b113 sh k15 k39 v0 v1 v2 v3 s0 s1 s2 s3 μ = some x) : Sj l G (QV G n sh x) c_X3_gather n sh 0 0 μ 113 [some (vr v0), some (vr v1), some (vi v2), some (vi v3)] [vi s0, vi s1, vi s2, vr s3] := by
  unfold m_X3_gather_b113 at h
  refine s_ior (pc := 113) d_X3_gather_113 ?_
  obtain ⟨g53, h⟩ := gd_1 h
  refine s_iast (pc := 114) d_X3_gather_114 g53 ?_
  obtain ⟨μ54, eμ54, h⟩ := bd_1 h
  refine s_mu eμ54 ?_
  obtain ⟨w55, ew55, h⟩ := bd_1 h
  refine s_iinc (pc := 115) (v := w55) (lc' := [some (vr v0), some (vr v1), some (vi v2), some (vi w55)]) d_X3_gather_115 rfl (by rw [ew55]; rfl) (by decide) rfl ?_
  refine s_goto (pc := 118) (tgt := 39) d_X3_gather_118 (by decide) ?_
  exact hk39 _ _ h
set_option maxHeartbeats 4000000 in
set_option maxRecDepth 20000 in
theorem t_X3_gather_b79 {l : Launch} {G : Gl} {n : Nat} {sh : Sh} {x : Mu} {k15 : Int32 → Mu → Option Mu} {k39 : Int32 → Mu → Option Mu} {v0 : Nat} {v1 : Nat} {v2 : Int32} {v3 : Int32} {s0 : Int32} {s1 : Int32} {s2 : Int32} {s3 : Nat} {μ : Mu} (hk15 : ∀ (v2 : Int32) (μ : Mu), k15 v2 μ = some x → Sj l G (QV G n sh x) c_X3_gather n sh 0 0 μ 15 [some (vr v0), some (vr v1), some (vi v2), none] []) (hk39 : ∀ (v3 : Int32) (μ : Mu), k39 v3 μ = some x → Sj l G (QV G n sh x) c_X3_gather n sh 0 0 μ 39 [some (vr v0), some (vr v1), some (vi v2), some (vi v3)] []) (h : m_X3_gather_b79 sh k15 k39 v0 v1 v2 v3 s0 s1 s2 s3 μ = some x) : Sj l G (QV G n sh x) c_X3_gather n sh 0 0 μ 79 [some (vr v0), some (vr v1), some (vi v2), some (vi v3)] [vi s0, vi s1, vi s2, vr s3] := by
  unfold m_X3_gather_b79 at h
  refine s_ior (pc := 79) d_X3_gather_79 ?_
  obtain ⟨g37, h⟩ := gd_1 h
  refine s_iast (pc := 80) d_X3_gather_80 g37 ?_
  obtain ⟨μ38, eμ38, h⟩ := bd_1 h
  refine s_mu eμ38 ?_
  refine s_aload_n (pc := 81) d_X3_gather_81 rfl rfl ?_
  obtain ⟨g39, h⟩ := gd_1 h
  refine s_getR (pc := 82) (k := 2) cl_3 d_X3_gather_82 g39 (by decide) w_182 (rt_arr _) ?_
  obtain ⟨a40, ea40, h⟩ := bd_1 h
  refine s_topR ea40 ?_
  refine s_iload_n (pc := 85) d_X3_gather_85 rfl rfl ?_
  refine s_dup2 (pc := 86) d_X3_gather_86 rfl rfl ?_
  obtain ⟨g41, h⟩ := gd_1 h
  refine s_iald (pc := 87) d_X3_gather_87 g41 ?_
  obtain ⟨w42, ew42, h⟩ := bd_1 h
  refine s_topI ew42 ?_
  refine s_aload_n (pc := 88) d_X3_gather_88 rfl rfl ?_
  obtain ⟨g43, h⟩ := gd_1 h
  refine s_getR (pc := 89) (k := 5) cl_4 d_X3_gather_89 g43 (by decide) w_107 (rt_arr _) ?_
  obtain ⟨a44, ea44, h⟩ := bd_1 h
  refine s_topR ea44 ?_
  refine s_iload_n (pc := 92) d_X3_gather_92 rfl rfl ?_
  obtain ⟨g45, h⟩ := gd_1 h
  refine s_aald11 (pc := 93) d_X3_gather_93 g45 ?_
  obtain ⟨a46, ea46, h⟩ := bd_1 h
  refine s_topR ea46 ?_
  refine s_aload_n (pc := 94) d_X3_gather_94 rfl rfl ?_
  refine s_getR (pc := 95) (k := 5) cl_4 d_X3_gather_95 g43 (by decide) w_107 (rt_arr _) ?_
  obtain ⟨a47, ea47, h⟩ := bd_1 h
  refine s_topR ea47 ?_
  refine s_iload_n (pc := 98) d_X3_gather_98 rfl rfl ?_
  obtain ⟨g48, h⟩ := gd_1 h
  refine s_aald11 (pc := 99) d_X3_gather_99 g48 ?_
  obtain ⟨a49, ea49, h⟩ := bd_1 h
  refine s_topR ea49 ?_
  obtain ⟨r50, μ51, er50, h⟩ := ca2_1 h
  refine s_callS (pc := 100) (as := [vr a46, vr a49]) (st := [vi w42, vi v2, vr a40]) (vo := [vi r50]) (t_X3_mayFollow er50) d_X3_gather_100 y_X3_mayFollow w_533 w_534 ⟨by decide, by decide⟩ ⟨Nat.le_of_ble_eq_true rfl, Nat.le_of_ble_eq_true rfl⟩ (Nat.le_of_ble_eq_true rfl) rfl rfl rfl ?_
  refine s_as (kc' := 0) (js' := 0) (pc' := 103) (st' := [vi r50, vi w42, vi v2, vr a40]) ⟨rfl, rfl, rfl, rfl⟩ ?_
  refine s_if_eq (pc := 103) (tgt := 112) d_X3_gather_103 (by decide) (fun c52 => ?_) (fun c52 => ?_)
  · have h := it_t c52 h
    refine s_iconst (pc := 112) (v := 0) d_X3_gather_112 (by decide) ?_
    exact t_X3_gather_b113 hk15 hk39 h
  · have h := it_f c52 h
    refine s_iconst (pc := 106) (v := 1) d_X3_gather_106 (by decide) ?_
    refine s_iload_n (pc := 107) d_X3_gather_107 rfl rfl ?_
    refine s_ishl (pc := 108) d_X3_gather_108 ?_
    refine s_goto (pc := 109) (tgt := 113) d_X3_gather_109 (by decide) ?_
    exact t_X3_gather_b113 hk15 hk39 h
set_option maxHeartbeats 4000000 in
set_option maxRecDepth 20000 in
theorem t_X3_gather_b121 {l : Launch} {G : Gl} {n : Nat} {sh : Sh} {x : Mu} {k15 : Int32 → Mu → Option Mu} {v0 : Nat} {v1 : Nat} {v2 : Int32} {μ : Mu} (hk15 : ∀ (v2 : Int32) (μ : Mu), k15 v2 μ = some x → Sj l G (QV G n sh x) c_X3_gather n sh 0 0 μ 15 [some (vr v0), some (vr v1), some (vi v2), none] []) (h : m_X3_gather_b121 sh k15 v0 v1 v2 μ = some x) : Sj l G (QV G n sh x) c_X3_gather n sh 0 0 μ 121 [some (vr v0), some (vr v1), some (vi v2), none] [] := by
  unfold m_X3_gather_b121 at h
  obtain ⟨w36, ew36, h⟩ := bd_1 h
  refine s_iinc (pc := 121) (v := w36) (lc' := [some (vr v0), some (vr v1), some (vi w36), none]) d_X3_gather_121 rfl (by rw [ew36]; rfl) (by decide) rfl ?_
  refine s_goto (pc := 124) (tgt := 15) d_X3_gather_124 (by decide) ?_
  exact hk15 _ _ h
set_option maxHeartbeats 4000000 in
set_option maxRecDepth 20000 in
theorem t_X3_gather_b39 {l : Launch} {G : Gl} {n : Nat} {sh : Sh} {x : Mu} {k15 : Int32 → Mu → Option Mu} {k39 : Int32 → Mu → Option Mu} {v0 : Nat} {v1 : Nat} {v2 : Int32} {v3 : Int32} {μ : Mu} (hk15 : ∀ (v2 : Int32) (μ : Mu), k15 v2 μ = some x → Sj l G (QV G n sh x) c_X3_gather n sh 0 0 μ 15 [some (vr v0), some (vr v1), some (vi v2), none] []) (hk39 : ∀ (v3 : Int32) (μ : Mu), k39 v3 μ = some x → Sj l G (QV G n sh x) c_X3_gather n sh 0 0 μ 39 [some (vr v0), some (vr v1), some (vi v2), some (vi v3)] []) (h : m_X3_gather_b39 sh k15 k39 v0 v1 v2 v3 μ = some x) : Sj l G (QV G n sh x) c_X3_gather n sh 0 0 μ 39 [some (vr v0), some (vr v1), some (vi v2), some (vi v3)] [] := by
  unfold m_X3_gather_b39 at h
  refine s_iload_n (pc := 39) d_X3_gather_39 rfl rfl ?_
  refine s_aload_n (pc := 40) d_X3_gather_40 rfl rfl ?_
  obtain ⟨g21, h⟩ := gd_1 h
  refine s_getI (pc := 41) (k := 0) cl_3 d_X3_gather_41 g21 (by decide) w_180 rfl ?_
  refine s_icmp_ge (pc := 44) (tgt := 121) d_X3_gather_44 (by decide) (fun c22 => ?_) (fun c22 => ?_)
  · have h := it_t c22 h
    refine s_mask [true, true, true, false] rfl ?_
    exact t_X3_gather_b121 hk15 h
  · have h := it_f c22 h
    refine s_aload_n (pc := 47) d_X3_gather_47 rfl rfl ?_
    refine s_getR (pc := 48) (k := 1) cl_3 d_X3_gather_48 g21 (by decide) w_181 (rt_arr _) ?_
    obtain ⟨a23, ea23, h⟩ := bd_1 h
    refine s_topR ea23 ?_
    refine s_iload_n (pc := 51) d_X3_gather_51 rfl rfl ?_
    refine s_dup2 (pc := 52) d_X3_gather_52 rfl rfl ?_
    obtain ⟨g24, h⟩ := gd_1 h
    refine s_iald (pc := 53) d_X3_gather_53 g24 ?_
    obtain ⟨w25, ew25, h⟩ := bd_1 h
    refine s_topI ew25 ?_
    refine s_aload_n (pc := 54) d_X3_gather_54 rfl rfl ?_
    obtain ⟨g26, h⟩ := gd_1 h
    refine s_getR (pc := 55) (k := 5) cl_4 d_X3_gather_55 g26 (by decide) w_107 (rt_arr _) ?_
    obtain ⟨a27, ea27, h⟩ := bd_1 h
    refine s_topR ea27 ?_
    refine s_iload_n (pc := 58) d_X3_gather_58 rfl rfl ?_
    obtain ⟨g28, h⟩ := gd_1 h
    refine s_aald11 (pc := 59) d_X3_gather_59 g28 ?_
    obtain ⟨a29, ea29, h⟩ := bd_1 h
    refine s_topR ea29 ?_
    refine s_aload_n (pc := 60) d_X3_gather_60 rfl rfl ?_
    refine s_getR (pc := 61) (k := 5) cl_4 d_X3_gather_61 g26 (by decide) w_107 (rt_arr _) ?_
    obtain ⟨a30, ea30, h⟩ := bd_1 h
    refine s_topR ea30 ?_
    refine s_iload_n (pc := 64) d_X3_gather_64 rfl rfl ?_
    obtain ⟨g31, h⟩ := gd_1 h
    refine s_aald11 (pc := 65) d_X3_gather_65 g31 ?_
    obtain ⟨a32, ea32, h⟩ := bd_1 h
    refine s_topR ea32 ?_
    obtain ⟨r33, μ34, er33, h⟩ := ca2_1 h
    refine s_callS (pc := 66) (as := [vr a29, vr a32]) (st := [vi w25, vi v2, vr a23]) (vo := [vi r33]) (t_X3_mayFollow er33) d_X3_gather_66 y_X3_mayFollow w_533 w_534 ⟨by decide, by decide⟩ ⟨Nat.le_of_ble_eq_true rfl, Nat.le_of_ble_eq_true rfl⟩ (Nat.le_of_ble_eq_true rfl) rfl rfl rfl ?_
    refine s_as (kc' := 0) (js' := 0) (pc' := 69) (st' := [vi r33, vi w25, vi v2, vr a23]) ⟨rfl, rfl, rfl, rfl⟩ ?_
    refine s_if_eq (pc := 69) (tgt := 78) d_X3_gather_69 (by decide) (fun c35 => ?_) (fun c35 => ?_)
    · have h := it_t c35 h
      refine s_iconst (pc := 78) (v := 0) d_X3_gather_78 (by decide) ?_
      exact t_X3_gather_b79 hk15 hk39 h
    · have h := it_f c35 h
      refine s_iconst (pc := 72) (v := 1) d_X3_gather_72 (by decide) ?_
      refine s_iload_n (pc := 73) d_X3_gather_73 rfl rfl ?_
      refine s_ishl (pc := 74) d_X3_gather_74 ?_
      refine s_goto (pc := 75) (tgt := 79) d_X3_gather_75 (by decide) ?_
      exact t_X3_gather_b79 hk15 hk39 h
set_option maxHeartbeats 4000000 in
set_option maxRecDepth 20000 in
theorem t_X3_gather_h39 {l : Launch} {G : Gl} {n : Nat} {sh : Sh} {x : Mu} {k15 : Int32 → Mu → Option Mu} {v0 : Nat} {v1 : Nat} {v2 : Int32} (hk15 : ∀ (v2 : Int32) (μ : Mu), k15 v2 μ = some x → Sj l G (QV G n sh x) c_X3_gather n sh 0 0 μ 15 [some (vr v0), some (vr v1), some (vi v2), none] []) : ∀ (f : Nat) (v3 : Int32) (μ : Mu), m_X3_gather_h39 sh k15 v0 v1 v2 f v3 μ = some x → Sj l G (QV G n sh x) c_X3_gather n sh 0 0 μ 39 [some (vr v0), some (vr v1), some (vi v2), some (vi v3)] [] := by
  intro f
  induction f with
  | zero =>
    intro v3 μ h
    cases h
  | succ f ih =>
    intro v3 μ h
    exact t_X3_gather_b39 hk15 ih h
set_option maxHeartbeats 4000000 in
set_option maxRecDepth 20000 in
theorem t_X3_gather_b127 {l : Launch} {G : Gl} {n : Nat} {sh : Sh} {x : Mu} {v0 : Nat} {μ : Mu} (h : m_X3_gather_b127 sh v0 μ = some x) : Sj l G (QV G n sh x) c_X3_gather n sh 0 0 μ 127 [some (vr v0), none, none, none] [] := by
  unfold m_X3_gather_b127 at h
  refine s_aload_n (pc := 127) d_X3_gather_127 rfl rfl ?_
  refine s_aload_n (pc := 128) d_X3_gather_128 rfl rfl ?_
  obtain ⟨g14, h⟩ := gd_1 h
  refine s_getR (pc := 129) (k := 3) cl_3 d_X3_gather_129 g14 (by decide) w_183 (rt_arr _) ?_
  obtain ⟨a15, ea15, h⟩ := bd_1 h
  refine s_topR ea15 ?_
  refine s_aload_n (pc := 132) d_X3_gather_132 rfl rfl ?_
  refine s_getR (pc := 133) (k := 1) cl_3 d_X3_gather_133 g14 (by decide) w_181 (rt_arr _) ?_
  obtain ⟨a16, ea16, h⟩ := bd_1 h
  refine s_topR ea16 ?_
  obtain ⟨μ17, eμ17, h⟩ := ca_1 h
  refine s_callV (pc := 136) (as := [vr a15, vr a16]) (st := []) (vo := []) (t_X3_countRows eμ17) cl_3 g14 d_X3_gather_136 y_X3_countRows w_538 w_540 w_s5 ⟨by decide, by decide⟩ ⟨Nat.le_of_ble_eq_true rfl, Nat.le_of_ble_eq_true rfl⟩ (Nat.le_of_ble_eq_true rfl) rfl rfl rfl ?_
  refine s_as (kc' := 0) (js' := 0) (pc' := 139) (st' := []) ⟨rfl, rfl, rfl, rfl⟩ ?_
  refine s_aload_n (pc := 139) d_X3_gather_139 rfl rfl ?_
  refine s_aload_n (pc := 140) d_X3_gather_140 rfl rfl ?_
  refine s_getR (pc := 141) (k := 4) cl_3 d_X3_gather_141 g14 (by decide) w_184 (rt_arr _) ?_
  obtain ⟨a18, ea18, h⟩ := bd_1 h
  refine s_topR ea18 ?_
  refine s_aload_n (pc := 144) d_X3_gather_144 rfl rfl ?_
  refine s_getR (pc := 145) (k := 2) cl_3 d_X3_gather_145 g14 (by decide) w_182 (rt_arr _) ?_
  obtain ⟨a19, ea19, h⟩ := bd_1 h
  refine s_topR ea19 ?_
  obtain ⟨μ20, eμ20, h⟩ := ca_1 h
  refine s_callV (pc := 148) (as := [vr a18, vr a19]) (st := []) (vo := []) (t_X3_countRows eμ20) cl_3 g14 d_X3_gather_148 y_X3_countRows w_538 w_540 w_s5 ⟨by decide, by decide⟩ ⟨Nat.le_of_ble_eq_true rfl, Nat.le_of_ble_eq_true rfl⟩ (Nat.le_of_ble_eq_true rfl) rfl rfl rfl ?_
  refine s_as (kc' := 0) (js' := 0) (pc' := 151) (st' := []) ⟨rfl, rfl, rfl, rfl⟩ ?_
  obtain rfl := Option.some.inj h
  exact s_vret (pc := 151) d_X3_gather_151 rfl
set_option maxHeartbeats 4000000 in
set_option maxRecDepth 20000 in
theorem t_X3_gather_b15 {l : Launch} {G : Gl} {n : Nat} {sh : Sh} {x : Mu} {k15 : Int32 → Mu → Option Mu} {v0 : Nat} {v1 : Nat} {v2 : Int32} {μ : Mu} (hk15 : ∀ (v2 : Int32) (μ : Mu), k15 v2 μ = some x → Sj l G (QV G n sh x) c_X3_gather n sh 0 0 μ 15 [some (vr v0), some (vr v1), some (vi v2), none] []) (h : m_X3_gather_b15 sh k15 v0 v1 v2 μ = some x) : Sj l G (QV G n sh x) c_X3_gather n sh 0 0 μ 15 [some (vr v0), some (vr v1), some (vi v2), none] [] := by
  unfold m_X3_gather_b15 at h
  refine s_iload_n (pc := 15) d_X3_gather_15 rfl rfl ?_
  refine s_aload_n (pc := 16) d_X3_gather_16 rfl rfl ?_
  obtain ⟨g6, h⟩ := gd_1 h
  refine s_getI (pc := 17) (k := 0) cl_3 d_X3_gather_17 g6 (by decide) w_180 rfl ?_
  refine s_icmp_ge (pc := 20) (tgt := 127) d_X3_gather_20 (by decide) (fun c7 => ?_) (fun c7 => ?_)
  · have h := it_t c7 h
    refine s_mask [true, false, false, true] rfl ?_
    exact t_X3_gather_b127 h
  · have h := it_f c7 h
    refine s_aload_n (pc := 23) d_X3_gather_23 rfl rfl ?_
    refine s_getR (pc := 24) (k := 1) cl_3 d_X3_gather_24 g6 (by decide) w_181 (rt_arr _) ?_
    obtain ⟨a8, ea8, h⟩ := bd_1 h
    refine s_topR ea8 ?_
    refine s_iload_n (pc := 27) d_X3_gather_27 rfl rfl ?_
    refine s_iconst (pc := 28) (v := 0) d_X3_gather_28 (by decide) ?_
    obtain ⟨g9, h⟩ := gd_1 h
    refine s_iast (pc := 29) d_X3_gather_29 g9 ?_
    obtain ⟨μ10, eμ10, h⟩ := bd_1 h
    refine s_mu eμ10 ?_
    refine s_aload_n (pc := 30) d_X3_gather_30 rfl rfl ?_
    refine s_getR (pc := 31) (k := 2) cl_3 d_X3_gather_31 g6 (by decide) w_182 (rt_arr _) ?_
    obtain ⟨a11, ea11, h⟩ := bd_1 h
    refine s_topR ea11 ?_
    refine s_iload_n (pc := 34) d_X3_gather_34 rfl rfl ?_
    refine s_iconst (pc := 35) (v := 0) d_X3_gather_35 (by decide) ?_
    obtain ⟨g12, h⟩ := gd_1 h
    refine s_iast (pc := 36) d_X3_gather_36 g12 ?_
    obtain ⟨μ13, eμ13, h⟩ := bd_1 h
    refine s_mu eμ13 ?_
    refine s_iconst (pc := 37) (v := 0) d_X3_gather_37 (by decide) ?_
    refine s_istore_n (pc := 38) (lc' := [some (vr v0), some (vr v1), some (vi v2), some (vi 0)]) d_X3_gather_38 rfl (by decide) rfl ?_
    exact t_X3_gather_h39 hk15 FU _ _ h
set_option maxHeartbeats 4000000 in
set_option maxRecDepth 20000 in
theorem t_X3_gather_h15 {l : Launch} {G : Gl} {n : Nat} {sh : Sh} {x : Mu} {v0 : Nat} {v1 : Nat} : ∀ (f : Nat) (v2 : Int32) (μ : Mu), m_X3_gather_h15 sh v0 v1 f v2 μ = some x → Sj l G (QV G n sh x) c_X3_gather n sh 0 0 μ 15 [some (vr v0), some (vr v1), some (vi v2), none] [] := by
  intro f
  induction f with
  | zero =>
    intro v2 μ h
    cases h
  | succ f ih =>
    intro v2 μ h
    exact t_X3_gather_b15 ih h
set_option maxHeartbeats 4000000 in
set_option maxRecDepth 20000 in
theorem t_X3_gather {l : Launch} {G : Gl} {n : Nat} {sh : Sh} {x : Mu} {v0 : Nat} {v1 : Nat} {μ : Mu} (h : m_X3_gather sh v0 v1 μ = some x) : Ct l G ⟨"StripsOfFour$Rows", "gather", "(LStripsOfFour$Scene;)V"⟩ prog_5_method_2_code 4 none { frames := 2, cells := 0, slots := 0, locals := 52 } n sh μ [vr v0, vr v1] none n sh x := by
  refine Ct.of (lc := [some (vr v0), some (vr v1), none, none]) (by decide +kernel) (Nat.le_of_ble_eq_true rfl) rfl ?_
  show Sj l G (QV G n sh x) c_X3_gather n sh 0 0 μ 0 [some (vr v0), some (vr v1), none, none] []
  unfold m_X3_gather at h
  refine s_aload_n (pc := 0) d_X3_gather_0 rfl rfl ?_
  refine s_aload_n (pc := 1) d_X3_gather_1 rfl rfl ?_
  obtain ⟨g1, h⟩ := gd_1 h
  refine s_getI (pc := 2) (k := 4) cl_4 d_X3_gather_2 g1 (by decide) w_103 rfl ?_
  refine s_bipush (pc := 5) (v := 6) d_X3_gather_5 (by decide) ?_
  obtain ⟨r2, μ3, er2, h⟩ := ca2_1 h
  refine s_callS (pc := 7) (as := [vi (gI μ v1 4), vi 6]) (st := [vr v0]) (vo := [vi r2]) (t_J9_min_7cf53 er2) d_X3_gather_7 y_J9_min_7cf53 w_532 w_461 ⟨by decide, by decide⟩ ⟨Nat.le_of_ble_eq_true rfl, Nat.le_of_ble_eq_true rfl⟩ (Nat.le_of_ble_eq_true rfl) rfl rfl rfl ?_
  refine s_as (kc' := 0) (js' := 0) (pc' := 10) (st' := [vi r2, vr v0]) ⟨rfl, rfl, rfl, rfl⟩ ?_
  obtain ⟨g4, h⟩ := gd_1 h
  refine s_putI (pc := 10) (k := 0) cl_3 d_X3_gather_10 g4 (by decide) w_180 rfl rfl ?_
  obtain ⟨μ5, eμ5, h⟩ := bd_1 h
  refine s_mu eμ5 ?_
  refine s_iconst (pc := 13) (v := 0) d_X3_gather_13 (by decide) ?_
  refine s_istore_n (pc := 14) (lc' := [some (vr v0), some (vr v1), some (vi 0), none]) d_X3_gather_14 rfl (by decide) rfl ?_
  exact t_X3_gather_h15 FU _ _ h
/-! StripsOfFour$Rows.placesOf -/
abbrev c_X3_placesOf : Cf := (prog_5_method_7_code, 6, "StripsOfFour$Rows", "placesOf", (some .int), { frames := 1, cells := 0, slots := 0, locals := 26 })
theorem d_X3_placesOf_0 : decode prog_5_method_7_code 0 = .ok (.iload_n 1, 1) := by decide +kernel
theorem d_X3_placesOf_1 : decode prog_5_method_7_code 1 = .ok (.ifCond .lt 11, 3) := by decide +kernel
theorem d_X3_placesOf_4 : decode prog_5_method_7_code 4 = .ok (.iload_n 1, 1) := by decide +kernel
theorem d_X3_placesOf_5 : decode prog_5_method_7_code 5 = .ok (.aload_n 0, 1) := by decide +kernel
theorem d_X3_placesOf_6 : decode prog_5_method_7_code 6 = .ok (.getfield 9, 3) := by decide +kernel
theorem d_X3_placesOf_9 : decode prog_5_method_7_code 9 = .ok (.if_icmp .lt 5, 3) := by decide +kernel
theorem d_X3_placesOf_12 : decode prog_5_method_7_code 12 = .ok (.iconst 0, 1) := by decide +kernel
theorem d_X3_placesOf_13 : decode prog_5_method_7_code 13 = .ok (.ireturn, 1) := by decide +kernel
theorem d_X3_placesOf_14 : decode prog_5_method_7_code 14 = .ok (.iconst 1, 1) := by decide +kernel
theorem d_X3_placesOf_15 : decode prog_5_method_7_code 15 = .ok (.aload_n 0, 1) := by decide +kernel
theorem d_X3_placesOf_16 : decode prog_5_method_7_code 16 = .ok (.getfield 9, 3) := by decide +kernel
theorem d_X3_placesOf_19 : decode prog_5_method_7_code 19 = .ok (.ishl, 1) := by decide +kernel
theorem d_X3_placesOf_20 : decode prog_5_method_7_code 20 = .ok (.iconst 1, 1) := by decide +kernel
theorem d_X3_placesOf_21 : decode prog_5_method_7_code 21 = .ok (.isub, 1) := by decide +kernel
theorem d_X3_placesOf_22 : decode prog_5_method_7_code 22 = .ok (.istore_n 2, 1) := by decide +kernel
theorem d_X3_placesOf_23 : decode prog_5_method_7_code 23 = .ok (.iconst 1, 1) := by decide +kernel
theorem d_X3_placesOf_24 : decode prog_5_method_7_code 24 = .ok (.iload_n 1, 1) := by decide +kernel
theorem d_X3_placesOf_25 : decode prog_5_method_7_code 25 = .ok (.ishl, 1) := by decide +kernel
theorem d_X3_placesOf_26 : decode prog_5_method_7_code 26 = .ok (.istore_n 3, 1) := by decide +kernel
theorem d_X3_placesOf_27 : decode prog_5_method_7_code 27 = .ok (.iconst 0, 1) := by decide +kernel
theorem d_X3_placesOf_28 : decode prog_5_method_7_code 28 = .ok (.istore 4, 2) := by decide +kernel
theorem d_X3_placesOf_30 : decode prog_5_method_7_code 30 = .ok (.iconst 1, 1) := by decide +kernel
theorem d_X3_placesOf_31 : decode prog_5_method_7_code 31 = .ok (.istore 5, 2) := by decide +kernel
theorem d_X3_placesOf_33 : decode prog_5_method_7_code 33 = .ok (.iload 5, 2) := by decide +kernel
theorem d_X3_placesOf_35 : decode prog_5_method_7_code 35 = .ok (.iload_n 2, 1) := by decide +kernel
theorem d_X3_placesOf_36 : decode prog_5_method_7_code 36 = .ok (.if_icmp .gt 64, 3) := by decide +kernel
theorem d_X3_placesOf_39 : decode prog_5_method_7_code 39 = .ok (.iload 5, 2) := by decide +kernel
theorem d_X3_placesOf_41 : decode prog_5_method_7_code 41 = .ok (.iload_n 3, 1) := by decide +kernel
theorem d_X3_placesOf_42 : decode prog_5_method_7_code 42 = .ok (.iand, 1) := by decide +kernel
theorem d_X3_placesOf_43 : decode prog_5_method_7_code 43 = .ok (.ifCond .eq 51, 3) := by decide +kernel
theorem d_X3_placesOf_46 : decode prog_5_method_7_code 46 = .ok (.aload_n 0, 1) := by decide +kernel
theorem d_X3_placesOf_47 : decode prog_5_method_7_code 47 = .ok (.aload_n 0, 1) := by decide +kernel
theorem d_X3_placesOf_48 : decode prog_5_method_7_code 48 = .ok (.getfield 22, 3) := by decide +kernel
theorem d_X3_placesOf_51 : decode prog_5_method_7_code 51 = .ok (.iload 5, 2) := by decide +kernel
theorem d_X3_placesOf_53 : decode prog_5_method_7_code 53 = .ok (.iload_n 3, 1) := by decide +kernel
theorem d_X3_placesOf_54 : decode prog_5_method_7_code 54 = .ok (.invokevirtual 60, 3) := by decide +kernel
theorem d_X3_placesOf_57 : decode prog_5_method_7_code 57 = .ok (.ifCond .le 37, 3) := by decide +kernel
theorem d_X3_placesOf_60 : decode prog_5_method_7_code 60 = .ok (.aload_n 0, 1) := by decide +kernel
theorem d_X3_placesOf_61 : decode prog_5_method_7_code 61 = .ok (.aload_n 0, 1) := by decide +kernel
theorem d_X3_placesOf_62 : decode prog_5_method_7_code 62 = .ok (.getfield 25, 3) := by decide +kernel
theorem d_X3_placesOf_65 : decode prog_5_method_7_code 65 = .ok (.iload_n 2, 1) := by decide +kernel
theorem d_X3_placesOf_66 : decode prog_5_method_7_code 66 = .ok (.iload 5, 2) := by decide +kernel
theorem d_X3_placesOf_68 : decode prog_5_method_7_code 68 = .ok (.iconst (-1), 1) := by decide +kernel
theorem d_X3_placesOf_69 : decode prog_5_method_7_code 69 = .ok (.ixor, 1) := by decide +kernel
theorem d_X3_placesOf_70 : decode prog_5_method_7_code 70 = .ok (.iand, 1) := by decide +kernel
theorem d_X3_placesOf_71 : decode prog_5_method_7_code 71 = .ok (.iload_n 3, 1) := by decide +kernel
theorem d_X3_placesOf_72 : decode prog_5_method_7_code 72 = .ok (.ior, 1) := by decide +kernel
theorem d_X3_placesOf_73 : decode prog_5_method_7_code 73 = .ok (.iload_n 3, 1) := by decide +kernel
theorem d_X3_placesOf_74 : decode prog_5_method_7_code 74 = .ok (.invokevirtual 60, 3) := by decide +kernel
theorem d_X3_placesOf_77 : decode prog_5_method_7_code 77 = .ok (.ifCond .le 17, 3) := by decide +kernel
theorem d_X3_placesOf_80 : decode prog_5_method_7_code 80 = .ok (.iload 4, 2) := by decide +kernel
theorem d_X3_placesOf_82 : decode prog_5_method_7_code 82 = .ok (.iconst 1, 1) := by decide +kernel
theorem d_X3_placesOf_83 : decode prog_5_method_7_code 83 = .ok (.iload 5, 2) := by decide +kernel
theorem d_X3_placesOf_85 : decode prog_5_method_7_code 85 = .ok (.invokestatic 64, 3) := by decide +kernel
theorem d_X3_placesOf_88 : decode prog_5_method_7_code 88 = .ok (.iconst 1, 1) := by decide +kernel
theorem d_X3_placesOf_89 : decode prog_5_method_7_code 89 = .ok (.isub, 1) := by decide +kernel
theorem d_X3_placesOf_90 : decode prog_5_method_7_code 90 = .ok (.ishl, 1) := by decide +kernel
theorem d_X3_placesOf_91 : decode prog_5_method_7_code 91 = .ok (.ior, 1) := by decide +kernel
theorem d_X3_placesOf_92 : decode prog_5_method_7_code 92 = .ok (.istore 4, 2) := by decide +kernel
theorem d_X3_placesOf_94 : decode prog_5_method_7_code 94 = .ok (.iinc 5 1, 3) := by decide +kernel
theorem d_X3_placesOf_97 : decode prog_5_method_7_code 97 = .ok (.goto (-64), 3) := by decide +kernel
theorem d_X3_placesOf_100 : decode prog_5_method_7_code 100 = .ok (.iload 4, 2) := by decide +kernel
theorem d_X3_placesOf_102 : decode prog_5_method_7_code 102 = .ok (.ireturn, 1) := by decide +kernel
def m_X3_placesOf_b94 (sh : Sh) (k33 : Int32 → Int32 → Mu → Option (Int32 × Mu)) (v0 : Nat) (v2 : Int32) (v3 : Int32) (v4 : Int32) (v5 : Int32) (μ : Mu) : Option (Int32 × Mu) :=
  bd (v5 + 1) fun w20 =>
  k33 v4 w20 μ
def m_X3_placesOf_b33 (sh : Sh) (k33 : Int32 → Int32 → Mu → Option (Int32 × Mu)) (v0 : Nat) (v2 : Int32) (v3 : Int32) (v4 : Int32) (v5 : Int32) (μ : Mu) : Option (Int32 × Mu) :=
  if v2 < v5 then
    some (v4, μ)
  else
    if (v5 &&& v3) = 0 then
      m_X3_placesOf_b94 sh k33 v0 v2 v3 v4 v5 μ
    else
      gd (iz sh 3 v0) <|
      bd (gR μ v0 3) fun a9 =>
      ca2 (m_X3_sumOver sh v0 a9 v5 v3 μ) fun r10 μ11 =>
      if r10 ≤ 0 then
        m_X3_placesOf_b94 sh k33 v0 v2 v3 v4 v5 μ11
      else
        bd (gR μ11 v0 4) fun a13 =>
        ca2 (m_X3_sumOver sh v0 a13 ((v2 &&& (v5 ^^^ (-1))) ||| v3) v3 μ11) fun r14 μ15 =>
        if r14 ≤ 0 then
          m_X3_placesOf_b94 sh k33 v0 v2 v3 v4 v5 μ15
        else
          ca2 (m_J6_bitCount_0f7a4 sh v5 μ15) fun r17 μ18 =>
          bd (v4 ||| (1 <<< ((r17 - 1) &&& 31))) fun w19 =>
          m_X3_placesOf_b94 sh k33 v0 v2 v3 w19 v5 μ18
def m_X3_placesOf_h33 (sh : Sh) (v0 : Nat) (v2 : Int32) (v3 : Int32) : Nat → Int32 → Int32 → Mu → Option (Int32 × Mu)
  | 0 => fun _ _ _ => none
  | f + 1 => fun v4 v5 μ => m_X3_placesOf_b33 sh (m_X3_placesOf_h33 sh v0 v2 v3 f) v0 v2 v3 v4 v5 μ
def m_X3_placesOf (sh : Sh) (v0 : Nat) (v1 : Int32) (μ : Mu) : Option (Int32 × Mu) :=
  if v1 < 0 then
    some (0, μ)
  else
    gd (iz sh 3 v0) <|
    if v1 < (gI μ v0 0) then
      bd ((1 <<< ((gI μ v0 0) &&& 31)) - 1) fun w4 =>
      bd (1 <<< (v1 &&& 31)) fun w5 =>
      m_X3_placesOf_h33 sh v0 w4 w5 FU 0 1 μ
    else
      some (0, μ)
set_option maxHeartbeats 4000000 in
set_option maxRecDepth 20000 in
theorem t_X3_placesOf_b94 {l : Launch} {G : Gl} {n : Nat} {sh : Sh} {x : Int32 × Mu} {k33 : Int32 → Int32 → Mu → Option (Int32 × Mu)} {v0 : Nat} {v2 : Int32} {v3 : Int32} {v4 : Int32} {v5 : Int32} {μ : Mu} (hk33 : ∀ (v4 : Int32) (v5 : Int32) (μ : Mu), k33 v4 v5 μ = some x → Sj l G (QI G n sh x) c_X3_placesOf n sh 0 0 μ 33 [some (vr v0), none, some (vi v2), some (vi v3), some (vi v4), some (vi v5)] []) (h : m_X3_placesOf_b94 sh k33 v0 v2 v3 v4 v5 μ = some x) : Sj l G (QI G n sh x) c_X3_placesOf n sh 0 0 μ 94 [some (vr v0), none, some (vi v2), some (vi v3), some (vi v4), some (vi v5)] [] := by
  unfold m_X3_placesOf_b94 at h
  obtain ⟨w20, ew20, h⟩ := bd_1 h
  refine s_iinc (pc := 94) (v := w20) (lc' := [some (vr v0), none, some (vi v2), some (vi v3), some (vi v4), some (vi w20)]) d_X3_placesOf_94 rfl (by rw [ew20]; rfl) (by decide) rfl ?_
  refine s_goto (pc := 97) (tgt := 33) d_X3_placesOf_97 (by decide) ?_
  exact hk33 _ _ _ h
set_option maxHeartbeats 4000000 in
set_option maxRecDepth 20000 in
theorem t_X3_placesOf_b33 {l : Launch} {G : Gl} {n : Nat} {sh : Sh} {x : Int32 × Mu} {k33 : Int32 → Int32 → Mu → Option (Int32 × Mu)} {v0 : Nat} {v2 : Int32} {v3 : Int32} {v4 : Int32} {v5 : Int32} {μ : Mu} (hk33 : ∀ (v4 : Int32) (v5 : Int32) (μ : Mu), k33 v4 v5 μ = some x → Sj l G (QI G n sh x) c_X3_placesOf n sh 0 0 μ 33 [some (vr v0), none, some (vi v2), some (vi v3), some (vi v4), some (vi v5)] []) (h : m_X3_placesOf_b33 sh k33 v0 v2 v3 v4 v5 μ = some x) : Sj l G (QI G n sh x) c_X3_placesOf n sh 0 0 μ 33 [some (vr v0), none, some (vi v2), some (vi v3), some (vi v4), some (vi v5)] [] := by
  unfold m_X3_placesOf_b33 at h
  refine s_iload (pc := 33) d_X3_placesOf_33 rfl ?_
  refine s_iload_n (pc := 35) d_X3_placesOf_35 rfl rfl ?_
  refine s_icmp_gt (pc := 36) (tgt := 100) d_X3_placesOf_36 (by decide) (fun c6 => ?_) (fun c6 => ?_)
  · have h := it_t c6 h
    refine s_iload (pc := 100) d_X3_placesOf_100 rfl ?_
    obtain rfl := Option.some.inj h
    exact s_iret (pc := 102) d_X3_placesOf_102 rfl
  · have h := it_f c6 h
    refine s_iload (pc := 39) d_X3_placesOf_39 rfl ?_
    refine s_iload_n (pc := 41) d_X3_placesOf_41 rfl rfl ?_
    refine s_iand (pc := 42) d_X3_placesOf_42 ?_
    refine s_if_eq (pc := 43) (tgt := 94) d_X3_placesOf_43 (by decide) (fun c7 => ?_) (fun c7 => ?_)
    · have h := it_t c7 h
      exact t_X3_placesOf_b94 hk33 h
    · have h := it_f c7 h
      refine s_aload_n (pc := 46) d_X3_placesOf_46 rfl rfl ?_
      refine s_aload_n (pc := 47) d_X3_placesOf_47 rfl rfl ?_
      obtain ⟨g8, h⟩ := gd_1 h
      refine s_getR (pc := 48) (k := 3) cl_3 d_X3_placesOf_48 g8 (by decide) w_183 (rt_arr _) ?_
      obtain ⟨a9, ea9, h⟩ := bd_1 h
      refine s_topR ea9 ?_
      refine s_iload (pc := 51) d_X3_placesOf_51 rfl ?_
      refine s_iload_n (pc := 53) d_X3_placesOf_53 rfl rfl ?_
      obtain ⟨r10, μ11, er10, h⟩ := ca2_1 h
      refine s_callV (pc := 54) (as := [vr a9, vi v5, vi v3]) (st := []) (vo := [vi r10]) (t_X3_sumOver er10) cl_3 g8 d_X3_placesOf_54 y_X3_sumOver w_542 w_544 w_s6 ⟨by decide, by decide⟩ ⟨Nat.le_of_ble_eq_true rfl, Nat.le_of_ble_eq_true rfl⟩ (Nat.le_of_ble_eq_true rfl) rfl rfl rfl ?_
      refine s_as (kc' := 0) (js' := 0) (pc' := 57) (st' := [vi r10]) ⟨rfl, rfl, rfl, rfl⟩ ?_
      refine s_if_le (pc := 57) (tgt := 94) d_X3_placesOf_57 (by decide) (fun c12 => ?_) (fun c12 => ?_)
      · have h := it_t c12 h
        exact t_X3_placesOf_b94 hk33 h
      · have h := it_f c12 h
        refine s_aload_n (pc := 60) d_X3_placesOf_60 rfl rfl ?_
        refine s_aload_n (pc := 61) d_X3_placesOf_61 rfl rfl ?_
        refine s_getR (pc := 62) (k := 4) cl_3 d_X3_placesOf_62 g8 (by decide) w_184 (rt_arr _) ?_
        obtain ⟨a13, ea13, h⟩ := bd_1 h
        refine s_topR ea13 ?_
        refine s_iload_n (pc := 65) d_X3_placesOf_65 rfl rfl ?_
        refine s_iload (pc := 66) d_X3_placesOf_66 rfl ?_
        refine s_iconst (pc := 68) (v := (-1)) d_X3_placesOf_68 (by decide) ?_
        refine s_ixor (pc := 69) d_X3_placesOf_69 ?_
        refine s_iand (pc := 70) d_X3_placesOf_70 ?_
        refine s_iload_n (pc := 71) d_X3_placesOf_71 rfl rfl ?_
        refine s_ior (pc := 72) d_X3_placesOf_72 ?_
        refine s_iload_n (pc := 73) d_X3_placesOf_73 rfl rfl ?_
        obtain ⟨r14, μ15, er14, h⟩ := ca2_1 h
        refine s_callV (pc := 74) (as := [vr a13, vi ((v2 &&& (v5 ^^^ (-1))) ||| v3), vi v3]) (st := []) (vo := [vi r14]) (t_X3_sumOver er14) cl_3 g8 d_X3_placesOf_74 y_X3_sumOver w_542 w_544 w_s6 ⟨by decide, by decide⟩ ⟨Nat.le_of_ble_eq_true rfl, Nat.le_of_ble_eq_true rfl⟩ (Nat.le_of_ble_eq_true rfl) rfl rfl rfl ?_
        refine s_as (kc' := 0) (js' := 0) (pc' := 77) (st' := [vi r14]) ⟨rfl, rfl, rfl, rfl⟩ ?_
        refine s_if_le (pc := 77) (tgt := 94) d_X3_placesOf_77 (by decide) (fun c16 => ?_) (fun c16 => ?_)
        · have h := it_t c16 h
          exact t_X3_placesOf_b94 hk33 h
        · have h := it_f c16 h
          refine s_iload (pc := 80) d_X3_placesOf_80 rfl ?_
          refine s_iconst (pc := 82) (v := 1) d_X3_placesOf_82 (by decide) ?_
          refine s_iload (pc := 83) d_X3_placesOf_83 rfl ?_
          obtain ⟨r17, μ18, er17, h⟩ := ca2_1 h
          refine s_callS (pc := 85) (as := [vi v5]) (st := [vi 1, vi v4]) (vo := [vi r17]) (t_J6_bitCount_0f7a4 er17) d_X3_placesOf_85 y_J6_bitCount_0f7a4 w_558 w_373 ⟨by decide, by decide⟩ ⟨Nat.le_of_ble_eq_true rfl, Nat.le_of_ble_eq_true rfl⟩ (Nat.le_of_ble_eq_true rfl) rfl rfl rfl ?_
          refine s_as (kc' := 0) (js' := 0) (pc' := 88) (st' := [vi r17, vi 1, vi v4]) ⟨rfl, rfl, rfl, rfl⟩ ?_
          refine s_iconst (pc := 88) (v := 1) d_X3_placesOf_88 (by decide) ?_
          refine s_isub (pc := 89) d_X3_placesOf_89 ?_
          refine s_ishl (pc := 90) d_X3_placesOf_90 ?_
          refine s_ior (pc := 91) d_X3_placesOf_91 ?_
          obtain ⟨w19, ew19, h⟩ := bd_1 h
          refine s_topI ew19 ?_
          refine s_istore (pc := 92) (lc' := [some (vr v0), none, some (vi v2), some (vi v3), some (vi w19), some (vi v5)]) d_X3_placesOf_92 (by decide) rfl ?_
          exact t_X3_placesOf_b94 hk33 h
set_option maxHeartbeats 4000000 in
set_option maxRecDepth 20000 in
theorem t_X3_placesOf_h33 {l : Launch} {G : Gl} {n : Nat} {sh : Sh} {x : Int32 × Mu} {v0 : Nat} {v2 : Int32} {v3 : Int32} : ∀ (f : Nat) (v4 : Int32) (v5 : Int32) (μ : Mu), m_X3_placesOf_h33 sh v0 v2 v3 f v4 v5 μ = some x → Sj l G (QI G n sh x) c_X3_placesOf n sh 0 0 μ 33 [some (vr v0), none, some (vi v2), some (vi v3), some (vi v4), some (vi v5)] [] := by
  intro f
  induction f with
  | zero =>
    intro v4 v5 μ h
    cases h
  | succ f ih =>
    intro v4 v5 μ h
    exact t_X3_placesOf_b33 ih h
set_option maxHeartbeats 4000000 in
set_option maxRecDepth 20000 in
theorem t_X3_placesOf {l : Launch} {G : Gl} {n : Nat} {sh : Sh} {x : Int32 × Mu} {v0 : Nat} {v1 : Int32} {μ : Mu} (h : m_X3_placesOf sh v0 v1 μ = some x) : Ct l G ⟨"StripsOfFour$Rows", "placesOf", "(I)I"⟩ prog_5_method_7_code 6 (some .int) { frames := 1, cells := 0, slots := 0, locals := 26 } n sh μ [vr v0, vi v1] (some (.int x.1)) n sh x.2 := by
  refine Ct.of (lc := [some (vr v0), some (vi v1), none, none, none, none]) (by decide +kernel) (Nat.le_of_ble_eq_true rfl) rfl ?_
  show Sj l G (QI G n sh x) c_X3_placesOf n sh 0 0 μ 0 [some (vr v0), some (vi v1), none, none, none, none] []
  unfold m_X3_placesOf at h
  refine s_iload_n (pc := 0) d_X3_placesOf_0 rfl rfl ?_
  refine s_if_lt (pc := 1) (tgt := 12) d_X3_placesOf_1 (by decide) (fun c1 => ?_) (fun c1 => ?_)
  · have h := it_t c1 h
    refine s_iconst (pc := 12) (v := 0) d_X3_placesOf_12 (by decide) ?_
    obtain rfl := Option.some.inj h
    exact s_iret (pc := 13) d_X3_placesOf_13 rfl
  · have h := it_f c1 h
    refine s_iload_n (pc := 4) d_X3_placesOf_4 rfl rfl ?_
    refine s_aload_n (pc := 5) d_X3_placesOf_5 rfl rfl ?_
    obtain ⟨g2, h⟩ := gd_1 h
    refine s_getI (pc := 6) (k := 0) cl_3 d_X3_placesOf_6 g2 (by decide) w_180 rfl ?_
    refine s_icmp_lt (pc := 9) (tgt := 14) d_X3_placesOf_9 (by decide) (fun c3 => ?_) (fun c3 => ?_)
    · have h := it_t c3 h
      refine s_iconst (pc := 14) (v := 1) d_X3_placesOf_14 (by decide) ?_
      refine s_aload_n (pc := 15) d_X3_placesOf_15 rfl rfl ?_
      refine s_getI (pc := 16) (k := 0) cl_3 d_X3_placesOf_16 g2 (by decide) w_180 rfl ?_
      refine s_ishl (pc := 19) d_X3_placesOf_19 ?_
      refine s_iconst (pc := 20) (v := 1) d_X3_placesOf_20 (by decide) ?_
      refine s_isub (pc := 21) d_X3_placesOf_21 ?_
      obtain ⟨w4, ew4, h⟩ := bd_1 h
      refine s_topI ew4 ?_
      refine s_istore_n (pc := 22) (lc' := [some (vr v0), some (vi v1), some (vi w4), none, none, none]) d_X3_placesOf_22 rfl (by decide) rfl ?_
      refine s_iconst (pc := 23) (v := 1) d_X3_placesOf_23 (by decide) ?_
      refine s_iload_n (pc := 24) d_X3_placesOf_24 rfl rfl ?_
      refine s_ishl (pc := 25) d_X3_placesOf_25 ?_
      obtain ⟨w5, ew5, h⟩ := bd_1 h
      refine s_topI ew5 ?_
      refine s_istore_n (pc := 26) (lc' := [some (vr v0), some (vi v1), some (vi w4), some (vi w5), none, none]) d_X3_placesOf_26 rfl (by decide) rfl ?_
      refine s_iconst (pc := 27) (v := 0) d_X3_placesOf_27 (by decide) ?_
      refine s_istore (pc := 28) (lc' := [some (vr v0), some (vi v1), some (vi w4), some (vi w5), some (vi 0), none]) d_X3_placesOf_28 (by decide) rfl ?_
      refine s_iconst (pc := 30) (v := 1) d_X3_placesOf_30 (by decide) ?_
      refine s_istore (pc := 31) (lc' := [some (vr v0), some (vi v1), some (vi w4), some (vi w5), some (vi 0), some (vi 1)]) d_X3_placesOf_31 (by decide) rfl ?_
      refine s_mask [true, false, true, true, true, true] rfl ?_
      exact t_X3_placesOf_h33 FU _ _ _ h
    · have h := it_f c3 h
      refine s_iconst (pc := 12) (v := 0) d_X3_placesOf_12 (by decide) ?_
      obtain rfl := Option.some.inj h
      exact s_iret (pc := 13) d_X3_placesOf_13 rfl
/-! StripsOfFour$Rows.howMany -/
abbrev c_X3_howMany : Cf := (prog_5_method_6_code, 2, "StripsOfFour$Rows", "howMany", (some .int), { frames := 1, cells := 0, slots := 0, locals := 26 })
theorem d_X3_howMany_0 : decode prog_5_method_6_code 0 = .ok (.iconst 1, 1) := by decide +kernel
theorem d_X3_howMany_1 : decode prog_5_method_6_code 1 = .ok (.aload_n 0, 1) := by decide +kernel
theorem d_X3_howMany_2 : decode prog_5_method_6_code 2 = .ok (.getfield 9, 3) := by decide +kernel
theorem d_X3_howMany_5 : decode prog_5_method_6_code 5 = .ok (.ishl, 1) := by decide +kernel
theorem d_X3_howMany_6 : decode prog_5_method_6_code 6 = .ok (.iconst 1, 1) := by decide +kernel
theorem d_X3_howMany_7 : decode prog_5_method_6_code 7 = .ok (.isub, 1) := by decide +kernel
theorem d_X3_howMany_8 : decode prog_5_method_6_code 8 = .ok (.istore_n 1, 1) := by decide +kernel
theorem d_X3_howMany_9 : decode prog_5_method_6_code 9 = .ok (.aload_n 0, 1) := by decide +kernel
theorem d_X3_howMany_10 : decode prog_5_method_6_code 10 = .ok (.getfield 9, 3) := by decide +kernel
theorem d_X3_howMany_13 : decode prog_5_method_6_code 13 = .ok (.ifCond .ne 7, 3) := by decide +kernel
theorem d_X3_howMany_16 : decode prog_5_method_6_code 16 = .ok (.iconst 1, 1) := by decide +kernel
theorem d_X3_howMany_17 : decode prog_5_method_6_code 17 = .ok (.goto 13, 3) := by decide +kernel
theorem d_X3_howMany_20 : decode prog_5_method_6_code 20 = .ok (.aload_n 0, 1) := by decide +kernel
theorem d_X3_howMany_21 : decode prog_5_method_6_code 21 = .ok (.aload_n 0, 1) := by decide +kernel
theorem d_X3_howMany_22 : decode prog_5_method_6_code 22 = .ok (.getfield 22, 3) := by decide +kernel
theorem d_X3_howMany_25 : decode prog_5_method_6_code 25 = .ok (.iload_n 1, 1) := by decide +kernel
theorem d_X3_howMany_26 : decode prog_5_method_6_code 26 = .ok (.iload_n 1, 1) := by decide +kernel
theorem d_X3_howMany_27 : decode prog_5_method_6_code 27 = .ok (.invokevirtual 60, 3) := by decide +kernel
theorem d_X3_howMany_30 : decode prog_5_method_6_code 30 = .ok (.ireturn, 1) := by decide +kernel
def m_X3_howMany (sh : Sh) (v0 : Nat) (μ : Mu) : Option (Int32 × Mu) :=
  gd (iz sh 3 v0) <|
  bd ((1 <<< ((gI μ v0 0) &&& 31)) - 1) fun w2 =>
  if (gI μ v0 0) = 0 then
    some (1, μ)
  else
    bd (gR μ v0 3) fun a4 =>
    ca2 (m_X3_sumOver sh v0 a4 w2 w2 μ) fun r5 μ6 =>
    some (r5, μ6)
set_option maxHeartbeats 4000000 in
set_option maxRecDepth 20000 in
theorem t_X3_howMany {l : Launch} {G : Gl} {n : Nat} {sh : Sh} {x : Int32 × Mu} {v0 : Nat} {μ : Mu} (h : m_X3_howMany sh v0 μ = some x) : Ct l G ⟨"StripsOfFour$Rows", "howMany", "()I"⟩ prog_5_method_6_code 2 (some .int) { frames := 1, cells := 0, slots := 0, locals := 26 } n sh μ [vr v0] (some (.int x.1)) n sh x.2 := by
  refine Ct.of (lc := [some (vr v0), none]) (by decide +kernel) (Nat.le_of_ble_eq_true rfl) rfl ?_
  show Sj l G (QI G n sh x) c_X3_howMany n sh 0 0 μ 0 [some (vr v0), none] []
  unfold m_X3_howMany at h
  refine s_iconst (pc := 0) (v := 1) d_X3_howMany_0 (by decide) ?_
  refine s_aload_n (pc := 1) d_X3_howMany_1 rfl rfl ?_
  obtain ⟨g1, h⟩ := gd_1 h
  refine s_getI (pc := 2) (k := 0) cl_3 d_X3_howMany_2 g1 (by decide) w_180 rfl ?_
  refine s_ishl (pc := 5) d_X3_howMany_5 ?_
  refine s_iconst (pc := 6) (v := 1) d_X3_howMany_6 (by decide) ?_
  refine s_isub (pc := 7) d_X3_howMany_7 ?_
  obtain ⟨w2, ew2, h⟩ := bd_1 h
  refine s_topI ew2 ?_
  refine s_istore_n (pc := 8) (lc' := [some (vr v0), some (vi w2)]) d_X3_howMany_8 rfl (by decide) rfl ?_
  refine s_aload_n (pc := 9) d_X3_howMany_9 rfl rfl ?_
  refine s_getI (pc := 10) (k := 0) cl_3 d_X3_howMany_10 g1 (by decide) w_180 rfl ?_
  refine s_if_ne (pc := 13) (tgt := 20) d_X3_howMany_13 (by decide) (fun c3 => ?_) (fun c3 => ?_)
  · have h := it_f c3 h
    refine s_aload_n (pc := 20) d_X3_howMany_20 rfl rfl ?_
    refine s_aload_n (pc := 21) d_X3_howMany_21 rfl rfl ?_
    refine s_getR (pc := 22) (k := 3) cl_3 d_X3_howMany_22 g1 (by decide) w_183 (rt_arr _) ?_
    obtain ⟨a4, ea4, h⟩ := bd_1 h
    refine s_topR ea4 ?_
    refine s_iload_n (pc := 25) d_X3_howMany_25 rfl rfl ?_
    refine s_iload_n (pc := 26) d_X3_howMany_26 rfl rfl ?_
    obtain ⟨r5, μ6, er5, h⟩ := ca2_1 h
    refine s_callV (pc := 27) (as := [vr a4, vi w2, vi w2]) (st := []) (vo := [vi r5]) (t_X3_sumOver er5) cl_3 g1 d_X3_howMany_27 y_X3_sumOver w_542 w_544 w_s6 ⟨by decide, by decide⟩ ⟨Nat.le_of_ble_eq_true rfl, Nat.le_of_ble_eq_true rfl⟩ (Nat.le_of_ble_eq_true rfl) rfl rfl rfl ?_
    refine s_as (kc' := 0) (js' := 0) (pc' := 30) (st' := [vi r5]) ⟨rfl, rfl, rfl, rfl⟩ ?_
    obtain rfl := Option.some.inj h
    exact s_iret (pc := 30) d_X3_howMany_30 rfl
  · have h := it_t c3 h
    refine s_iconst (pc := 16) (v := 1) d_X3_howMany_16 (by decide) ?_
    refine s_goto (pc := 17) (tgt := 30) d_X3_howMany_17 (by decide) ?_
    obtain rfl := Option.some.inj h
    exact s_iret (pc := 30) d_X3_howMany_30 rfl
/-! StripsOfFour$Parts.goTogether -/
abbrev c_X0_goTogether : Cf := (prog_2_method_3_code, 5, "StripsOfFour$Parts", "goTogether", (some .boolean), { frames := 1, cells := 0, slots := 0, locals := 22 })
theorem d_X0_goTogether_0 : decode prog_2_method_3_code 0 = .ok (.aload_n 0, 1) := by decide +kernel
theorem d_X0_goTogether_1 : decode prog_2_method_3_code 1 = .ok (.iload_n 1, 1) := by decide +kernel
theorem d_X0_goTogether_2 : decode prog_2_method_3_code 2 = .ok (.invokevirtual 25, 3) := by decide +kernel
theorem d_X0_goTogether_5 : decode prog_2_method_3_code 5 = .ok (.ifCond .eq 11, 3) := by decide +kernel
theorem d_X0_goTogether_8 : decode prog_2_method_3_code 8 = .ok (.aload_n 0, 1) := by decide +kernel
theorem d_X0_goTogether_9 : decode prog_2_method_3_code 9 = .ok (.iload_n 2, 1) := by decide +kernel
theorem d_X0_goTogether_10 : decode prog_2_method_3_code 10 = .ok (.invokevirtual 25, 3) := by decide +kernel
theorem d_X0_goTogether_13 : decode prog_2_method_3_code 13 = .ok (.ifCond .ne 5, 3) := by decide +kernel
theorem d_X0_goTogether_16 : decode prog_2_method_3_code 16 = .ok (.iconst 0, 1) := by decide +kernel
theorem d_X0_goTogether_17 : decode prog_2_method_3_code 17 = .ok (.ireturn, 1) := by decide +kernel
theorem d_X0_goTogether_18 : decode prog_2_method_3_code 18 = .ok (.aload_n 0, 1) := by decide +kernel
theorem d_X0_goTogether_19 : decode prog_2_method_3_code 19 = .ok (.getfield 31, 3) := by decide +kernel
theorem d_X0_goTogether_22 : decode prog_2_method_3_code 22 = .ok (.iload_n 1, 1) := by decide +kernel
theorem d_X0_goTogether_23 : decode prog_2_method_3_code 23 = .ok (.aaload, 1) := by decide +kernel
theorem d_X0_goTogether_24 : decode prog_2_method_3_code 24 = .ok (.astore_n 3, 1) := by decide +kernel
theorem d_X0_goTogether_25 : decode prog_2_method_3_code 25 = .ok (.aload_n 0, 1) := by decide +kernel
theorem d_X0_goTogether_26 : decode prog_2_method_3_code 26 = .ok (.getfield 31, 3) := by decide +kernel
theorem d_X0_goTogether_29 : decode prog_2_method_3_code 29 = .ok (.iload_n 2, 1) := by decide +kernel
theorem d_X0_goTogether_30 : decode prog_2_method_3_code 30 = .ok (.aaload, 1) := by decide +kernel
theorem d_X0_goTogether_31 : decode prog_2_method_3_code 31 = .ok (.astore 4, 2) := by decide +kernel
theorem d_X0_goTogether_33 : decode prog_2_method_3_code 33 = .ok (.aload_n 3, 1) := by decide +kernel
theorem d_X0_goTogether_34 : decode prog_2_method_3_code 34 = .ok (.getfield 35, 3) := by decide +kernel
theorem d_X0_goTogether_37 : decode prog_2_method_3_code 37 = .ok (.aload 4, 2) := by decide +kernel
theorem d_X0_goTogether_39 : decode prog_2_method_3_code 39 = .ok (.getfield 35, 3) := by decide +kernel
theorem d_X0_goTogether_42 : decode prog_2_method_3_code 42 = .ok (.if_icmp .ne 35, 3) := by decide +kernel
theorem d_X0_goTogether_45 : decode prog_2_method_3_code 45 = .ok (.aload_n 3, 1) := by decide +kernel
theorem d_X0_goTogether_46 : decode prog_2_method_3_code 46 = .ok (.aload_n 3, 1) := by decide +kernel
theorem d_X0_goTogether_47 : decode prog_2_method_3_code 47 = .ok (.getfield 35, 3) := by decide +kernel
theorem d_X0_goTogether_50 : decode prog_2_method_3_code 50 = .ok (.iconst 1, 1) := by decide +kernel
theorem d_X0_goTogether_51 : decode prog_2_method_3_code 51 = .ok (.isub, 1) := by decide +kernel
theorem d_X0_goTogether_52 : decode prog_2_method_3_code 52 = .ok (.iconst 2, 1) := by decide +kernel
theorem d_X0_goTogether_53 : decode prog_2_method_3_code 53 = .ok (.invokevirtual 43, 3) := by decide +kernel
theorem d_X0_goTogether_56 : decode prog_2_method_3_code 56 = .ok (.aload 4, 2) := by decide +kernel
theorem d_X0_goTogether_58 : decode prog_2_method_3_code 58 = .ok (.aload 4, 2) := by decide +kernel
theorem d_X0_goTogether_60 : decode prog_2_method_3_code 60 = .ok (.getfield 35, 3) := by decide +kernel
theorem d_X0_goTogether_63 : decode prog_2_method_3_code 63 = .ok (.iconst 2, 1) := by decide +kernel
theorem d_X0_goTogether_64 : decode prog_2_method_3_code 64 = .ok (.invokevirtual 43, 3) := by decide +kernel
theorem d_X0_goTogether_67 : decode prog_2_method_3_code 67 = .ok (.invokestatic 47, 3) := by decide +kernel
theorem d_X0_goTogether_70 : decode prog_2_method_3_code 70 = .ok (.ifCond .eq 7, 3) := by decide +kernel
theorem d_X0_goTogether_73 : decode prog_2_method_3_code 73 = .ok (.iconst 1, 1) := by decide +kernel
theorem d_X0_goTogether_74 : decode prog_2_method_3_code 74 = .ok (.goto 4, 3) := by decide +kernel
theorem d_X0_goTogether_77 : decode prog_2_method_3_code 77 = .ok (.iconst 0, 1) := by decide +kernel
theorem d_X0_goTogether_78 : decode prog_2_method_3_code 78 = .ok (.ireturn, 1) := by decide +kernel
def m_X0_goTogether (sh : Sh) (v0 : Nat) (v1 : Int32) (v2 : Int32) (μ : Mu) : Option (Int32 × Mu) :=
  gd (iz sh 4 v0) <|
  ca2 (m_X4_hasStrip sh v0 v1 μ) fun r2 μ3 =>
  if r2 = 0 then
    some (0, μ3)
  else
    ca2 (m_X4_hasStrip sh v0 v2 μ3) fun r5 μ6 =>
    if r5 = 0 then
      some (0, μ6)
    else
      bd (gR μ6 v0 5) fun a8 =>
      gd (ix sh 11 a8 v1) <|
      bd (gR μ6 a8 v1.toNatClampNeg) fun a10 =>
      bd (gR μ6 v0 5) fun a11 =>
      gd (ix sh 11 a11 v2) <|
      bd (gR μ6 a11 v2.toNatClampNeg) fun a13 =>
      gd (iz sh 5 a10) <|
      gd (iz sh 5 a13) <|
      if (gI μ6 a10 2) = (gI μ6 a13 2) then
        ca2 (m_X5_cell sh a10 ((gI μ6 a10 2) - 1) 2 μ6) fun r17 μ18 =>
        ca2 (m_X5_cell sh a13 (gI μ18 a13 2) 2 μ18) fun r19 μ20 =>
        ca2 (m_X6_hatGoesOn sh r17 r19 μ20) fun r21 μ22 =>
        if r21 = 0 then
          some (0, μ22)
        else
          some (1, μ22)
      else
        some (0, μ6)
set_option maxHeartbeats 4000000 in
set_option maxRecDepth 20000 in
theorem t_X0_goTogether {l : Launch} {G : Gl} {n : Nat} {sh : Sh} {x : Int32 × Mu} {v0 : Nat} {v1 : Int32} {v2 : Int32} {μ : Mu} (h : m_X0_goTogether sh v0 v1 v2 μ = some x) : Ct l G ⟨"StripsOfFour$Parts", "goTogether", "(LStripsOfFour$Scene;II)Z"⟩ prog_2_method_3_code 5 (some .boolean) { frames := 1, cells := 0, slots := 0, locals := 22 } n sh μ [vr v0, vi v1, vi v2] (some (.int x.1)) n sh x.2 := by
  refine Ct.of (lc := [some (vr v0), some (vi v1), some (vi v2), none, none]) (by decide +kernel) (Nat.le_of_ble_eq_true rfl) rfl ?_
  show Sj l G (QI G n sh x) c_X0_goTogether n sh 0 0 μ 0 [some (vr v0), some (vi v1), some (vi v2), none, none] []
  unfold m_X0_goTogether at h
  refine s_aload_n (pc := 0) d_X0_goTogether_0 rfl rfl ?_
  refine s_iload_n (pc := 1) d_X0_goTogether_1 rfl rfl ?_
  obtain ⟨g1, h⟩ := gd_1 h
  obtain ⟨r2, μ3, er2, h⟩ := ca2_1 h
  refine s_callV (pc := 2) (as := [vi v1]) (st := []) (vo := [vi r2]) (t_X4_hasStrip er2) cl_4 g1 d_X0_goTogether_2 y_X4_hasStrip w_498 w_342 w_343 ⟨by decide, by decide⟩ ⟨Nat.le_of_ble_eq_true rfl, Nat.le_of_ble_eq_true rfl⟩ (Nat.le_of_ble_eq_true rfl) rfl rfl rfl ?_
  refine s_as (kc' := 0) (js' := 0) (pc' := 5) (st' := [vi r2]) ⟨rfl, rfl, rfl, rfl⟩ ?_
  refine s_if_eq (pc := 5) (tgt := 16) d_X0_goTogether_5 (by decide) (fun c4 => ?_) (fun c4 => ?_)
  · have h := it_t c4 h
    refine s_iconst (pc := 16) (v := 0) d_X0_goTogether_16 (by decide) ?_
    obtain rfl := Option.some.inj h
    exact s_zret0 (pc := 17) rfl d_X0_goTogether_17 rfl
  · have h := it_f c4 h
    refine s_aload_n (pc := 8) d_X0_goTogether_8 rfl rfl ?_
    refine s_iload_n (pc := 9) d_X0_goTogether_9 rfl rfl ?_
    obtain ⟨r5, μ6, er5, h⟩ := ca2_1 h
    refine s_callV (pc := 10) (as := [vi v2]) (st := []) (vo := [vi r5]) (t_X4_hasStrip er5) cl_4 g1 d_X0_goTogether_10 y_X4_hasStrip w_498 w_342 w_343 ⟨by decide, by decide⟩ ⟨Nat.le_of_ble_eq_true rfl, Nat.le_of_ble_eq_true rfl⟩ (Nat.le_of_ble_eq_true rfl) rfl rfl rfl ?_
    refine s_as (kc' := 0) (js' := 0) (pc' := 13) (st' := [vi r5]) ⟨rfl, rfl, rfl, rfl⟩ ?_
    refine s_if_ne (pc := 13) (tgt := 18) d_X0_goTogether_13 (by decide) (fun c7 => ?_) (fun c7 => ?_)
    · have h := it_f c7 h
      refine s_aload_n (pc := 18) d_X0_goTogether_18 rfl rfl ?_
      refine s_getR (pc := 19) (k := 5) cl_4 d_X0_goTogether_19 g1 (by decide) w_106 (rt_arr _) ?_
      obtain ⟨a8, ea8, h⟩ := bd_1 h
      refine s_topR ea8 ?_
      refine s_iload_n (pc := 22) d_X0_goTogether_22 rfl rfl ?_
      obtain ⟨g9, h⟩ := gd_1 h
      refine s_aald11 (pc := 23) d_X0_goTogether_23 g9 ?_
      obtain ⟨a10, ea10, h⟩ := bd_1 h
      refine s_topR ea10 ?_
      refine s_astore_n (pc := 24) (lc' := [some (vr v0), some (vi v1), some (vi v2), some (vr a10), none]) d_X0_goTogether_24 rfl (by decide) rfl ?_
      refine s_aload_n (pc := 25) d_X0_goTogether_25 rfl rfl ?_
      refine s_getR (pc := 26) (k := 5) cl_4 d_X0_goTogether_26 g1 (by decide) w_106 (rt_arr _) ?_
      obtain ⟨a11, ea11, h⟩ := bd_1 h
      refine s_topR ea11 ?_
      refine s_iload_n (pc := 29) d_X0_goTogether_29 rfl rfl ?_
      obtain ⟨g12, h⟩ := gd_1 h
      refine s_aald11 (pc := 30) d_X0_goTogether_30 g12 ?_
      obtain ⟨a13, ea13, h⟩ := bd_1 h
      refine s_topR ea13 ?_
      refine s_astore (pc := 31) (lc' := [some (vr v0), some (vi v1), some (vi v2), some (vr a10), some (vr a13)]) d_X0_goTogether_31 (by decide) rfl ?_
      refine s_aload_n (pc := 33) d_X0_goTogether_33 rfl rfl ?_
      obtain ⟨g14, h⟩ := gd_1 h
      refine s_getI (pc := 34) (k := 2) cl_5 d_X0_goTogether_34 g14 (by decide) w_68 rfl ?_
      refine s_aload (pc := 37) d_X0_goTogether_37 rfl ?_
      obtain ⟨g15, h⟩ := gd_1 h
      refine s_getI (pc := 39) (k := 2) cl_5 d_X0_goTogether_39 g15 (by decide) w_68 rfl ?_
      refine s_icmp_ne (pc := 42) (tgt := 77) d_X0_goTogether_42 (by decide) (fun c16 => ?_) (fun c16 => ?_)
      · have h := it_f c16 h
        refine s_iconst (pc := 77) (v := 0) d_X0_goTogether_77 (by decide) ?_
        obtain rfl := Option.some.inj h
        exact s_zret0 (pc := 78) rfl d_X0_goTogether_78 rfl
      · have h := it_t c16 h
        refine s_aload_n (pc := 45) d_X0_goTogether_45 rfl rfl ?_
        refine s_aload_n (pc := 46) d_X0_goTogether_46 rfl rfl ?_
        refine s_getI (pc := 47) (k := 2) cl_5 d_X0_goTogether_47 g14 (by decide) w_68 rfl ?_
        refine s_iconst (pc := 50) (v := 1) d_X0_goTogether_50 (by decide) ?_
        refine s_isub (pc := 51) d_X0_goTogether_51 ?_
        refine s_iconst (pc := 52) (v := 2) d_X0_goTogether_52 (by decide) ?_
        obtain ⟨r17, μ18, er17, h⟩ := ca2_1 h
        refine s_callV (pc := 53) (as := [vi ((gI μ6 a10 2) - 1), vi 2]) (st := []) (vo := [vi r17]) (t_X5_cell er17) cl_5 g14 d_X0_goTogether_53 y_X5_cell w_502 w_350 w_351 ⟨by decide, by decide⟩ ⟨Nat.le_of_ble_eq_true rfl, Nat.le_of_ble_eq_true rfl⟩ (Nat.le_of_ble_eq_true rfl) rfl rfl rfl ?_
        refine s_as (kc' := 0) (js' := 0) (pc' := 56) (st' := [vi r17]) ⟨rfl, rfl, rfl, rfl⟩ ?_
        refine s_aload (pc := 56) d_X0_goTogether_56 rfl ?_
        refine s_aload (pc := 58) d_X0_goTogether_58 rfl ?_
        refine s_getI (pc := 60) (k := 2) cl_5 d_X0_goTogether_60 g15 (by decide) w_68 rfl ?_
        refine s_iconst (pc := 63) (v := 2) d_X0_goTogether_63 (by decide) ?_
        obtain ⟨r19, μ20, er19, h⟩ := ca2_1 h
        refine s_callV (pc := 64) (as := [vi (gI μ18 a13 2), vi 2]) (st := [vi r17]) (vo := [vi r19]) (t_X5_cell er19) cl_5 g15 d_X0_goTogether_64 y_X5_cell w_502 w_350 w_351 ⟨by decide, by decide⟩ ⟨Nat.le_of_ble_eq_true rfl, Nat.le_of_ble_eq_true rfl⟩ (Nat.le_of_ble_eq_true rfl) rfl rfl rfl ?_
        refine s_as (kc' := 0) (js' := 0) (pc' := 67) (st' := [vi r19, vi r17]) ⟨rfl, rfl, rfl, rfl⟩ ?_
        obtain ⟨r21, μ22, er21, h⟩ := ca2_1 h
        refine s_callSN (pc := 67) (as := [vi r17, vi r19]) (st := []) (vo := [vi r21]) (t_X6_hatGoesOn er21) d_X0_goTogether_67 y_X6_hatGoesOn w_n503 w_504 ⟨by decide, by decide⟩ ⟨Nat.le_of_ble_eq_true rfl, Nat.le_of_ble_eq_true rfl⟩ (Nat.le_of_ble_eq_true rfl) rfl rfl rfl ?_
        refine s_as (kc' := 0) (js' := 0) (pc' := 70) (st' := [vi r21]) ⟨rfl, rfl, rfl, rfl⟩ ?_
        refine s_if_eq (pc := 70) (tgt := 77) d_X0_goTogether_70 (by decide) (fun c23 => ?_) (fun c23 => ?_)
        · have h := it_t c23 h
          refine s_iconst (pc := 77) (v := 0) d_X0_goTogether_77 (by decide) ?_
          obtain rfl := Option.some.inj h
          exact s_zret0 (pc := 78) rfl d_X0_goTogether_78 rfl
        · have h := it_f c23 h
          refine s_iconst (pc := 73) (v := 1) d_X0_goTogether_73 (by decide) ?_
          refine s_goto (pc := 74) (tgt := 78) d_X0_goTogether_74 (by decide) ?_
          obtain rfl := Option.some.inj h
          exact s_zret0 (pc := 78) rfl d_X0_goTogether_78 rfl
    · have h := it_t c7 h
      refine s_iconst (pc := 16) (v := 0) d_X0_goTogether_16 (by decide) ?_
      obtain rfl := Option.some.inj h
      exact s_zret0 (pc := 17) rfl d_X0_goTogether_17 rfl
/-! StripsOfFour$Parts.gather -/
abbrev c_X0_gather : Cf := (prog_2_method_2_code, 4, "StripsOfFour$Parts", "gather", none, { frames := 2, cells := 0, slots := 0, locals := 46 })
theorem d_X0_gather_0 : decode prog_2_method_2_code 0 = .ok (.aload_n 0, 1) := by decide +kernel
theorem d_X0_gather_1 : decode prog_2_method_2_code 1 = .ok (.iconst 0, 1) := by decide +kernel
theorem d_X0_gather_2 : decode prog_2_method_2_code 2 = .ok (.putfield 9, 3) := by decide +kernel
theorem d_X0_gather_5 : decode prog_2_method_2_code 5 = .ok (.iconst 0, 1) := by decide +kernel
theorem d_X0_gather_6 : decode prog_2_method_2_code 6 = .ok (.istore_n 2, 1) := by decide +kernel
theorem d_X0_gather_7 : decode prog_2_method_2_code 7 = .ok (.iload_n 2, 1) := by decide +kernel
theorem d_X0_gather_8 : decode prog_2_method_2_code 8 = .ok (.bipush 8, 2) := by decide +kernel
theorem d_X0_gather_10 : decode prog_2_method_2_code 10 = .ok (.if_icmp .ge 58, 3) := by decide +kernel
theorem d_X0_gather_13 : decode prog_2_method_2_code 13 = .ok (.aload_n 0, 1) := by decide +kernel
theorem d_X0_gather_14 : decode prog_2_method_2_code 14 = .ok (.getfield 9, 3) := by decide +kernel
theorem d_X0_gather_17 : decode prog_2_method_2_code 17 = .ok (.bipush 8, 2) := by decide +kernel
theorem d_X0_gather_19 : decode prog_2_method_2_code 19 = .ok (.if_icmp .ge 49, 3) := by decide +kernel
theorem d_X0_gather_22 : decode prog_2_method_2_code 22 = .ok (.aload_n 1, 1) := by decide +kernel
theorem d_X0_gather_23 : decode prog_2_method_2_code 23 = .ok (.iload_n 2, 1) := by decide +kernel
theorem d_X0_gather_24 : decode prog_2_method_2_code 24 = .ok (.invokevirtual 25, 3) := by decide +kernel
theorem d_X0_gather_27 : decode prog_2_method_2_code 27 = .ok (.ifCond .eq 35, 3) := by decide +kernel
theorem d_X0_gather_30 : decode prog_2_method_2_code 30 = .ok (.aload_n 1, 1) := by decide +kernel
theorem d_X0_gather_31 : decode prog_2_method_2_code 31 = .ok (.getfield 31, 3) := by decide +kernel
theorem d_X0_gather_34 : decode prog_2_method_2_code 34 = .ok (.iload_n 2, 1) := by decide +kernel
theorem d_X0_gather_35 : decode prog_2_method_2_code 35 = .ok (.aaload, 1) := by decide +kernel
theorem d_X0_gather_36 : decode prog_2_method_2_code 36 = .ok (.getfield 35, 3) := by decide +kernel
theorem d_X0_gather_39 : decode prog_2_method_2_code 39 = .ok (.ifCond .eq 23, 3) := by decide +kernel
theorem d_X0_gather_42 : decode prog_2_method_2_code 42 = .ok (.aload_n 0, 1) := by decide +kernel
theorem d_X0_gather_43 : decode prog_2_method_2_code 43 = .ok (.getfield 15, 3) := by decide +kernel
theorem d_X0_gather_46 : decode prog_2_method_2_code 46 = .ok (.aload_n 0, 1) := by decide +kernel
theorem d_X0_gather_47 : decode prog_2_method_2_code 47 = .ok (.getfield 9, 3) := by decide +kernel
theorem d_X0_gather_50 : decode prog_2_method_2_code 50 = .ok (.iload_n 2, 1) := by decide +kernel
theorem d_X0_gather_51 : decode prog_2_method_2_code 51 = .ok (.iastore, 1) := by decide +kernel
theorem d_X0_gather_52 : decode prog_2_method_2_code 52 = .ok (.aload_n 0, 1) := by decide +kernel
theorem d_X0_gather_53 : decode prog_2_method_2_code 53 = .ok (.dup, 1) := by decide +kernel
theorem d_X0_gather_54 : decode prog_2_method_2_code 54 = .ok (.getfield 9, 3) := by decide +kernel
theorem d_X0_gather_57 : decode prog_2_method_2_code 57 = .ok (.iconst 1, 1) := by decide +kernel
theorem d_X0_gather_58 : decode prog_2_method_2_code 58 = .ok (.iadd, 1) := by decide +kernel
theorem d_X0_gather_59 : decode prog_2_method_2_code 59 = .ok (.putfield 9, 3) := by decide +kernel
theorem d_X0_gather_62 : decode prog_2_method_2_code 62 = .ok (.iinc 2 1, 3) := by decide +kernel
theorem d_X0_gather_65 : decode prog_2_method_2_code 65 = .ok (.goto (-58), 3) := by decide +kernel
theorem d_X0_gather_68 : decode prog_2_method_2_code 68 = .ok (.iconst 0, 1) := by decide +kernel
theorem d_X0_gather_69 : decode prog_2_method_2_code 69 = .ok (.istore_n 2, 1) := by decide +kernel
theorem d_X0_gather_70 : decode prog_2_method_2_code 70 = .ok (.iload_n 2, 1) := by decide +kernel
theorem d_X0_gather_71 : decode prog_2_method_2_code 71 = .ok (.aload_n 0, 1) := by decide +kernel
theorem d_X0_gather_72 : decode prog_2_method_2_code 72 = .ok (.getfield 9, 3) := by decide +kernel
theorem d_X0_gather_75 : decode prog_2_method_2_code 75 = .ok (.if_icmp .ge 67, 3) := by decide +kernel
theorem d_X0_gather_78 : decode prog_2_method_2_code 78 = .ok (.aload_n 0, 1) := by decide +kernel
theorem d_X0_gather_79 : decode prog_2_method_2_code 79 = .ok (.getfield 19, 3) := by decide +kernel
theorem d_X0_gather_82 : decode prog_2_method_2_code 82 = .ok (.iload_n 2, 1) := by decide +kernel
theorem d_X0_gather_83 : decode prog_2_method_2_code 83 = .ok (.iconst 0, 1) := by decide +kernel
theorem d_X0_gather_84 : decode prog_2_method_2_code 84 = .ok (.iastore, 1) := by decide +kernel
theorem d_X0_gather_85 : decode prog_2_method_2_code 85 = .ok (.iconst 0, 1) := by decide +kernel
theorem d_X0_gather_86 : decode prog_2_method_2_code 86 = .ok (.istore_n 3, 1) := by decide +kernel
theorem d_X0_gather_87 : decode prog_2_method_2_code 87 = .ok (.iload_n 3, 1) := by decide +kernel
theorem d_X0_gather_88 : decode prog_2_method_2_code 88 = .ok (.aload_n 0, 1) := by decide +kernel
theorem d_X0_gather_89 : decode prog_2_method_2_code 89 = .ok (.getfield 9, 3) := by decide +kernel
theorem d_X0_gather_92 : decode prog_2_method_2_code 92 = .ok (.if_icmp .ge 44, 3) := by decide +kernel
theorem d_X0_gather_95 : decode prog_2_method_2_code 95 = .ok (.aload_n 0, 1) := by decide +kernel
theorem d_X0_gather_96 : decode prog_2_method_2_code 96 = .ok (.getfield 19, 3) := by decide +kernel
theorem d_X0_gather_99 : decode prog_2_method_2_code 99 = .ok (.iload_n 2, 1) := by decide +kernel
theorem d_X0_gather_100 : decode prog_2_method_2_code 100 = .ok (.dup2, 1) := by decide +kernel
theorem d_X0_gather_101 : decode prog_2_method_2_code 101 = .ok (.iaload, 1) := by decide +kernel
theorem d_X0_gather_102 : decode prog_2_method_2_code 102 = .ok (.aload_n 1, 1) := by decide +kernel
theorem d_X0_gather_103 : decode prog_2_method_2_code 103 = .ok (.aload_n 0, 1) := by decide +kernel
theorem d_X0_gather_104 : decode prog_2_method_2_code 104 = .ok (.getfield 15, 3) := by decide +kernel
theorem d_X0_gather_107 : decode prog_2_method_2_code 107 = .ok (.iload_n 2, 1) := by decide +kernel
theorem d_X0_gather_108 : decode prog_2_method_2_code 108 = .ok (.iaload, 1) := by decide +kernel
theorem d_X0_gather_109 : decode prog_2_method_2_code 109 = .ok (.aload_n 0, 1) := by decide +kernel
theorem d_X0_gather_110 : decode prog_2_method_2_code 110 = .ok (.getfield 15, 3) := by decide +kernel
theorem d_X0_gather_113 : decode prog_2_method_2_code 113 = .ok (.iload_n 3, 1) := by decide +kernel
theorem d_X0_gather_114 : decode prog_2_method_2_code 114 = .ok (.iaload, 1) := by decide +kernel
theorem d_X0_gather_115 : decode prog_2_method_2_code 115 = .ok (.invokestatic 39, 3) := by decide +kernel
theorem d_X0_gather_118 : decode prog_2_method_2_code 118 = .ok (.ifCond .eq 9, 3) := by decide +kernel
theorem d_X0_gather_121 : decode prog_2_method_2_code 121 = .ok (.iconst 1, 1) := by decide +kernel
theorem d_X0_gather_122 : decode prog_2_method_2_code 122 = .ok (.iload_n 3, 1) := by decide +kernel
theorem d_X0_gather_123 : decode prog_2_method_2_code 123 = .ok (.ishl, 1) := by decide +kernel
theorem d_X0_gather_124 : decode prog_2_method_2_code 124 = .ok (.goto 4, 3) := by decide +kernel
theorem d_X0_gather_127 : decode prog_2_method_2_code 127 = .ok (.iconst 0, 1) := by decide +kernel
theorem d_X0_gather_128 : decode prog_2_method_2_code 128 = .ok (.ior, 1) := by decide +kernel
theorem d_X0_gather_129 : decode prog_2_method_2_code 129 = .ok (.iastore, 1) := by decide +kernel
theorem d_X0_gather_130 : decode prog_2_method_2_code 130 = .ok (.iinc 3 1, 3) := by decide +kernel
theorem d_X0_gather_133 : decode prog_2_method_2_code 133 = .ok (.goto (-46), 3) := by decide +kernel
theorem d_X0_gather_136 : decode prog_2_method_2_code 136 = .ok (.iinc 2 1, 3) := by decide +kernel
theorem d_X0_gather_139 : decode prog_2_method_2_code 139 = .ok (.goto (-69), 3) := by decide +kernel
theorem d_X0_gather_142 : decode prog_2_method_2_code 142 = .ok (.return_, 1) := by decide +kernel
def m_X0_gather_b62 (sh : Sh) (k7 : Int32 → Mu → Option Mu) (v0 : Nat) (v1 : Nat) (v2 : Int32) (μ : Mu) : Option Mu :=
  bd (v2 + 1) fun w19 =>
  k7 w19 μ
def m_X0_gather_b128 (sh : Sh) (k70 : Int32 → Mu → Option Mu) (k87 : Int32 → Mu → Option Mu) (v0 : Nat) (v1 : Nat) (v2 : Int32) (v3 : Int32) (s0 : Int32) (s1 : Int32) (s2 : Int32) (s3 : Nat) (μ : Mu) : Option Mu :=
  gd (ix sh 8 s3 s2) <|
  bd (sI μ s3 s2.toNatClampNeg (s1 ||| s0)) fun μ41 =>
  bd (v3 + 1) fun w42 =>
  k87 w42 μ41
def m_X0_gather_b136 (sh : Sh) (k70 : Int32 → Mu → Option Mu) (v0 : Nat) (v1 : Nat) (v2 : Int32) (μ : Mu) : Option Mu :=
  bd (v2 + 1) fun w39 =>
  k70 w39 μ
def m_X0_gather_b87 (sh : Sh) (k70 : Int32 → Mu → Option Mu) (k87 : Int32 → Mu → Option Mu) (v0 : Nat) (v1 : Nat) (v2 : Int32) (v3 : Int32) (μ : Mu) : Option Mu :=
  gd (iz sh 0 v0) <|
  if (gI μ v0 0) ≤ v3 then
    m_X0_gather_b136 sh k70 v0 v1 v2 μ
  else
    bd (gR μ v0 2) fun a27 =>
    gd (ix sh 8 a27 v2) <|
    bd (gI μ a27 v2.toNatClampNeg) fun w29 =>
    bd (gR μ v0 1) fun a30 =>
    gd (ix sh 8 a30 v2) <|
    bd (gI μ a30 v2.toNatClampNeg) fun w32 =>
    bd (gR μ v0 1) fun a33 =>
    gd (ix sh 8 a33 v3) <|
    bd (gI μ a33 v3.toNatClampNeg) fun w35 =>
    ca2 (m_X0_goTogether sh v1 w32 w35 μ) fun r36 μ37 =>
    if r36 = 0 then
      m_X0_gather_b128 sh k70 k87 v0 v1 v2 v3 0 w29 v2 a27 μ37
    else
      m_X0_gather_b128 sh k70 k87 v0 v1 v2 v3 (1 <<< (v3 &&& 31)) w29 v2 a27 μ37
def m_X0_gather_h87 (sh : Sh) (k70 : Int32 → Mu → Option Mu) (v0 : Nat) (v1 : Nat) (v2 : Int32) : Nat → Int32 → Mu → Option Mu
  | 0 => fun _ _ => none
  | f + 1 => fun v3 μ => m_X0_gather_b87 sh k70 (m_X0_gather_h87 sh k70 v0 v1 v2 f) v0 v1 v2 v3 μ
def m_X0_gather_b70 (sh : Sh) (k70 : Int32 → Mu → Option Mu) (v0 : Nat) (v1 : Nat) (v2 : Int32) (μ : Mu) : Option Mu :=
  gd (iz sh 0 v0) <|
  if (gI μ v0 0) ≤ v2 then
    some μ
  else
    bd (gR μ v0 2) fun a22 =>
    gd (ix sh 8 a22 v2) <|
    bd (sI μ a22 v2.toNatClampNeg 0) fun μ24 =>
    m_X0_gather_h87 sh k70 v0 v1 v2 FU 0 μ24
def m_X0_gather_h70 (sh : Sh) (v0 : Nat) (v1 : Nat) : Nat → Int32 → Mu → Option Mu
  | 0 => fun _ _ => none
  | f + 1 => fun v2 μ => m_X0_gather_b70 sh (m_X0_gather_h70 sh v0 v1 f) v0 v1 v2 μ
def m_X0_gather_b68 (sh : Sh) (v0 : Nat) (v1 : Nat) (μ : Mu) : Option Mu :=
  m_X0_gather_h70 sh v0 v1 FU 0 μ
def m_X0_gather_b7 (sh : Sh) (k7 : Int32 → Mu → Option Mu) (v0 : Nat) (v1 : Nat) (v2 : Int32) (μ : Mu) : Option Mu :=
  if 8 ≤ v2 then
    m_X0_gather_b68 sh v0 v1 μ
  else
    gd (iz sh 0 v0) <|
    if 8 ≤ (gI μ v0 0) then
      m_X0_gather_b68 sh v0 v1 μ
    else
      gd (iz sh 4 v1) <|
      ca2 (m_X4_hasStrip sh v1 v2 μ) fun r7 μ8 =>
      if r7 = 0 then
        m_X0_gather_b62 sh k7 v0 v1 v2 μ8
      else
        bd (gR μ8 v1 5) fun a10 =>
        gd (ix sh 11 a10 v2) <|
        bd (gR μ8 a10 v2.toNatClampNeg) fun a12 =>
        gd (iz sh 5 a12) <|
        if (gI μ8 a12 2) = 0 then
          m_X0_gather_b62 sh k7 v0 v1 v2 μ8
        else
          bd (gR μ8 v0 1) fun a15 =>
          gd (ix sh 8 a15 (gI μ8 v0 0)) <|
          bd (sI μ8 a15 (gI μ8 v0 0).toNatClampNeg v2) fun μ17 =>
          bd (sI μ17 v0 0 ((gI μ17 v0 0) + 1)) fun μ18 =>
          m_X0_gather_b62 sh k7 v0 v1 v2 μ18
def m_X0_gather_h7 (sh : Sh) (v0 : Nat) (v1 : Nat) : Nat → Int32 → Mu → Option Mu
  | 0 => fun _ _ => none
  | f + 1 => fun v2 μ => m_X0_gather_b7 sh (m_X0_gather_h7 sh v0 v1 f) v0 v1 v2 μ
def m_X0_gather (sh : Sh) (v0 : Nat) (v1 : Nat) (μ : Mu) : Option Mu :=
  gd (iz sh 0 v0) <|
  bd (sI μ v0 0 0) fun μ2 =>
  m_X0_gather_h7 sh v0 v1 FU 0 μ2
set_option maxHeartbeats 4000000 in
set_option maxRecDepth 20000 in
theorem t_X0_gather_b62 {l : Launch} {G : Gl} {n : Nat} {sh : Sh} {x : Mu} {k7 : Int32 → Mu → Option Mu} {v0 : Nat} {v1 : Nat} {v2 : Int32} {μ : Mu} (hk7 : ∀ (v2 : Int32) (μ : Mu), k7 v2 μ = some x → Sj l G (QV G n sh x) c_X0_gather n sh 0 0 μ 7 [some (vr v0), some (vr v1), some (vi v2), none] []) (h : m_X0_gather_b62 sh k7 v0 v1 v2 μ = some x) : Sj l G (QV G n sh x) c_X0_gather n sh 0 0 μ 62 [some (vr v0), some (vr v1), some (vi v2), none] [] := by
  unfold m_X0_gather_b62 at h
  obtain ⟨w19, ew19, h⟩ := bd_1 h
  refine s_iinc (pc := 62) (v := w19) (lc' := [some (vr v0), some (vr v1), some (vi w19), none]) d_X0_gather_62 rfl (by rw [ew19]; rfl) (by decide) rfl ?_
  refine s_goto (pc := 65) (tgt := 7) d_X0_gather_65 (by decide) ?_
  exact hk7 _ _ h
set_option maxHeartbeats 4000000 in
set_option maxRecDepth 20000 in
theorem t_X0_gather_b128 {l : Launch} {G : Gl} {n : Nat} {sh : Sh} {x : Mu} {k70 : Int32 → Mu → Option Mu} {k87 : Int32 → Mu → Option Mu} {v0 : Nat} {v1 : Nat} {v2 : Int32} {v3 : Int32} {s0 : Int32} {s1 : Int32} {s2 : Int32} {s3 : Nat} {μ : Mu} (hk70 : ∀ (v2 : Int32) (μ : Mu), k70 v2 μ = some x → Sj l G (QV G n sh x) c_X0_gather n sh 0 0 μ 70 [some (vr v0), some (vr v1), some (vi v2), none] []) (hk87 : ∀ (v3 : Int32) (μ : Mu), k87 v3 μ = some x → Sj l G (QV G n sh x) c_X0_gather n sh 0 0 μ 87 [some (vr v0), some (vr v1), some (vi v2), some (vi v3)] []) (h : m_X0_gather_b128 sh k70 k87 v0 v1 v2 v3 s0 s1 s2 s3 μ = some x) : Sj l G (QV G n sh x) c_X0_gather n sh 0 0 μ 128 [some (vr v0), some (vr v1), some (vi v2), some (vi v3)] [vi s0, vi s1, vi s2, vr s3] := by
  unfold m_X0_gather_b128 at h
  refine s_ior (pc := 128) d_X0_gather_128 ?_
  obtain ⟨g40, h⟩ := gd_1 h
  refine s_iast (pc := 129) d_X0_gather_129 g40 ?_
  obtain ⟨μ41, eμ41, h⟩ := bd_1 h
  refine s_mu eμ41 ?_
  obtain ⟨w42, ew42, h⟩ := bd_1 h
  refine s_iinc (pc := 130) (v := w42) (lc' := [some (vr v0), some (vr v1), some (vi v2), some (vi w42)]) d_X0_gather_130 rfl (by rw [ew42]; rfl) (by decide) rfl ?_
  refine s_goto (pc := 133) (tgt := 87) d_X0_gather_133 (by decide) ?_
  exact hk87 _ _ h
set_option maxHeartbeats 4000000 in
set_option maxRecDepth 20000 in
theorem t_X0_gather_b136 {l : Launch} {G : Gl} {n : Nat} {sh : Sh} {x : Mu} {k70 : Int32 → Mu → Option Mu} {v0 : Nat} {v1 : Nat} {v2 : Int32} {μ : Mu} (hk70 : ∀ (v2 : Int32) (μ : Mu), k70 v2 μ = some x → Sj l G (QV G n sh x) c_X0_gather n sh 0 0 μ 70 [some (vr v0), some (vr v1), some (vi v2), none] []) (h : m_X0_gather_b136 sh k70 v0 v1 v2 μ = some x) : Sj l G (QV G n sh x) c_X0_gather n sh 0 0 μ 136 [some (vr v0), some (vr v1), some (vi v2), none] [] := by
  unfold m_X0_gather_b136 at h
  obtain ⟨w39, ew39, h⟩ := bd_1 h
  refine s_iinc (pc := 136) (v := w39) (lc' := [some (vr v0), some (vr v1), some (vi w39), none]) d_X0_gather_136 rfl (by rw [ew39]; rfl) (by decide) rfl ?_
  refine s_goto (pc := 139) (tgt := 70) d_X0_gather_139 (by decide) ?_
  exact hk70 _ _ h
set_option maxHeartbeats 4000000 in
set_option maxRecDepth 20000 in
theorem t_X0_gather_b87 {l : Launch} {G : Gl} {n : Nat} {sh : Sh} {x : Mu} {k70 : Int32 → Mu → Option Mu} {k87 : Int32 → Mu → Option Mu} {v0 : Nat} {v1 : Nat} {v2 : Int32} {v3 : Int32} {μ : Mu} (hk70 : ∀ (v2 : Int32) (μ : Mu), k70 v2 μ = some x → Sj l G (QV G n sh x) c_X0_gather n sh 0 0 μ 70 [some (vr v0), some (vr v1), some (vi v2), none] []) (hk87 : ∀ (v3 : Int32) (μ : Mu), k87 v3 μ = some x → Sj l G (QV G n sh x) c_X0_gather n sh 0 0 μ 87 [some (vr v0), some (vr v1), some (vi v2), some (vi v3)] []) (h : m_X0_gather_b87 sh k70 k87 v0 v1 v2 v3 μ = some x) : Sj l G (QV G n sh x) c_X0_gather n sh 0 0 μ 87 [some (vr v0), some (vr v1), some (vi v2), some (vi v3)] [] := by
  unfold m_X0_gather_b87 at h
  refine s_iload_n (pc := 87) d_X0_gather_87 rfl rfl ?_
  refine s_aload_n (pc := 88) d_X0_gather_88 rfl rfl ?_
  obtain ⟨g25, h⟩ := gd_1 h
  refine s_getI (pc := 89) (k := 0) cl_0 d_X0_gather_89 g25 (by decide) w_160 rfl ?_
  refine s_icmp_ge (pc := 92) (tgt := 136) d_X0_gather_92 (by decide) (fun c26 => ?_) (fun c26 => ?_)
  · have h := it_t c26 h
    refine s_mask [true, true, true, false] rfl ?_
    exact t_X0_gather_b136 hk70 h
  · have h := it_f c26 h
    refine s_aload_n (pc := 95) d_X0_gather_95 rfl rfl ?_
    refine s_getR (pc := 96) (k := 2) cl_0 d_X0_gather_96 g25 (by decide) w_162 (rt_arr _) ?_
    obtain ⟨a27, ea27, h⟩ := bd_1 h
    refine s_topR ea27 ?_
    refine s_iload_n (pc := 99) d_X0_gather_99 rfl rfl ?_
    refine s_dup2 (pc := 100) d_X0_gather_100 rfl rfl ?_
    obtain ⟨g28, h⟩ := gd_1 h
    refine s_iald (pc := 101) d_X0_gather_101 g28 ?_
    obtain ⟨w29, ew29, h⟩ := bd_1 h
    refine s_topI ew29 ?_
    refine s_aload_n (pc := 102) d_X0_gather_102 rfl rfl ?_
    refine s_aload_n (pc := 103) d_X0_gather_103 rfl rfl ?_
    refine s_getR (pc := 104) (k := 1) cl_0 d_X0_gather_104 g25 (by decide) w_161 (rt_arr _) ?_
    obtain ⟨a30, ea30, h⟩ := bd_1 h
    refine s_topR ea30 ?_
    refine s_iload_n (pc := 107) d_X0_gather_107 rfl rfl ?_
    obtain ⟨g31, h⟩ := gd_1 h
    refine s_iald (pc := 108) d_X0_gather_108 g31 ?_
    obtain ⟨w32, ew32, h⟩ := bd_1 h
    refine s_topI ew32 ?_
    refine s_aload_n (pc := 109) d_X0_gather_109 rfl rfl ?_
    refine s_getR (pc := 110) (k := 1) cl_0 d_X0_gather_110 g25 (by decide) w_161 (rt_arr _) ?_
    obtain ⟨a33, ea33, h⟩ := bd_1 h
    refine s_topR ea33 ?_
    refine s_iload_n (pc := 113) d_X0_gather_113 rfl rfl ?_
    obtain ⟨g34, h⟩ := gd_1 h
    refine s_iald (pc := 114) d_X0_gather_114 g34 ?_
    obtain ⟨w35, ew35, h⟩ := bd_1 h
    refine s_topI ew35 ?_
    obtain ⟨r36, μ37, er36, h⟩ := ca2_1 h
    refine s_callS (pc := 115) (as := [vr v1, vi w32, vi w35]) (st := [vi w29, vi v2, vr a27]) (vo := [vi r36]) (t_X0_goTogether er36) d_X0_gather_115 y_X0_goTogether w_499 w_500 ⟨by decide, by decide⟩ ⟨Nat.le_of_ble_eq_true rfl, Nat.le_of_ble_eq_true rfl⟩ (Nat.le_of_ble_eq_true rfl) rfl rfl rfl ?_
    refine s_as (kc' := 0) (js' := 0) (pc' := 118) (st' := [vi r36, vi w29, vi v2, vr a27]) ⟨rfl, rfl, rfl, rfl⟩ ?_
    refine s_if_eq (pc := 118) (tgt := 127) d_X0_gather_118 (by decide) (fun c38 => ?_) (fun c38 => ?_)
    · have h := it_t c38 h
      refine s_iconst (pc := 127) (v := 0) d_X0_gather_127 (by decide) ?_
      exact t_X0_gather_b128 hk70 hk87 h
    · have h := it_f c38 h
      refine s_iconst (pc := 121) (v := 1) d_X0_gather_121 (by decide) ?_
      refine s_iload_n (pc := 122) d_X0_gather_122 rfl rfl ?_
      refine s_ishl (pc := 123) d_X0_gather_123 ?_
      refine s_goto (pc := 124) (tgt := 128) d_X0_gather_124 (by decide) ?_
      exact t_X0_gather_b128 hk70 hk87 h
set_option maxHeartbeats 4000000 in
set_option maxRecDepth 20000 in
theorem t_X0_gather_h87 {l : Launch} {G : Gl} {n : Nat} {sh : Sh} {x : Mu} {k70 : Int32 → Mu → Option Mu} {v0 : Nat} {v1 : Nat} {v2 : Int32} (hk70 : ∀ (v2 : Int32) (μ : Mu), k70 v2 μ = some x → Sj l G (QV G n sh x) c_X0_gather n sh 0 0 μ 70 [some (vr v0), some (vr v1), some (vi v2), none] []) : ∀ (f : Nat) (v3 : Int32) (μ : Mu), m_X0_gather_h87 sh k70 v0 v1 v2 f v3 μ = some x → Sj l G (QV G n sh x) c_X0_gather n sh 0 0 μ 87 [some (vr v0), some (vr v1), some (vi v2), some (vi v3)] [] := by
  intro f
  induction f with
  | zero =>
    intro v3 μ h
    cases h
  | succ f ih =>
    intro v3 μ h
    exact t_X0_gather_b87 hk70 ih h
set_option maxHeartbeats 4000000 in
set_option maxRecDepth 20000 in
theorem t_X0_gather_b70 {l : Launch} {G : Gl} {n : Nat} {sh : Sh} {x : Mu} {k70 : Int32 → Mu → Option Mu} {v0 : Nat} {v1 : Nat} {v2 : Int32} {μ : Mu} (hk70 : ∀ (v2 : Int32) (μ : Mu), k70 v2 μ = some x → Sj l G (QV G n sh x) c_X0_gather n sh 0 0 μ 70 [some (vr v0), some (vr v1), some (vi v2), none] []) (h : m_X0_gather_b70 sh k70 v0 v1 v2 μ = some x) : Sj l G (QV G n sh x) c_X0_gather n sh 0 0 μ 70 [some (vr v0), some (vr v1), some (vi v2), none] [] := by
  unfold m_X0_gather_b70 at h
  refine s_iload_n (pc := 70) d_X0_gather_70 rfl rfl ?_
  refine s_aload_n (pc := 71) d_X0_gather_71 rfl rfl ?_
  obtain ⟨g20, h⟩ := gd_1 h
  refine s_getI (pc := 72) (k := 0) cl_0 d_X0_gather_72 g20 (by decide) w_160 rfl ?_
  refine s_icmp_ge (pc := 75) (tgt := 142) d_X0_gather_75 (by decide) (fun c21 => ?_) (fun c21 => ?_)
  · have h := it_t c21 h
    obtain rfl := Option.some.inj h
    exact s_vret (pc := 142) d_X0_gather_142 rfl
  · have h := it_f c21 h
    refine s_aload_n (pc := 78) d_X0_gather_78 rfl rfl ?_
    refine s_getR (pc := 79) (k := 2) cl_0 d_X0_gather_79 g20 (by decide) w_162 (rt_arr _) ?_
    obtain ⟨a22, ea22, h⟩ := bd_1 h
    refine s_topR ea22 ?_
    refine s_iload_n (pc := 82) d_X0_gather_82 rfl rfl ?_
    refine s_iconst (pc := 83) (v := 0) d_X0_gather_83 (by decide) ?_
    obtain ⟨g23, h⟩ := gd_1 h
    refine s_iast (pc := 84) d_X0_gather_84 g23 ?_
    obtain ⟨μ24, eμ24, h⟩ := bd_1 h
    refine s_mu eμ24 ?_
    refine s_iconst (pc := 85) (v := 0) d_X0_gather_85 (by decide) ?_
    refine s_istore_n (pc := 86) (lc' := [some (vr v0), some (vr v1), some (vi v2), some (vi 0)]) d_X0_gather_86 rfl (by decide) rfl ?_
    exact t_X0_gather_h87 hk70 FU _ _ h
set_option maxHeartbeats 4000000 in
set_option maxRecDepth 20000 in
theorem t_X0_gather_h70 {l : Launch} {G : Gl} {n : Nat} {sh : Sh} {x : Mu} {v0 : Nat} {v1 : Nat} : ∀ (f : Nat) (v2 : Int32) (μ : Mu), m_X0_gather_h70 sh v0 v1 f v2 μ = some x → Sj l G (QV G n sh x) c_X0_gather n sh 0 0 μ 70 [some (vr v0), some (vr v1), some (vi v2), none] [] := by
  intro f
  induction f with
  | zero =>
    intro v2 μ h
    cases h
  | succ f ih =>
    intro v2 μ h
    exact t_X0_gather_b70 ih h
set_option maxHeartbeats 4000000 in
set_option maxRecDepth 20000 in
theorem t_X0_gather_b68 {l : Launch} {G : Gl} {n : Nat} {sh : Sh} {x : Mu} {v0 : Nat} {v1 : Nat} {μ : Mu} (h : m_X0_gather_b68 sh v0 v1 μ = some x) : Sj l G (QV G n sh x) c_X0_gather n sh 0 0 μ 68 [some (vr v0), some (vr v1), none, none] [] := by
  unfold m_X0_gather_b68 at h
  refine s_iconst (pc := 68) (v := 0) d_X0_gather_68 (by decide) ?_
  refine s_istore_n (pc := 69) (lc' := [some (vr v0), some (vr v1), some (vi 0), none]) d_X0_gather_69 rfl (by decide) rfl ?_
  exact t_X0_gather_h70 FU _ _ h
set_option maxHeartbeats 4000000 in
set_option maxRecDepth 20000 in
theorem t_X0_gather_b7 {l : Launch} {G : Gl} {n : Nat} {sh : Sh} {x : Mu} {k7 : Int32 → Mu → Option Mu} {v0 : Nat} {v1 : Nat} {v2 : Int32} {μ : Mu} (hk7 : ∀ (v2 : Int32) (μ : Mu), k7 v2 μ = some x → Sj l G (QV G n sh x) c_X0_gather n sh 0 0 μ 7 [some (vr v0), some (vr v1), some (vi v2), none] []) (h : m_X0_gather_b7 sh k7 v0 v1 v2 μ = some x) : Sj l G (QV G n sh x) c_X0_gather n sh 0 0 μ 7 [some (vr v0), some (vr v1), some (vi v2), none] [] := by
  unfold m_X0_gather_b7 at h
  refine s_iload_n (pc := 7) d_X0_gather_7 rfl rfl ?_
  refine s_bipush (pc := 8) (v := 8) d_X0_gather_8 (by decide) ?_
  refine s_icmp_ge (pc := 10) (tgt := 68) d_X0_gather_10 (by decide) (fun c3 => ?_) (fun c3 => ?_)
  · have h := it_t c3 h
    refine s_mask [true, true, false, true] rfl ?_
    exact t_X0_gather_b68 h
  · have h := it_f c3 h
    refine s_aload_n (pc := 13) d_X0_gather_13 rfl rfl ?_
    obtain ⟨g4, h⟩ := gd_1 h
    refine s_getI (pc := 14) (k := 0) cl_0 d_X0_gather_14 g4 (by decide) w_160 rfl ?_
    refine s_bipush (pc := 17) (v := 8) d_X0_gather_17 (by decide) ?_
    refine s_icmp_ge (pc := 19) (tgt := 68) d_X0_gather_19 (by decide) (fun c5 => ?_) (fun c5 => ?_)
    · have h := it_t c5 h
      refine s_mask [true, true, false, true] rfl ?_
      exact t_X0_gather_b68 h
    · have h := it_f c5 h
      refine s_aload_n (pc := 22) d_X0_gather_22 rfl rfl ?_
      refine s_iload_n (pc := 23) d_X0_gather_23 rfl rfl ?_
      obtain ⟨g6, h⟩ := gd_1 h
      obtain ⟨r7, μ8, er7, h⟩ := ca2_1 h
      refine s_callV (pc := 24) (as := [vi v2]) (st := []) (vo := [vi r7]) (t_X4_hasStrip er7) cl_4 g6 d_X0_gather_24 y_X4_hasStrip w_498 w_342 w_343 ⟨by decide, by decide⟩ ⟨Nat.le_of_ble_eq_true rfl, Nat.le_of_ble_eq_true rfl⟩ (Nat.le_of_ble_eq_true rfl) rfl rfl rfl ?_
      refine s_as (kc' := 0) (js' := 0) (pc' := 27) (st' := [vi r7]) ⟨rfl, rfl, rfl, rfl⟩ ?_
      refine s_if_eq (pc := 27) (tgt := 62) d_X0_gather_27 (by decide) (fun c9 => ?_) (fun c9 => ?_)
      · have h := it_t c9 h
        exact t_X0_gather_b62 hk7 h
      · have h := it_f c9 h
        refine s_aload_n (pc := 30) d_X0_gather_30 rfl rfl ?_
        refine s_getR (pc := 31) (k := 5) cl_4 d_X0_gather_31 g6 (by decide) w_106 (rt_arr _) ?_
        obtain ⟨a10, ea10, h⟩ := bd_1 h
        refine s_topR ea10 ?_
        refine s_iload_n (pc := 34) d_X0_gather_34 rfl rfl ?_
        obtain ⟨g11, h⟩ := gd_1 h
        refine s_aald11 (pc := 35) d_X0_gather_35 g11 ?_
        obtain ⟨a12, ea12, h⟩ := bd_1 h
        refine s_topR ea12 ?_
        obtain ⟨g13, h⟩ := gd_1 h
        refine s_getI (pc := 36) (k := 2) cl_5 d_X0_gather_36 g13 (by decide) w_68 rfl ?_
        refine s_if_eq (pc := 39) (tgt := 62) d_X0_gather_39 (by decide) (fun c14 => ?_) (fun c14 => ?_)
        · have h := it_t c14 h
          exact t_X0_gather_b62 hk7 h
        · have h := it_f c14 h
          refine s_aload_n (pc := 42) d_X0_gather_42 rfl rfl ?_
          refine s_getR (pc := 43) (k := 1) cl_0 d_X0_gather_43 g4 (by decide) w_161 (rt_arr _) ?_
          obtain ⟨a15, ea15, h⟩ := bd_1 h
          refine s_topR ea15 ?_
          refine s_aload_n (pc := 46) d_X0_gather_46 rfl rfl ?_
          refine s_getI (pc := 47) (k := 0) cl_0 d_X0_gather_47 g4 (by decide) w_160 rfl ?_
          refine s_iload_n (pc := 50) d_X0_gather_50 rfl rfl ?_
          obtain ⟨g16, h⟩ := gd_1 h
          refine s_iast (pc := 51) d_X0_gather_51 g16 ?_
          obtain ⟨μ17, eμ17, h⟩ := bd_1 h
          refine s_mu eμ17 ?_
          refine s_aload_n (pc := 52) d_X0_gather_52 rfl rfl ?_
          refine s_dup (pc := 53) d_X0_gather_53 rfl ?_
          refine s_getI (pc := 54) (k := 0) cl_0 d_X0_gather_54 g4 (by decide) w_160 rfl ?_
          refine s_iconst (pc := 57) (v := 1) d_X0_gather_57 (by decide) ?_
          refine s_iadd (pc := 58) d_X0_gather_58 ?_
          refine s_putI (pc := 59) (k := 0) cl_0 d_X0_gather_59 g4 (by decide) w_160 rfl rfl ?_
          obtain ⟨μ18, eμ18, h⟩ := bd_1 h
          refine s_mu eμ18 ?_
          exact t_X0_gather_b62 hk7 h
set_option maxHeartbeats 4000000 in
set_option maxRecDepth 20000 in
theorem t_X0_gather_h7 {l : Launch} {G : Gl} {n : Nat} {sh : Sh} {x : Mu} {v0 : Nat} {v1 : Nat} : ∀ (f : Nat) (v2 : Int32) (μ : Mu), m_X0_gather_h7 sh v0 v1 f v2 μ = some x → Sj l G (QV G n sh x) c_X0_gather n sh 0 0 μ 7 [some (vr v0), some (vr v1), some (vi v2), none] [] := by
  intro f
  induction f with
  | zero =>
    intro v2 μ h
    cases h
  | succ f ih =>
    intro v2 μ h
    exact t_X0_gather_b7 ih h
set_option maxHeartbeats 4000000 in
set_option maxRecDepth 20000 in
theorem t_X0_gather {l : Launch} {G : Gl} {n : Nat} {sh : Sh} {x : Mu} {v0 : Nat} {v1 : Nat} {μ : Mu} (h : m_X0_gather sh v0 v1 μ = some x) : Ct l G ⟨"StripsOfFour$Parts", "gather", "(LStripsOfFour$Scene;)V"⟩ prog_2_method_2_code 4 none { frames := 2, cells := 0, slots := 0, locals := 46 } n sh μ [vr v0, vr v1] none n sh x := by
  refine Ct.of (lc := [some (vr v0), some (vr v1), none, none]) (by decide +kernel) (Nat.le_of_ble_eq_true rfl) rfl ?_
  show Sj l G (QV G n sh x) c_X0_gather n sh 0 0 μ 0 [some (vr v0), some (vr v1), none, none] []
  unfold m_X0_gather at h
  refine s_aload_n (pc := 0) d_X0_gather_0 rfl rfl ?_
  refine s_iconst (pc := 1) (v := 0) d_X0_gather_1 (by decide) ?_
  obtain ⟨g1, h⟩ := gd_1 h
  refine s_putI (pc := 2) (k := 0) cl_0 d_X0_gather_2 g1 (by decide) w_160 rfl rfl ?_
  obtain ⟨μ2, eμ2, h⟩ := bd_1 h
  refine s_mu eμ2 ?_
  refine s_iconst (pc := 5) (v := 0) d_X0_gather_5 (by decide) ?_
  refine s_istore_n (pc := 6) (lc' := [some (vr v0), some (vr v1), some (vi 0), none]) d_X0_gather_6 rfl (by decide) rfl ?_
  exact t_X0_gather_h7 FU _ _ h
/-! StripsOfFour$Parts.fitsOf -/
abbrev c_X0_fitsOf : Cf := (prog_2_method_4_code, 2, "StripsOfFour$Parts", "fitsOf", (some .int), { frames := 0, cells := 0, slots := 0, locals := 0 })
theorem d_X0_fitsOf_0 : decode prog_2_method_4_code 0 = .ok (.iload_n 1, 1) := by decide +kernel
theorem d_X0_fitsOf_1 : decode prog_2_method_4_code 1 = .ok (.ifCond .lt 26, 3) := by decide +kernel
theorem d_X0_fitsOf_4 : decode prog_2_method_4_code 4 = .ok (.iload_n 1, 1) := by decide +kernel
theorem d_X0_fitsOf_5 : decode prog_2_method_4_code 5 = .ok (.aload_n 0, 1) := by decide +kernel
theorem d_X0_fitsOf_6 : decode prog_2_method_4_code 6 = .ok (.getfield 9, 3) := by decide +kernel
theorem d_X0_fitsOf_9 : decode prog_2_method_4_code 9 = .ok (.if_icmp .ge 18, 3) := by decide +kernel
theorem d_X0_fitsOf_12 : decode prog_2_method_4_code 12 = .ok (.iload_n 1, 1) := by decide +kernel
theorem d_X0_fitsOf_13 : decode prog_2_method_4_code 13 = .ok (.bipush 8, 2) := by decide +kernel
theorem d_X0_fitsOf_15 : decode prog_2_method_4_code 15 = .ok (.if_icmp .ge 12, 3) := by decide +kernel
theorem d_X0_fitsOf_18 : decode prog_2_method_4_code 18 = .ok (.aload_n 0, 1) := by decide +kernel
theorem d_X0_fitsOf_19 : decode prog_2_method_4_code 19 = .ok (.getfield 19, 3) := by decide +kernel
theorem d_X0_fitsOf_22 : decode prog_2_method_4_code 22 = .ok (.iload_n 1, 1) := by decide +kernel
theorem d_X0_fitsOf_23 : decode prog_2_method_4_code 23 = .ok (.iaload, 1) := by decide +kernel
theorem d_X0_fitsOf_24 : decode prog_2_method_4_code 24 = .ok (.goto 4, 3) := by decide +kernel
theorem d_X0_fitsOf_27 : decode prog_2_method_4_code 27 = .ok (.iconst 0, 1) := by decide +kernel
theorem d_X0_fitsOf_28 : decode prog_2_method_4_code 28 = .ok (.ireturn, 1) := by decide +kernel
def m_X0_fitsOf (sh : Sh) (v0 : Nat) (v1 : Int32) (μ : Mu) : Option (Int32 × Mu) :=
  if v1 < 0 then
    some (0, μ)
  else
    gd (iz sh 0 v0) <|
    if (gI μ v0 0) ≤ v1 then
      some (0, μ)
    else
      if 8 ≤ v1 then
        some (0, μ)
      else
        bd (gR μ v0 2) fun a5 =>
        gd (ix sh 8 a5 v1) <|
        bd (gI μ a5 v1.toNatClampNeg) fun w7 =>
        some (w7, μ)
set_option maxHeartbeats 4000000 in
set_option maxRecDepth 20000 in
theorem t_X0_fitsOf {l : Launch} {G : Gl} {n : Nat} {sh : Sh} {x : Int32 × Mu} {v0 : Nat} {v1 : Int32} {μ : Mu} (h : m_X0_fitsOf sh v0 v1 μ = some x) : Ct l G ⟨"StripsOfFour$Parts", "fitsOf", "(I)I"⟩ prog_2_method_4_code 2 (some .int) { frames := 0, cells := 0, slots := 0, locals := 0 } n sh μ [vr v0, vi v1] (some (.int x.1)) n sh x.2 := by
  refine Ct.of (lc := [some (vr v0), some (vi v1)]) (by decide +kernel) (Nat.le_of_ble_eq_true rfl) rfl ?_
  show Sj l G (QI G n sh x) c_X0_fitsOf n sh 0 0 μ 0 [some (vr v0), some (vi v1)] []
  unfold m_X0_fitsOf at h
  refine s_iload_n (pc := 0) d_X0_fitsOf_0 rfl rfl ?_
  refine s_if_lt (pc := 1) (tgt := 27) d_X0_fitsOf_1 (by decide) (fun c1 => ?_) (fun c1 => ?_)
  · have h := it_t c1 h
    refine s_iconst (pc := 27) (v := 0) d_X0_fitsOf_27 (by decide) ?_
    obtain rfl := Option.some.inj h
    exact s_iret (pc := 28) d_X0_fitsOf_28 rfl
  · have h := it_f c1 h
    refine s_iload_n (pc := 4) d_X0_fitsOf_4 rfl rfl ?_
    refine s_aload_n (pc := 5) d_X0_fitsOf_5 rfl rfl ?_
    obtain ⟨g2, h⟩ := gd_1 h
    refine s_getI (pc := 6) (k := 0) cl_0 d_X0_fitsOf_6 g2 (by decide) w_160 rfl ?_
    refine s_icmp_ge (pc := 9) (tgt := 27) d_X0_fitsOf_9 (by decide) (fun c3 => ?_) (fun c3 => ?_)
    · have h := it_t c3 h
      refine s_iconst (pc := 27) (v := 0) d_X0_fitsOf_27 (by decide) ?_
      obtain rfl := Option.some.inj h
      exact s_iret (pc := 28) d_X0_fitsOf_28 rfl
    · have h := it_f c3 h
      refine s_iload_n (pc := 12) d_X0_fitsOf_12 rfl rfl ?_
      refine s_bipush (pc := 13) (v := 8) d_X0_fitsOf_13 (by decide) ?_
      refine s_icmp_ge (pc := 15) (tgt := 27) d_X0_fitsOf_15 (by decide) (fun c4 => ?_) (fun c4 => ?_)
      · have h := it_t c4 h
        refine s_iconst (pc := 27) (v := 0) d_X0_fitsOf_27 (by decide) ?_
        obtain rfl := Option.some.inj h
        exact s_iret (pc := 28) d_X0_fitsOf_28 rfl
      · have h := it_f c4 h
        refine s_aload_n (pc := 18) d_X0_fitsOf_18 rfl rfl ?_
        refine s_getR (pc := 19) (k := 2) cl_0 d_X0_fitsOf_19 g2 (by decide) w_162 (rt_arr _) ?_
        obtain ⟨a5, ea5, h⟩ := bd_1 h
        refine s_topR ea5 ?_
        refine s_iload_n (pc := 22) d_X0_fitsOf_22 rfl rfl ?_
        obtain ⟨g6, h⟩ := gd_1 h
        refine s_iald (pc := 23) d_X0_fitsOf_23 g6 ?_
        obtain ⟨w7, ew7, h⟩ := bd_1 h
        refine s_topI ew7 ?_
        refine s_goto (pc := 24) (tgt := 28) d_X0_fitsOf_24 (by decide) ?_
        obtain rfl := Option.some.inj h
        exact s_iret (pc := 28) d_X0_fitsOf_28 rfl
/-! StripsOfFour$Parts.putTogetherAtMost -/
abbrev c_X0_putTogetherAtMost : Cf := (prog_2_method_5_code, 4, "StripsOfFour$Parts", "putTogetherAtMost", (some .int), { frames := 1, cells := 0, slots := 0, locals := 21 })
theorem d_X0_putTogetherAtMost_0 : decode prog_2_method_5_code 0 = .ok (.aload_n 0, 1) := by decide +kernel
theorem d_X0_putTogetherAtMost_1 : decode prog_2_method_5_code 1 = .ok (.getfield 9, 3) := by decide +kernel
theorem d_X0_putTogetherAtMost_4 : decode prog_2_method_5_code 4 = .ok (.istore_n 1, 1) := by decide +kernel
theorem d_X0_putTogetherAtMost_5 : decode prog_2_method_5_code 5 = .ok (.aload_n 0, 1) := by decide +kernel
theorem d_X0_putTogetherAtMost_6 : decode prog_2_method_5_code 6 = .ok (.getfield 22, 3) := by decide +kernel
theorem d_X0_putTogetherAtMost_9 : decode prog_2_method_5_code 9 = .ok (.iconst 0, 1) := by decide +kernel
theorem d_X0_putTogetherAtMost_10 : decode prog_2_method_5_code 10 = .ok (.iconst 0, 1) := by decide +kernel
theorem d_X0_putTogetherAtMost_11 : decode prog_2_method_5_code 11 = .ok (.iastore, 1) := by decide +kernel
theorem d_X0_putTogetherAtMost_12 : decode prog_2_method_5_code 12 = .ok (.iconst 1, 1) := by decide +kernel
theorem d_X0_putTogetherAtMost_13 : decode prog_2_method_5_code 13 = .ok (.istore_n 2, 1) := by decide +kernel
theorem d_X0_putTogetherAtMost_14 : decode prog_2_method_5_code 14 = .ok (.iload_n 2, 1) := by decide +kernel
theorem d_X0_putTogetherAtMost_15 : decode prog_2_method_5_code 15 = .ok (.iconst 1, 1) := by decide +kernel
theorem d_X0_putTogetherAtMost_16 : decode prog_2_method_5_code 16 = .ok (.aload_n 0, 1) := by decide +kernel
theorem d_X0_putTogetherAtMost_17 : decode prog_2_method_5_code 17 = .ok (.getfield 9, 3) := by decide +kernel
theorem d_X0_putTogetherAtMost_20 : decode prog_2_method_5_code 20 = .ok (.ishl, 1) := by decide +kernel
theorem d_X0_putTogetherAtMost_21 : decode prog_2_method_5_code 21 = .ok (.if_icmp .ge 69, 3) := by decide +kernel
theorem d_X0_putTogetherAtMost_24 : decode prog_2_method_5_code 24 = .ok (.iload_n 2, 1) := by decide +kernel
theorem d_X0_putTogetherAtMost_25 : decode prog_2_method_5_code 25 = .ok (.aload_n 0, 1) := by decide +kernel
theorem d_X0_putTogetherAtMost_26 : decode prog_2_method_5_code 26 = .ok (.getfield 22, 3) := by decide +kernel
theorem d_X0_putTogetherAtMost_29 : decode prog_2_method_5_code 29 = .ok (.arraylength, 1) := by decide +kernel
theorem d_X0_putTogetherAtMost_30 : decode prog_2_method_5_code 30 = .ok (.if_icmp .ge 60, 3) := by decide +kernel
theorem d_X0_putTogetherAtMost_33 : decode prog_2_method_5_code 33 = .ok (.aload_n 0, 1) := by decide +kernel
theorem d_X0_putTogetherAtMost_34 : decode prog_2_method_5_code 34 = .ok (.getfield 22, 3) := by decide +kernel
theorem d_X0_putTogetherAtMost_37 : decode prog_2_method_5_code 37 = .ok (.iload_n 2, 1) := by decide +kernel
theorem d_X0_putTogetherAtMost_38 : decode prog_2_method_5_code 38 = .ok (.aload_n 0, 1) := by decide +kernel
theorem d_X0_putTogetherAtMost_39 : decode prog_2_method_5_code 39 = .ok (.getfield 22, 3) := by decide +kernel
theorem d_X0_putTogetherAtMost_42 : decode prog_2_method_5_code 42 = .ok (.iload_n 2, 1) := by decide +kernel
theorem d_X0_putTogetherAtMost_43 : decode prog_2_method_5_code 43 = .ok (.iload_n 2, 1) := by decide +kernel
theorem d_X0_putTogetherAtMost_44 : decode prog_2_method_5_code 44 = .ok (.iconst 1, 1) := by decide +kernel
theorem d_X0_putTogetherAtMost_45 : decode prog_2_method_5_code 45 = .ok (.isub, 1) := by decide +kernel
theorem d_X0_putTogetherAtMost_46 : decode prog_2_method_5_code 46 = .ok (.iand, 1) := by decide +kernel
theorem d_X0_putTogetherAtMost_47 : decode prog_2_method_5_code 47 = .ok (.iaload, 1) := by decide +kernel
theorem d_X0_putTogetherAtMost_48 : decode prog_2_method_5_code 48 = .ok (.aload_n 0, 1) := by decide +kernel
theorem d_X0_putTogetherAtMost_49 : decode prog_2_method_5_code 49 = .ok (.iload_n 2, 1) := by decide +kernel
theorem d_X0_putTogetherAtMost_50 : decode prog_2_method_5_code 50 = .ok (.invokestatic 51, 3) := by decide +kernel
theorem d_X0_putTogetherAtMost_53 : decode prog_2_method_5_code 53 = .ok (.invokevirtual 57, 3) := by decide +kernel
theorem d_X0_putTogetherAtMost_56 : decode prog_2_method_5_code 56 = .ok (.ior, 1) := by decide +kernel
theorem d_X0_putTogetherAtMost_57 : decode prog_2_method_5_code 57 = .ok (.iastore, 1) := by decide +kernel
theorem d_X0_putTogetherAtMost_58 : decode prog_2_method_5_code 58 = .ok (.iload_n 2, 1) := by decide +kernel
theorem d_X0_putTogetherAtMost_59 : decode prog_2_method_5_code 59 = .ok (.invokestatic 60, 3) := by decide +kernel
theorem d_X0_putTogetherAtMost_62 : decode prog_2_method_5_code 62 = .ok (.aload_n 0, 1) := by decide +kernel
theorem d_X0_putTogetherAtMost_63 : decode prog_2_method_5_code 63 = .ok (.getfield 22, 3) := by decide +kernel
theorem d_X0_putTogetherAtMost_66 : decode prog_2_method_5_code 66 = .ok (.iload_n 2, 1) := by decide +kernel
theorem d_X0_putTogetherAtMost_67 : decode prog_2_method_5_code 67 = .ok (.iaload, 1) := by decide +kernel
theorem d_X0_putTogetherAtMost_68 : decode prog_2_method_5_code 68 = .ok (.invokestatic 60, 3) := by decide +kernel
theorem d_X0_putTogetherAtMost_71 : decode prog_2_method_5_code 71 = .ok (.isub, 1) := by decide +kernel
theorem d_X0_putTogetherAtMost_72 : decode prog_2_method_5_code 72 = .ok (.istore_n 3, 1) := by decide +kernel
theorem d_X0_putTogetherAtMost_73 : decode prog_2_method_5_code 73 = .ok (.iload_n 1, 1) := by decide +kernel
theorem d_X0_putTogetherAtMost_74 : decode prog_2_method_5_code 74 = .ok (.aload_n 0, 1) := by decide +kernel
theorem d_X0_putTogetherAtMost_75 : decode prog_2_method_5_code 75 = .ok (.getfield 9, 3) := by decide +kernel
theorem d_X0_putTogetherAtMost_78 : decode prog_2_method_5_code 78 = .ok (.iload_n 3, 1) := by decide +kernel
theorem d_X0_putTogetherAtMost_79 : decode prog_2_method_5_code 79 = .ok (.isub, 1) := by decide +kernel
theorem d_X0_putTogetherAtMost_80 : decode prog_2_method_5_code 80 = .ok (.invokestatic 63, 3) := by decide +kernel
theorem d_X0_putTogetherAtMost_83 : decode prog_2_method_5_code 83 = .ok (.istore_n 1, 1) := by decide +kernel
theorem d_X0_putTogetherAtMost_84 : decode prog_2_method_5_code 84 = .ok (.iinc 2 1, 3) := by decide +kernel
theorem d_X0_putTogetherAtMost_87 : decode prog_2_method_5_code 87 = .ok (.goto (-73), 3) := by decide +kernel
theorem d_X0_putTogetherAtMost_90 : decode prog_2_method_5_code 90 = .ok (.iload_n 1, 1) := by decide +kernel
theorem d_X0_putTogetherAtMost_91 : decode prog_2_method_5_code 91 = .ok (.ireturn, 1) := by decide +kernel
def m_X0_putTogetherAtMost_b14 (sh : Sh) (k14 : Int32 → Int32 → Mu → Option (Int32 × Mu)) (v0 : Nat) (v1 : Int32) (v2 : Int32) (μ : Mu) : Option (Int32 × Mu) :=
  gd (iz sh 0 v0) <|
  if (1 <<< ((gI μ v0 0) &&& 31)) ≤ v2 then
    some (v1, μ)
  else
    bd (gR μ v0 3) fun a8 =>
    gd (iz sh 8 a8) <|
    if (nI (sh a8).2) ≤ v2 then
      some (v1, μ)
    else
      bd (gR μ v0 3) fun a11 =>
      bd (gR μ v0 3) fun a12 =>
      gd (ix sh 8 a12 (v2 &&& (v2 - 1))) <|
      bd (gI μ a12 (v2 &&& (v2 - 1)).toNatClampNeg) fun w14 =>
      ca2 (m_J6_numberOfTrailingZeros_0f7a4 sh v2 μ) fun r15 μ16 =>
      ca2 (m_X0_fitsOf sh v0 r15 μ16) fun r17 μ18 =>
      gd (ix sh 8 a11 v2) <|
      bd (sI μ18 a11 v2.toNatClampNeg (w14 ||| r17)) fun μ20 =>
      ca2 (m_J6_bitCount_0f7a4 sh v2 μ20) fun r21 μ22 =>
      bd (gR μ22 v0 3) fun a23 =>
      gd (ix sh 8 a23 v2) <|
      bd (gI μ22 a23 v2.toNatClampNeg) fun w25 =>
      ca2 (m_J6_bitCount_0f7a4 sh w25 μ22) fun r26 μ27 =>
      bd (r21 - r26) fun w28 =>
      ca2 (m_J9_min_7cf53 sh v1 ((gI μ27 v0 0) - w28) μ27) fun r29 μ30 =>
      bd (v2 + 1) fun w31 =>
      k14 r29 w31 μ30
def m_X0_putTogetherAtMost_h14 (sh : Sh) (v0 : Nat) : Nat → Int32 → Int32 → Mu → Option (Int32 × Mu)
  | 0 => fun _ _ _ => none
  | f + 1 => fun v1 v2 μ => m_X0_putTogetherAtMost_b14 sh (m_X0_putTogetherAtMost_h14 sh v0 f) v0 v1 v2 μ
def m_X0_putTogetherAtMost (sh : Sh) (v0 : Nat) (μ : Mu) : Option (Int32 × Mu) :=
  gd (iz sh 0 v0) <|
  bd (gI μ v0 0) fun w2 =>
  bd (gR μ v0 3) fun a3 =>
  gd (ix sh 8 a3 0) <|
  bd (sI μ a3 (0 : Int32).toNatClampNeg 0) fun μ5 =>
  m_X0_putTogetherAtMost_h14 sh v0 FU w2 1 μ5
set_option maxHeartbeats 4000000 in
set_option maxRecDepth 20000 in
theorem t_X0_putTogetherAtMost_b14 {l : Launch} {G : Gl} {n : Nat} {sh : Sh} {x : Int32 × Mu} {k14 : Int32 → Int32 → Mu → Option (Int32 × Mu)} {v0 : Nat} {v1 : Int32} {v2 : Int32} {μ : Mu} (hk14 : ∀ (v1 : Int32) (v2 : Int32) (μ : Mu), k14 v1 v2 μ = some x → Sj l G (QI G n sh x) c_X0_putTogetherAtMost n sh 0 0 μ 14 [some (vr v0), some (vi v1), some (vi v2), none] []) (h : m_X0_putTogetherAtMost_b14 sh k14 v0 v1 v2 μ = some x) : Sj l G (QI G n sh x) c_X0_putTogetherAtMost n sh 0 0 μ 14 [some (vr v0), some (vi v1), some (vi v2), none] [] := by
  unfold m_X0_putTogetherAtMost_b14 at h
  refine s_iload_n (pc := 14) d_X0_putTogetherAtMost_14 rfl rfl ?_
  refine s_iconst (pc := 15) (v := 1) d_X0_putTogetherAtMost_15 (by decide) ?_
  refine s_aload_n (pc := 16) d_X0_putTogetherAtMost_16 rfl rfl ?_
  obtain ⟨g6, h⟩ := gd_1 h
  refine s_getI (pc := 17) (k := 0) cl_0 d_X0_putTogetherAtMost_17 g6 (by decide) w_160 rfl ?_
  refine s_ishl (pc := 20) d_X0_putTogetherAtMost_20 ?_
  refine s_icmp_ge (pc := 21) (tgt := 90) d_X0_putTogetherAtMost_21 (by decide) (fun c7 => ?_) (fun c7 => ?_)
  · have h := it_t c7 h
    refine s_iload_n (pc := 90) d_X0_putTogetherAtMost_90 rfl rfl ?_
    obtain rfl := Option.some.inj h
    exact s_iret (pc := 91) d_X0_putTogetherAtMost_91 rfl
  · have h := it_f c7 h
    refine s_iload_n (pc := 24) d_X0_putTogetherAtMost_24 rfl rfl ?_
    refine s_aload_n (pc := 25) d_X0_putTogetherAtMost_25 rfl rfl ?_
    refine s_getR (pc := 26) (k := 3) cl_0 d_X0_putTogetherAtMost_26 g6 (by decide) w_163 (rt_arr _) ?_
    obtain ⟨a8, ea8, h⟩ := bd_1 h
    refine s_topR ea8 ?_
    obtain ⟨g9, h⟩ := gd_1 h
    refine s_alen8 (pc := 29) d_X0_putTogetherAtMost_29 g9 ?_
    refine s_icmp_ge (pc := 30) (tgt := 90) d_X0_putTogetherAtMost_30 (by decide) (fun c10 => ?_) (fun c10 => ?_)
    · have h := it_t c10 h
      refine s_iload_n (pc := 90) d_X0_putTogetherAtMost_90 rfl rfl ?_
      obtain rfl := Option.some.inj h
      exact s_iret (pc := 91) d_X0_putTogetherAtMost_91 rfl
    · have h := it_f c10 h
      refine s_aload_n (pc := 33) d_X0_putTogetherAtMost_33 rfl rfl ?_
      refine s_getR (pc := 34) (k := 3) cl_0 d_X0_putTogetherAtMost_34 g6 (by decide) w_163 (rt_arr _) ?_
      obtain ⟨a11, ea11, h⟩ := bd_1 h
      refine s_topR ea11 ?_
      refine s_iload_n (pc := 37) d_X0_putTogetherAtMost_37 rfl rfl ?_
      refine s_aload_n (pc := 38) d_X0_putTogetherAtMost_38 rfl rfl ?_
      refine s_getR (pc := 39) (k := 3) cl_0 d_X0_putTogetherAtMost_39 g6 (by decide) w_163 (rt_arr _) ?_
      obtain ⟨a12, ea12, h⟩ := bd_1 h
      refine s_topR ea12 ?_
      refine s_iload_n (pc := 42) d_X0_putTogetherAtMost_42 rfl rfl ?_
      refine s_iload_n (pc := 43) d_X0_putTogetherAtMost_43 rfl rfl ?_
      refine s_iconst (pc := 44) (v := 1) d_X0_putTogetherAtMost_44 (by decide) ?_
      refine s_isub (pc := 45) d_X0_putTogetherAtMost_45 ?_
      refine s_iand (pc := 46) d_X0_putTogetherAtMost_46 ?_
      obtain ⟨g13, h⟩ := gd_1 h
      refine s_iald (pc := 47) d_X0_putTogetherAtMost_47 g13 ?_
      obtain ⟨w14, ew14, h⟩ := bd_1 h
      refine s_topI ew14 ?_
      refine s_aload_n (pc := 48) d_X0_putTogetherAtMost_48 rfl rfl ?_
      refine s_iload_n (pc := 49) d_X0_putTogetherAtMost_49 rfl rfl ?_
      obtain ⟨r15, μ16, er15, h⟩ := ca2_1 h
      refine s_callS (pc := 50) (as := [vi v2]) (st := [vr v0, vi w14, vi v2, vr a11]) (vo := [vi r15]) (t_J6_numberOfTrailingZeros_0f7a4 er15) d_X0_putTogetherAtMost_50 y_J6_numberOfTrailingZeros_0f7a4 w_510 w_511 ⟨by decide, by decide⟩ ⟨Nat.le_of_ble_eq_true rfl, Nat.le_of_ble_eq_true rfl⟩ (Nat.le_of_ble_eq_true rfl) rfl rfl rfl ?_
      refine s_as (kc' := 0) (js' := 0) (pc' := 53) (st' := [vi r15, vr v0, vi w14, vi v2, vr a11]) ⟨rfl, rfl, rfl, rfl⟩ ?_
      obtain ⟨r17, μ18, er17, h⟩ := ca2_1 h
      refine s_callV (pc := 53) (as := [vi r15]) (st := [vi w14, vi v2, vr a11]) (vo := [vi r17]) (t_X0_fitsOf er17) cl_0 g6 d_X0_putTogetherAtMost_53 y_X0_fitsOf w_514 w_516 w_s4 ⟨by decide, by decide⟩ ⟨Nat.le_of_ble_eq_true rfl, Nat.le_of_ble_eq_true rfl⟩ (Nat.le_of_ble_eq_true rfl) rfl rfl rfl ?_
      refine s_as (kc' := 0) (js' := 0) (pc' := 56) (st' := [vi r17, vi w14, vi v2, vr a11]) ⟨rfl, rfl, rfl, rfl⟩ ?_
      refine s_ior (pc := 56) d_X0_putTogetherAtMost_56 ?_
      obtain ⟨g19, h⟩ := gd_1 h
      refine s_iast (pc := 57) d_X0_putTogetherAtMost_57 g19 ?_
      obtain ⟨μ20, eμ20, h⟩ := bd_1 h
      refine s_mu eμ20 ?_
      refine s_iload_n (pc := 58) d_X0_putTogetherAtMost_58 rfl rfl ?_
      obtain ⟨r21, μ22, er21, h⟩ := ca2_1 h
      refine s_callS (pc := 59) (as := [vi v2]) (st := []) (vo := [vi r21]) (t_J6_bitCount_0f7a4 er21) d_X0_putTogetherAtMost_59 y_J6_bitCount_0f7a4 w_518 w_373 ⟨by decide, by decide⟩ ⟨Nat.le_of_ble_eq_true rfl, Nat.le_of_ble_eq_true rfl⟩ (Nat.le_of_ble_eq_true rfl) rfl rfl rfl ?_
      refine s_as (kc' := 0) (js' := 0) (pc' := 62) (st' := [vi r21]) ⟨rfl, rfl, rfl, rfl⟩ ?_
      refine s_aload_n (pc := 62) d_X0_putTogetherAtMost_62 rfl rfl ?_
      refine s_getR (pc := 63) (k := 3) cl_0 d_X0_putTogetherAtMost_63 g6 (by decide) w_163 (rt_arr _) ?_
      obtain ⟨a23, ea23, h⟩ := bd_1 h
      refine s_topR ea23 ?_
      refine s_iload_n (pc := 66) d_X0_putTogetherAtMost_66 rfl rfl ?_
      obtain ⟨g24, h⟩ := gd_1 h
      refine s_iald (pc := 67) d_X0_putTogetherAtMost_67 g24 ?_
      obtain ⟨w25, ew25, h⟩ := bd_1 h
      refine s_topI ew25 ?_
      obtain ⟨r26, μ27, er26, h⟩ := ca2_1 h
      refine s_callS (pc := 68) (as := [vi w25]) (st := [vi r21]) (vo := [vi r26]) (t_J6_bitCount_0f7a4 er26) d_X0_putTogetherAtMost_68 y_J6_bitCount_0f7a4 w_518 w_373 ⟨by decide, by decide⟩ ⟨Nat.le_of_ble_eq_true rfl, Nat.le_of_ble_eq_true rfl⟩ (Nat.le_of_ble_eq_true rfl) rfl rfl rfl ?_
      refine s_as (kc' := 0) (js' := 0) (pc' := 71) (st' := [vi r26, vi r21]) ⟨rfl, rfl, rfl, rfl⟩ ?_
      refine s_isub (pc := 71) d_X0_putTogetherAtMost_71 ?_
      obtain ⟨w28, ew28, h⟩ := bd_1 h
      refine s_topI ew28 ?_
      refine s_istore_n (pc := 72) (lc' := [some (vr v0), some (vi v1), some (vi v2), some (vi w28)]) d_X0_putTogetherAtMost_72 rfl (by decide) rfl ?_
      refine s_iload_n (pc := 73) d_X0_putTogetherAtMost_73 rfl rfl ?_
      refine s_aload_n (pc := 74) d_X0_putTogetherAtMost_74 rfl rfl ?_
      refine s_getI (pc := 75) (k := 0) cl_0 d_X0_putTogetherAtMost_75 g6 (by decide) w_160 rfl ?_
      refine s_iload_n (pc := 78) d_X0_putTogetherAtMost_78 rfl rfl ?_
      refine s_isub (pc := 79) d_X0_putTogetherAtMost_79 ?_
      obtain ⟨r29, μ30, er29, h⟩ := ca2_1 h
      refine s_callS (pc := 80) (as := [vi v1, vi ((gI μ27 v0 0) - w28)]) (st := []) (vo := [vi r29]) (t_J9_min_7cf53 er29) d_X0_putTogetherAtMost_80 y_J9_min_7cf53 w_519 w_461 ⟨by decide, by decide⟩ ⟨Nat.le_of_ble_eq_true rfl, Nat.le_of_ble_eq_true rfl⟩ (Nat.le_of_ble_eq_true rfl) rfl rfl rfl ?_
      refine s_as (kc' := 0) (js' := 0) (pc' := 83) (st' := [vi r29]) ⟨rfl, rfl, rfl, rfl⟩ ?_
      refine s_istore_n (pc := 83) (lc' := [some (vr v0), some (vi r29), some (vi v2), some (vi w28)]) d_X0_putTogetherAtMost_83 rfl (by decide) rfl ?_
      obtain ⟨w31, ew31, h⟩ := bd_1 h
      refine s_iinc (pc := 84) (v := w31) (lc' := [some (vr v0), some (vi r29), some (vi w31), some (vi w28)]) d_X0_putTogetherAtMost_84 rfl (by rw [ew31]; rfl) (by decide) rfl ?_
      refine s_goto (pc := 87) (tgt := 14) d_X0_putTogetherAtMost_87 (by decide) ?_
      refine s_mask [true, true, true, false] rfl ?_
      exact hk14 _ _ _ h
set_option maxHeartbeats 4000000 in
set_option maxRecDepth 20000 in
theorem t_X0_putTogetherAtMost_h14 {l : Launch} {G : Gl} {n : Nat} {sh : Sh} {x : Int32 × Mu} {v0 : Nat} : ∀ (f : Nat) (v1 : Int32) (v2 : Int32) (μ : Mu), m_X0_putTogetherAtMost_h14 sh v0 f v1 v2 μ = some x → Sj l G (QI G n sh x) c_X0_putTogetherAtMost n sh 0 0 μ 14 [some (vr v0), some (vi v1), some (vi v2), none] [] := by
  intro f
  induction f with
  | zero =>
    intro v1 v2 μ h
    cases h
  | succ f ih =>
    intro v1 v2 μ h
    exact t_X0_putTogetherAtMost_b14 ih h
set_option maxHeartbeats 4000000 in
set_option maxRecDepth 20000 in
theorem t_X0_putTogetherAtMost {l : Launch} {G : Gl} {n : Nat} {sh : Sh} {x : Int32 × Mu} {v0 : Nat} {μ : Mu} (h : m_X0_putTogetherAtMost sh v0 μ = some x) : Ct l G ⟨"StripsOfFour$Parts", "putTogetherAtMost", "()I"⟩ prog_2_method_5_code 4 (some .int) { frames := 1, cells := 0, slots := 0, locals := 21 } n sh μ [vr v0] (some (.int x.1)) n sh x.2 := by
  refine Ct.of (lc := [some (vr v0), none, none, none]) (by decide +kernel) (Nat.le_of_ble_eq_true rfl) rfl ?_
  show Sj l G (QI G n sh x) c_X0_putTogetherAtMost n sh 0 0 μ 0 [some (vr v0), none, none, none] []
  unfold m_X0_putTogetherAtMost at h
  refine s_aload_n (pc := 0) d_X0_putTogetherAtMost_0 rfl rfl ?_
  obtain ⟨g1, h⟩ := gd_1 h
  refine s_getI (pc := 1) (k := 0) cl_0 d_X0_putTogetherAtMost_1 g1 (by decide) w_160 rfl ?_
  obtain ⟨w2, ew2, h⟩ := bd_1 h
  refine s_topI ew2 ?_
  refine s_istore_n (pc := 4) (lc' := [some (vr v0), some (vi w2), none, none]) d_X0_putTogetherAtMost_4 rfl (by decide) rfl ?_
  refine s_aload_n (pc := 5) d_X0_putTogetherAtMost_5 rfl rfl ?_
  refine s_getR (pc := 6) (k := 3) cl_0 d_X0_putTogetherAtMost_6 g1 (by decide) w_163 (rt_arr _) ?_
  obtain ⟨a3, ea3, h⟩ := bd_1 h
  refine s_topR ea3 ?_
  refine s_iconst (pc := 9) (v := 0) d_X0_putTogetherAtMost_9 (by decide) ?_
  refine s_iconst (pc := 10) (v := 0) d_X0_putTogetherAtMost_10 (by decide) ?_
  obtain ⟨g4, h⟩ := gd_1 h
  refine s_iast (pc := 11) d_X0_putTogetherAtMost_11 g4 ?_
  obtain ⟨μ5, eμ5, h⟩ := bd_1 h
  refine s_mu eμ5 ?_
  refine s_iconst (pc := 12) (v := 1) d_X0_putTogetherAtMost_12 (by decide) ?_
  refine s_istore_n (pc := 13) (lc' := [some (vr v0), some (vi w2), some (vi 1), none]) d_X0_putTogetherAtMost_13 rfl (by decide) rfl ?_
  exact t_X0_putTogetherAtMost_h14 FU _ _ _ h
/-! StripsOfFour$Parts.waysForAll -/
abbrev c_X0_waysForAll : Cf := (prog_2_method_6_code, 5, "StripsOfFour$Parts", "waysForAll", (some .int), { frames := 1, cells := 0, slots := 0, locals := 21 })
theorem d_X0_waysForAll_0 : decode prog_2_method_6_code 0 = .ok (.iconst 1, 1) := by decide +kernel
theorem d_X0_waysForAll_1 : decode prog_2_method_6_code 1 = .ok (.aload_n 0, 1) := by decide +kernel
theorem d_X0_waysForAll_2 : decode prog_2_method_6_code 2 = .ok (.getfield 9, 3) := by decide +kernel
theorem d_X0_waysForAll_5 : decode prog_2_method_6_code 5 = .ok (.ishl, 1) := by decide +kernel
theorem d_X0_waysForAll_6 : decode prog_2_method_6_code 6 = .ok (.iconst 1, 1) := by decide +kernel
theorem d_X0_waysForAll_7 : decode prog_2_method_6_code 7 = .ok (.isub, 1) := by decide +kernel
theorem d_X0_waysForAll_8 : decode prog_2_method_6_code 8 = .ok (.istore_n 1, 1) := by decide +kernel
theorem d_X0_waysForAll_9 : decode prog_2_method_6_code 9 = .ok (.iconst 1, 1) := by decide +kernel
theorem d_X0_waysForAll_10 : decode prog_2_method_6_code 10 = .ok (.istore_n 2, 1) := by decide +kernel
theorem d_X0_waysForAll_11 : decode prog_2_method_6_code 11 = .ok (.iload_n 2, 1) := by decide +kernel
theorem d_X0_waysForAll_12 : decode prog_2_method_6_code 12 = .ok (.iload_n 1, 1) := by decide +kernel
theorem d_X0_waysForAll_13 : decode prog_2_method_6_code 13 = .ok (.if_icmp .gt 25, 3) := by decide +kernel
theorem d_X0_waysForAll_16 : decode prog_2_method_6_code 16 = .ok (.iload_n 2, 1) := by decide +kernel
theorem d_X0_waysForAll_17 : decode prog_2_method_6_code 17 = .ok (.aload_n 0, 1) := by decide +kernel
theorem d_X0_waysForAll_18 : decode prog_2_method_6_code 18 = .ok (.getfield 22, 3) := by decide +kernel
theorem d_X0_waysForAll_21 : decode prog_2_method_6_code 21 = .ok (.arraylength, 1) := by decide +kernel
theorem d_X0_waysForAll_22 : decode prog_2_method_6_code 22 = .ok (.if_icmp .ge 16, 3) := by decide +kernel
theorem d_X0_waysForAll_25 : decode prog_2_method_6_code 25 = .ok (.aload_n 0, 1) := by decide +kernel
theorem d_X0_waysForAll_26 : decode prog_2_method_6_code 26 = .ok (.getfield 22, 3) := by decide +kernel
theorem d_X0_waysForAll_29 : decode prog_2_method_6_code 29 = .ok (.iload_n 2, 1) := by decide +kernel
theorem d_X0_waysForAll_30 : decode prog_2_method_6_code 30 = .ok (.iconst 0, 1) := by decide +kernel
theorem d_X0_waysForAll_31 : decode prog_2_method_6_code 31 = .ok (.iastore, 1) := by decide +kernel
theorem d_X0_waysForAll_32 : decode prog_2_method_6_code 32 = .ok (.iinc 2 1, 3) := by decide +kernel
theorem d_X0_waysForAll_35 : decode prog_2_method_6_code 35 = .ok (.goto (-24), 3) := by decide +kernel
theorem d_X0_waysForAll_38 : decode prog_2_method_6_code 38 = .ok (.aload_n 0, 1) := by decide +kernel
theorem d_X0_waysForAll_39 : decode prog_2_method_6_code 39 = .ok (.getfield 22, 3) := by decide +kernel
theorem d_X0_waysForAll_42 : decode prog_2_method_6_code 42 = .ok (.iconst 0, 1) := by decide +kernel
theorem d_X0_waysForAll_43 : decode prog_2_method_6_code 43 = .ok (.iconst 1, 1) := by decide +kernel
theorem d_X0_waysForAll_44 : decode prog_2_method_6_code 44 = .ok (.iastore, 1) := by decide +kernel
theorem d_X0_waysForAll_45 : decode prog_2_method_6_code 45 = .ok (.iconst 0, 1) := by decide +kernel
theorem d_X0_waysForAll_46 : decode prog_2_method_6_code 46 = .ok (.istore_n 2, 1) := by decide +kernel
theorem d_X0_waysForAll_47 : decode prog_2_method_6_code 47 = .ok (.iload_n 2, 1) := by decide +kernel
theorem d_X0_waysForAll_48 : decode prog_2_method_6_code 48 = .ok (.iload_n 1, 1) := by decide +kernel
theorem d_X0_waysForAll_49 : decode prog_2_method_6_code 49 = .ok (.if_icmp .ge 79, 3) := by decide +kernel
theorem d_X0_waysForAll_52 : decode prog_2_method_6_code 52 = .ok (.iload_n 2, 1) := by decide +kernel
theorem d_X0_waysForAll_53 : decode prog_2_method_6_code 53 = .ok (.aload_n 0, 1) := by decide +kernel
theorem d_X0_waysForAll_54 : decode prog_2_method_6_code 54 = .ok (.getfield 22, 3) := by decide +kernel
theorem d_X0_waysForAll_57 : decode prog_2_method_6_code 57 = .ok (.arraylength, 1) := by decide +kernel
theorem d_X0_waysForAll_58 : decode prog_2_method_6_code 58 = .ok (.if_icmp .ge 70, 3) := by decide +kernel
theorem d_X0_waysForAll_61 : decode prog_2_method_6_code 61 = .ok (.aload_n 0, 1) := by decide +kernel
theorem d_X0_waysForAll_62 : decode prog_2_method_6_code 62 = .ok (.iload_n 2, 1) := by decide +kernel
theorem d_X0_waysForAll_63 : decode prog_2_method_6_code 63 = .ok (.invokestatic 60, 3) := by decide +kernel
theorem d_X0_waysForAll_66 : decode prog_2_method_6_code 66 = .ok (.invokevirtual 57, 3) := by decide +kernel
theorem d_X0_waysForAll_69 : decode prog_2_method_6_code 69 = .ok (.iload_n 2, 1) := by decide +kernel
theorem d_X0_waysForAll_70 : decode prog_2_method_6_code 70 = .ok (.iconst (-1), 1) := by decide +kernel
theorem d_X0_waysForAll_71 : decode prog_2_method_6_code 71 = .ok (.ixor, 1) := by decide +kernel
theorem d_X0_waysForAll_72 : decode prog_2_method_6_code 72 = .ok (.iand, 1) := by decide +kernel
theorem d_X0_waysForAll_73 : decode prog_2_method_6_code 73 = .ok (.istore_n 3, 1) := by decide +kernel
theorem d_X0_waysForAll_74 : decode prog_2_method_6_code 74 = .ok (.iconst 0, 1) := by decide +kernel
theorem d_X0_waysForAll_75 : decode prog_2_method_6_code 75 = .ok (.istore 4, 2) := by decide +kernel
theorem d_X0_waysForAll_77 : decode prog_2_method_6_code 77 = .ok (.iload 4, 2) := by decide +kernel
theorem d_X0_waysForAll_79 : decode prog_2_method_6_code 79 = .ok (.aload_n 0, 1) := by decide +kernel
theorem d_X0_waysForAll_80 : decode prog_2_method_6_code 80 = .ok (.getfield 9, 3) := by decide +kernel
theorem d_X0_waysForAll_83 : decode prog_2_method_6_code 83 = .ok (.if_icmp .ge 39, 3) := by decide +kernel
theorem d_X0_waysForAll_86 : decode prog_2_method_6_code 86 = .ok (.iload_n 3, 1) := by decide +kernel
theorem d_X0_waysForAll_87 : decode prog_2_method_6_code 87 = .ok (.iload 4, 2) := by decide +kernel
theorem d_X0_waysForAll_89 : decode prog_2_method_6_code 89 = .ok (.ishr, 1) := by decide +kernel
theorem d_X0_waysForAll_90 : decode prog_2_method_6_code 90 = .ok (.iconst 1, 1) := by decide +kernel
theorem d_X0_waysForAll_91 : decode prog_2_method_6_code 91 = .ok (.iand, 1) := by decide +kernel
theorem d_X0_waysForAll_92 : decode prog_2_method_6_code 92 = .ok (.iconst 1, 1) := by decide +kernel
theorem d_X0_waysForAll_93 : decode prog_2_method_6_code 93 = .ok (.if_icmp .ne 23, 3) := by decide +kernel
theorem d_X0_waysForAll_96 : decode prog_2_method_6_code 96 = .ok (.aload_n 0, 1) := by decide +kernel
theorem d_X0_waysForAll_97 : decode prog_2_method_6_code 97 = .ok (.getfield 22, 3) := by decide +kernel
theorem d_X0_waysForAll_100 : decode prog_2_method_6_code 100 = .ok (.iload_n 2, 1) := by decide +kernel
theorem d_X0_waysForAll_101 : decode prog_2_method_6_code 101 = .ok (.iconst 1, 1) := by decide +kernel
theorem d_X0_waysForAll_102 : decode prog_2_method_6_code 102 = .ok (.iload 4, 2) := by decide +kernel
theorem d_X0_waysForAll_104 : decode prog_2_method_6_code 104 = .ok (.ishl, 1) := by decide +kernel
theorem d_X0_waysForAll_105 : decode prog_2_method_6_code 105 = .ok (.ior, 1) := by decide +kernel
theorem d_X0_waysForAll_106 : decode prog_2_method_6_code 106 = .ok (.dup2, 1) := by decide +kernel
theorem d_X0_waysForAll_107 : decode prog_2_method_6_code 107 = .ok (.iaload, 1) := by decide +kernel
theorem d_X0_waysForAll_108 : decode prog_2_method_6_code 108 = .ok (.aload_n 0, 1) := by decide +kernel
theorem d_X0_waysForAll_109 : decode prog_2_method_6_code 109 = .ok (.getfield 22, 3) := by decide +kernel
theorem d_X0_waysForAll_112 : decode prog_2_method_6_code 112 = .ok (.iload_n 2, 1) := by decide +kernel
theorem d_X0_waysForAll_113 : decode prog_2_method_6_code 113 = .ok (.iaload, 1) := by decide +kernel
theorem d_X0_waysForAll_114 : decode prog_2_method_6_code 114 = .ok (.iadd, 1) := by decide +kernel
theorem d_X0_waysForAll_115 : decode prog_2_method_6_code 115 = .ok (.iastore, 1) := by decide +kernel
theorem d_X0_waysForAll_116 : decode prog_2_method_6_code 116 = .ok (.iinc 4 1, 3) := by decide +kernel
theorem d_X0_waysForAll_119 : decode prog_2_method_6_code 119 = .ok (.goto (-42), 3) := by decide +kernel
theorem d_X0_waysForAll_122 : decode prog_2_method_6_code 122 = .ok (.iinc 2 1, 3) := by decide +kernel
theorem d_X0_waysForAll_125 : decode prog_2_method_6_code 125 = .ok (.goto (-78), 3) := by decide +kernel
theorem d_X0_waysForAll_128 : decode prog_2_method_6_code 128 = .ok (.iload_n 1, 1) := by decide +kernel
theorem d_X0_waysForAll_129 : decode prog_2_method_6_code 129 = .ok (.aload_n 0, 1) := by decide +kernel
theorem d_X0_waysForAll_130 : decode prog_2_method_6_code 130 = .ok (.getfield 22, 3) := by decide +kernel
theorem d_X0_waysForAll_133 : decode prog_2_method_6_code 133 = .ok (.arraylength, 1) := by decide +kernel
theorem d_X0_waysForAll_134 : decode prog_2_method_6_code 134 = .ok (.if_icmp .ge 12, 3) := by decide +kernel
theorem d_X0_waysForAll_137 : decode prog_2_method_6_code 137 = .ok (.aload_n 0, 1) := by decide +kernel
theorem d_X0_waysForAll_138 : decode prog_2_method_6_code 138 = .ok (.getfield 22, 3) := by decide +kernel
theorem d_X0_waysForAll_141 : decode prog_2_method_6_code 141 = .ok (.iload_n 1, 1) := by decide +kernel
theorem d_X0_waysForAll_142 : decode prog_2_method_6_code 142 = .ok (.iaload, 1) := by decide +kernel
theorem d_X0_waysForAll_143 : decode prog_2_method_6_code 143 = .ok (.goto 4, 3) := by decide +kernel
theorem d_X0_waysForAll_146 : decode prog_2_method_6_code 146 = .ok (.iconst 0, 1) := by decide +kernel
theorem d_X0_waysForAll_147 : decode prog_2_method_6_code 147 = .ok (.ireturn, 1) := by decide +kernel
def m_X0_waysForAll_b116 (sh : Sh) (k47 : Int32 → Mu → Option (Int32 × Mu)) (k77 : Int32 → Mu → Option (Int32 × Mu)) (v0 : Nat) (v1 : Int32) (v2 : Int32) (v3 : Int32) (v4 : Int32) (μ : Mu) : Option (Int32 × Mu) :=
  bd (v4 + 1) fun w44 =>
  k77 w44 μ
def m_X0_waysForAll_b122 (sh : Sh) (k47 : Int32 → Mu → Option (Int32 × Mu)) (v0 : Nat) (v1 : Int32) (v2 : Int32) (μ : Mu) : Option (Int32 × Mu) :=
  bd (v2 + 1) fun w43 =>
  k47 w43 μ
def m_X0_waysForAll_b77 (sh : Sh) (k47 : Int32 → Mu → Option (Int32 × Mu)) (k77 : Int32 → Mu → Option (Int32 × Mu)) (v0 : Nat) (v1 : Int32) (v2 : Int32) (v3 : Int32) (v4 : Int32) (μ : Mu) : Option (Int32 × Mu) :=
  gd (iz sh 0 v0) <|
  if (gI μ v0 0) ≤ v4 then
    m_X0_waysForAll_b122 sh k47 v0 v1 v2 μ
  else
    if ((v3 >>> (v4 &&& 31)) &&& 1) = 1 then
      bd (gR μ v0 3) fun a36 =>
      gd (ix sh 8 a36 (v2 ||| (1 <<< (v4 &&& 31)))) <|
      bd (gI μ a36 (v2 ||| (1 <<< (v4 &&& 31))).toNatClampNeg) fun w38 =>
      bd (gR μ v0 3) fun a39 =>
      gd (ix sh 8 a39 v2) <|
      bd (gI μ a39 v2.toNatClampNeg) fun w41 =>
      bd (sI μ a36 (v2 ||| (1 <<< (v4 &&& 31))).toNatClampNeg (w38 + w41)) fun μ42 =>
      m_X0_waysForAll_b116 sh k47 k77 v0 v1 v2 v3 v4 μ42
    else
      m_X0_waysForAll_b116 sh k47 k77 v0 v1 v2 v3 v4 μ
def m_X0_waysForAll_h77 (sh : Sh) (k47 : Int32 → Mu → Option (Int32 × Mu)) (v0 : Nat) (v1 : Int32) (v2 : Int32) (v3 : Int32) : Nat → Int32 → Mu → Option (Int32 × Mu)
  | 0 => fun _ _ => none
  | f + 1 => fun v4 μ => m_X0_waysForAll_b77 sh k47 (m_X0_waysForAll_h77 sh k47 v0 v1 v2 v3 f) v0 v1 v2 v3 v4 μ
def m_X0_waysForAll_b128 (sh : Sh) (v0 : Nat) (v1 : Int32) (μ : Mu) : Option (Int32 × Mu) :=
  gd (iz sh 0 v0) <|
  bd (gR μ v0 3) fun a27 =>
  gd (iz sh 8 a27) <|
  if (nI (sh a27).2) ≤ v1 then
    some (0, μ)
  else
    bd (gR μ v0 3) fun a30 =>
    gd (ix sh 8 a30 v1) <|
    bd (gI μ a30 v1.toNatClampNeg) fun w32 =>
    some (w32, μ)
def m_X0_waysForAll_b47 (sh : Sh) (k47 : Int32 → Mu → Option (Int32 × Mu)) (v0 : Nat) (v1 : Int32) (v2 : Int32) (μ : Mu) : Option (Int32 × Mu) :=
  if v1 ≤ v2 then
    m_X0_waysForAll_b128 sh v0 v1 μ
  else
    gd (iz sh 0 v0) <|
    bd (gR μ v0 3) fun a18 =>
    gd (iz sh 8 a18) <|
    if (nI (sh a18).2) ≤ v2 then
      m_X0_waysForAll_b128 sh v0 v1 μ
    else
      ca2 (m_J6_bitCount_0f7a4 sh v2 μ) fun r21 μ22 =>
      ca2 (m_X0_fitsOf sh v0 r21 μ22) fun r23 μ24 =>
      bd (r23 &&& (v2 ^^^ (-1))) fun w25 =>
      m_X0_waysForAll_h77 sh k47 v0 v1 v2 w25 FU 0 μ24
def m_X0_waysForAll_h47 (sh : Sh) (v0 : Nat) (v1 : Int32) : Nat → Int32 → Mu → Option (Int32 × Mu)
  | 0 => fun _ _ => none
  | f + 1 => fun v2 μ => m_X0_waysForAll_b47 sh (m_X0_waysForAll_h47 sh v0 v1 f) v0 v1 v2 μ
def m_X0_waysForAll_b38 (sh : Sh) (v0 : Nat) (v1 : Int32) (μ : Mu) : Option (Int32 × Mu) :=
  gd (iz sh 0 v0) <|
  bd (gR μ v0 3) fun a13 =>
  gd (ix sh 8 a13 0) <|
  bd (sI μ a13 (0 : Int32).toNatClampNeg 1) fun μ15 =>
  m_X0_waysForAll_h47 sh v0 v1 FU 0 μ15
def m_X0_waysForAll_b11 (sh : Sh) (k11 : Int32 → Mu → Option (Int32 × Mu)) (v0 : Nat) (v1 : Int32) (v2 : Int32) (μ : Mu) : Option (Int32 × Mu) :=
  if v1 < v2 then
    m_X0_waysForAll_b38 sh v0 v1 μ
  else
    gd (iz sh 0 v0) <|
    bd (gR μ v0 3) fun a5 =>
    gd (iz sh 8 a5) <|
    if (nI (sh a5).2) ≤ v2 then
      m_X0_waysForAll_b38 sh v0 v1 μ
    else
      bd (gR μ v0 3) fun a8 =>
      gd (ix sh 8 a8 v2) <|
      bd (sI μ a8 v2.toNatClampNeg 0) fun μ10 =>
      bd (v2 + 1) fun w11 =>
      k11 w11 μ10
def m_X0_waysForAll_h11 (sh : Sh) (v0 : Nat) (v1 : Int32) : Nat → Int32 → Mu → Option (Int32 × Mu)
  | 0 => fun _ _ => none
  | f + 1 => fun v2 μ => m_X0_waysForAll_b11 sh (m_X0_waysForAll_h11 sh v0 v1 f) v0 v1 v2 μ
def m_X0_waysForAll (sh : Sh) (v0 : Nat) (μ : Mu) : Option (Int32 × Mu) :=
  gd (iz sh 0 v0) <|
  bd ((1 <<< ((gI μ v0 0) &&& 31)) - 1) fun w2 =>
  m_X0_waysForAll_h11 sh v0 w2 FU 1 μ
set_option maxHeartbeats 4000000 in
set_option maxRecDepth 20000 in
theorem t_X0_waysForAll_b116 {l : Launch} {G : Gl} {n : Nat} {sh : Sh} {x : Int32 × Mu} {k47 : Int32 → Mu → Option (Int32 × Mu)} {k77 : Int32 → Mu → Option (Int32 × Mu)} {v0 : Nat} {v1 : Int32} {v2 : Int32} {v3 : Int32} {v4 : Int32} {μ : Mu} (hk47 : ∀ (v2 : Int32) (μ : Mu), k47 v2 μ = some x → Sj l G (QI G n sh x) c_X0_waysForAll n sh 0 0 μ 47 [some (vr v0), some (vi v1), some (vi v2), none, none] []) (hk77 : ∀ (v4 : Int32) (μ : Mu), k77 v4 μ = some x → Sj l G (QI G n sh x) c_X0_waysForAll n sh 0 0 μ 77 [some (vr v0), some (vi v1), some (vi v2), some (vi v3), some (vi v4)] []) (h : m_X0_waysForAll_b116 sh k47 k77 v0 v1 v2 v3 v4 μ = some x) : Sj l G (QI G n sh x) c_X0_waysForAll n sh 0 0 μ 116 [some (vr v0), some (vi v1), some (vi v2), some (vi v3), some (vi v4)] [] := by
  unfold m_X0_waysForAll_b116 at h
  obtain ⟨w44, ew44, h⟩ := bd_1 h
  refine s_iinc (pc := 116) (v := w44) (lc' := [some (vr v0), some (vi v1), some (vi v2), some (vi v3), some (vi w44)]) d_X0_waysForAll_116 rfl (by rw [ew44]; rfl) (by decide) rfl ?_
  refine s_goto (pc := 119) (tgt := 77) d_X0_waysForAll_119 (by decide) ?_
  exact hk77 _ _ h
set_option maxHeartbeats 4000000 in
set_option maxRecDepth 20000 in
theorem t_X0_waysForAll_b122 {l : Launch} {G : Gl} {n : Nat} {sh : Sh} {x : Int32 × Mu} {k47 : Int32 → Mu → Option (Int32 × Mu)} {v0 : Nat} {v1 : Int32} {v2 : Int32} {μ : Mu} (hk47 : ∀ (v2 : Int32) (μ : Mu), k47 v2 μ = some x → Sj l G (QI G n sh x) c_X0_waysForAll n sh 0 0 μ 47 [some (vr v0), some (vi v1), some (vi v2), none, none] []) (h : m_X0_waysForAll_b122 sh k47 v0 v1 v2 μ = some x) : Sj l G (QI G n sh x) c_X0_waysForAll n sh 0 0 μ 122 [some (vr v0), some (vi v1), some (vi v2), none, none] [] := by
  unfold m_X0_waysForAll_b122 at h
  obtain ⟨w43, ew43, h⟩ := bd_1 h
  refine s_iinc (pc := 122) (v := w43) (lc' := [some (vr v0), some (vi v1), some (vi w43), none, none]) d_X0_waysForAll_122 rfl (by rw [ew43]; rfl) (by decide) rfl ?_
  refine s_goto (pc := 125) (tgt := 47) d_X0_waysForAll_125 (by decide) ?_
  exact hk47 _ _ h
set_option maxHeartbeats 4000000 in
set_option maxRecDepth 20000 in
theorem t_X0_waysForAll_b77 {l : Launch} {G : Gl} {n : Nat} {sh : Sh} {x : Int32 × Mu} {k47 : Int32 → Mu → Option (Int32 × Mu)} {k77 : Int32 → Mu → Option (Int32 × Mu)} {v0 : Nat} {v1 : Int32} {v2 : Int32} {v3 : Int32} {v4 : Int32} {μ : Mu} (hk47 : ∀ (v2 : Int32) (μ : Mu), k47 v2 μ = some x → Sj l G (QI G n sh x) c_X0_waysForAll n sh 0 0 μ 47 [some (vr v0), some (vi v1), some (vi v2), none, none] []) (hk77 : ∀ (v4 : Int32) (μ : Mu), k77 v4 μ = some x → Sj l G (QI G n sh x) c_X0_waysForAll n sh 0 0 μ 77 [some (vr v0), some (vi v1), some (vi v2), some (vi v3), some (vi v4)] []) (h : m_X0_waysForAll_b77 sh k47 k77 v0 v1 v2 v3 v4 μ = some x) : Sj l G (QI G n sh x) c_X0_waysForAll n sh 0 0 μ 77 [some (vr v0), some (vi v1), some (vi v2), some (vi v3), some (vi v4)] [] := by
  unfold m_X0_waysForAll_b77 at h
  refine s_iload (pc := 77) d_X0_waysForAll_77 rfl ?_
  refine s_aload_n (pc := 79) d_X0_waysForAll_79 rfl rfl ?_
  obtain ⟨g33, h⟩ := gd_1 h
  refine s_getI (pc := 80) (k := 0) cl_0 d_X0_waysForAll_80 g33 (by decide) w_160 rfl ?_
  refine s_icmp_ge (pc := 83) (tgt := 122) d_X0_waysForAll_83 (by decide) (fun c34 => ?_) (fun c34 => ?_)
  · have h := it_t c34 h
    refine s_mask [true, true, true, false, false] rfl ?_
    exact t_X0_waysForAll_b122 hk47 h
  · have h := it_f c34 h
    refine s_iload_n (pc := 86) d_X0_waysForAll_86 rfl rfl ?_
    refine s_iload (pc := 87) d_X0_waysForAll_87 rfl ?_
    refine s_ishr (pc := 89) d_X0_waysForAll_89 ?_
    refine s_iconst (pc := 90) (v := 1) d_X0_waysForAll_90 (by decide) ?_
    refine s_iand (pc := 91) d_X0_waysForAll_91 ?_
    refine s_iconst (pc := 92) (v := 1) d_X0_waysForAll_92 (by decide) ?_
    refine s_icmp_ne (pc := 93) (tgt := 116) d_X0_waysForAll_93 (by decide) (fun c35 => ?_) (fun c35 => ?_)
    · have h := it_f c35 h
      exact t_X0_waysForAll_b116 hk47 hk77 h
    · have h := it_t c35 h
      refine s_aload_n (pc := 96) d_X0_waysForAll_96 rfl rfl ?_
      refine s_getR (pc := 97) (k := 3) cl_0 d_X0_waysForAll_97 g33 (by decide) w_163 (rt_arr _) ?_
      obtain ⟨a36, ea36, h⟩ := bd_1 h
      refine s_topR ea36 ?_
      refine s_iload_n (pc := 100) d_X0_waysForAll_100 rfl rfl ?_
      refine s_iconst (pc := 101) (v := 1) d_X0_waysForAll_101 (by decide) ?_
      refine s_iload (pc := 102) d_X0_waysForAll_102 rfl ?_
      refine s_ishl (pc := 104) d_X0_waysForAll_104 ?_
      refine s_ior (pc := 105) d_X0_waysForAll_105 ?_
      refine s_dup2 (pc := 106) d_X0_waysForAll_106 rfl rfl ?_
      obtain ⟨g37, h⟩ := gd_1 h
      refine s_iald (pc := 107) d_X0_waysForAll_107 g37 ?_
      obtain ⟨w38, ew38, h⟩ := bd_1 h
      refine s_topI ew38 ?_
      refine s_aload_n (pc := 108) d_X0_waysForAll_108 rfl rfl ?_
      refine s_getR (pc := 109) (k := 3) cl_0 d_X0_waysForAll_109 g33 (by decide) w_163 (rt_arr _) ?_
      obtain ⟨a39, ea39, h⟩ := bd_1 h
      refine s_topR ea39 ?_
      refine s_iload_n (pc := 112) d_X0_waysForAll_112 rfl rfl ?_
      obtain ⟨g40, h⟩ := gd_1 h
      refine s_iald (pc := 113) d_X0_waysForAll_113 g40 ?_
      obtain ⟨w41, ew41, h⟩ := bd_1 h
      refine s_topI ew41 ?_
      refine s_iadd (pc := 114) d_X0_waysForAll_114 ?_
      refine s_iast (pc := 115) d_X0_waysForAll_115 g37 ?_
      obtain ⟨μ42, eμ42, h⟩ := bd_1 h
      refine s_mu eμ42 ?_
      exact t_X0_waysForAll_b116 hk47 hk77 h
set_option maxHeartbeats 4000000 in
set_option maxRecDepth 20000 in
theorem t_X0_waysForAll_h77 {l : Launch} {G : Gl} {n : Nat} {sh : Sh} {x : Int32 × Mu} {k47 : Int32 → Mu → Option (Int32 × Mu)} {v0 : Nat} {v1 : Int32} {v2 : Int32} {v3 : Int32} (hk47 : ∀ (v2 : Int32) (μ : Mu), k47 v2 μ = some x → Sj l G (QI G n sh x) c_X0_waysForAll n sh 0 0 μ 47 [some (vr v0), some (vi v1), some (vi v2), none, none] []) : ∀ (f : Nat) (v4 : Int32) (μ : Mu), m_X0_waysForAll_h77 sh k47 v0 v1 v2 v3 f v4 μ = some x → Sj l G (QI G n sh x) c_X0_waysForAll n sh 0 0 μ 77 [some (vr v0), some (vi v1), some (vi v2), some (vi v3), some (vi v4)] [] := by
  intro f
  induction f with
  | zero =>
    intro v4 μ h
    cases h
  | succ f ih =>
    intro v4 μ h
    exact t_X0_waysForAll_b77 hk47 ih h
set_option maxHeartbeats 4000000 in
set_option maxRecDepth 20000 in
theorem t_X0_waysForAll_b128 {l : Launch} {G : Gl} {n : Nat} {sh : Sh} {x : Int32 × Mu} {v0 : Nat} {v1 : Int32} {μ : Mu} (h : m_X0_waysForAll_b128 sh v0 v1 μ = some x) : Sj l G (QI G n sh x) c_X0_waysForAll n sh 0 0 μ 128 [some (vr v0), some (vi v1), none, none, none] [] := by
  unfold m_X0_waysForAll_b128 at h
  refine s_iload_n (pc := 128) d_X0_waysForAll_128 rfl rfl ?_
  refine s_aload_n (pc := 129) d_X0_waysForAll_129 rfl rfl ?_
  obtain ⟨g26, h⟩ := gd_1 h
  refine s_getR (pc := 130) (k := 3) cl_0 d_X0_waysForAll_130 g26 (by decide) w_163 (rt_arr _) ?_
  obtain ⟨a27, ea27, h⟩ := bd_1 h
  refine s_topR ea27 ?_
  obtain ⟨g28, h⟩ := gd_1 h
  refine s_alen8 (pc := 133) d_X0_waysForAll_133 g28 ?_
  refine s_icmp_ge (pc := 134) (tgt := 146) d_X0_waysForAll_134 (by decide) (fun c29 => ?_) (fun c29 => ?_)
  · have h := it_t c29 h
    refine s_iconst (pc := 146) (v := 0) d_X0_waysForAll_146 (by decide) ?_
    obtain rfl := Option.some.inj h
    exact s_iret (pc := 147) d_X0_waysForAll_147 rfl
  · have h := it_f c29 h
    refine s_aload_n (pc := 137) d_X0_waysForAll_137 rfl rfl ?_
    refine s_getR (pc := 138) (k := 3) cl_0 d_X0_waysForAll_138 g26 (by decide) w_163 (rt_arr _) ?_
    obtain ⟨a30, ea30, h⟩ := bd_1 h
    refine s_topR ea30 ?_
    refine s_iload_n (pc := 141) d_X0_waysForAll_141 rfl rfl ?_
    obtain ⟨g31, h⟩ := gd_1 h
    refine s_iald (pc := 142) d_X0_waysForAll_142 g31 ?_
    obtain ⟨w32, ew32, h⟩ := bd_1 h
    refine s_topI ew32 ?_
    refine s_goto (pc := 143) (tgt := 147) d_X0_waysForAll_143 (by decide) ?_
    obtain rfl := Option.some.inj h
    exact s_iret (pc := 147) d_X0_waysForAll_147 rfl
set_option maxHeartbeats 4000000 in
set_option maxRecDepth 20000 in
theorem t_X0_waysForAll_b47 {l : Launch} {G : Gl} {n : Nat} {sh : Sh} {x : Int32 × Mu} {k47 : Int32 → Mu → Option (Int32 × Mu)} {v0 : Nat} {v1 : Int32} {v2 : Int32} {μ : Mu} (hk47 : ∀ (v2 : Int32) (μ : Mu), k47 v2 μ = some x → Sj l G (QI G n sh x) c_X0_waysForAll n sh 0 0 μ 47 [some (vr v0), some (vi v1), some (vi v2), none, none] []) (h : m_X0_waysForAll_b47 sh k47 v0 v1 v2 μ = some x) : Sj l G (QI G n sh x) c_X0_waysForAll n sh 0 0 μ 47 [some (vr v0), some (vi v1), some (vi v2), none, none] [] := by
  unfold m_X0_waysForAll_b47 at h
  refine s_iload_n (pc := 47) d_X0_waysForAll_47 rfl rfl ?_
  refine s_iload_n (pc := 48) d_X0_waysForAll_48 rfl rfl ?_
  refine s_icmp_ge (pc := 49) (tgt := 128) d_X0_waysForAll_49 (by decide) (fun c16 => ?_) (fun c16 => ?_)
  · have h := it_t c16 h
    refine s_mask [true, true, false, true, true] rfl ?_
    exact t_X0_waysForAll_b128 h
  · have h := it_f c16 h
    refine s_iload_n (pc := 52) d_X0_waysForAll_52 rfl rfl ?_
    refine s_aload_n (pc := 53) d_X0_waysForAll_53 rfl rfl ?_
    obtain ⟨g17, h⟩ := gd_1 h
    refine s_getR (pc := 54) (k := 3) cl_0 d_X0_waysForAll_54 g17 (by decide) w_163 (rt_arr _) ?_
    obtain ⟨a18, ea18, h⟩ := bd_1 h
    refine s_topR ea18 ?_
    obtain ⟨g19, h⟩ := gd_1 h
    refine s_alen8 (pc := 57) d_X0_waysForAll_57 g19 ?_
    refine s_icmp_ge (pc := 58) (tgt := 128) d_X0_waysForAll_58 (by decide) (fun c20 => ?_) (fun c20 => ?_)
    · have h := it_t c20 h
      refine s_mask [true, true, false, true, true] rfl ?_
      exact t_X0_waysForAll_b128 h
    · have h := it_f c20 h
      refine s_aload_n (pc := 61) d_X0_waysForAll_61 rfl rfl ?_
      refine s_iload_n (pc := 62) d_X0_waysForAll_62 rfl rfl ?_
      obtain ⟨r21, μ22, er21, h⟩ := ca2_1 h
      refine s_callS (pc := 63) (as := [vi v2]) (st := [vr v0]) (vo := [vi r21]) (t_J6_bitCount_0f7a4 er21) d_X0_waysForAll_63 y_J6_bitCount_0f7a4 w_518 w_373 ⟨by decide, by decide⟩ ⟨Nat.le_of_ble_eq_true rfl, Nat.le_of_ble_eq_true rfl⟩ (Nat.le_of_ble_eq_true rfl) rfl rfl rfl ?_
      refine s_as (kc' := 0) (js' := 0) (pc' := 66) (st' := [vi r21, vr v0]) ⟨rfl, rfl, rfl, rfl⟩ ?_
      obtain ⟨r23, μ24, er23, h⟩ := ca2_1 h
      refine s_callV (pc := 66) (as := [vi r21]) (st := []) (vo := [vi r23]) (t_X0_fitsOf er23) cl_0 g17 d_X0_waysForAll_66 y_X0_fitsOf w_514 w_516 w_s4 ⟨by decide, by decide⟩ ⟨Nat.le_of_ble_eq_true rfl, Nat.le_of_ble_eq_true rfl⟩ (Nat.le_of_ble_eq_true rfl) rfl rfl rfl ?_
      refine s_as (kc' := 0) (js' := 0) (pc' := 69) (st' := [vi r23]) ⟨rfl, rfl, rfl, rfl⟩ ?_
      refine s_iload_n (pc := 69) d_X0_waysForAll_69 rfl rfl ?_
      refine s_iconst (pc := 70) (v := (-1)) d_X0_waysForAll_70 (by decide) ?_
      refine s_ixor (pc := 71) d_X0_waysForAll_71 ?_
      refine s_iand (pc := 72) d_X0_waysForAll_72 ?_
      obtain ⟨w25, ew25, h⟩ := bd_1 h
      refine s_topI ew25 ?_
      refine s_istore_n (pc := 73) (lc' := [some (vr v0), some (vi v1), some (vi v2), some (vi w25), none]) d_X0_waysForAll_73 rfl (by decide) rfl ?_
      refine s_iconst (pc := 74) (v := 0) d_X0_waysForAll_74 (by decide) ?_
      refine s_istore (pc := 75) (lc' := [some (vr v0), some (vi v1), some (vi v2), some (vi w25), some (vi 0)]) d_X0_waysForAll_75 (by decide) rfl ?_
      exact t_X0_waysForAll_h77 hk47 FU _ _ h
set_option maxHeartbeats 4000000 in
set_option maxRecDepth 20000 in
theorem t_X0_waysForAll_h47 {l : Launch} {G : Gl} {n : Nat} {sh : Sh} {x : Int32 × Mu} {v0 : Nat} {v1 : Int32} : ∀ (f : Nat) (v2 : Int32) (μ : Mu), m_X0_waysForAll_h47 sh v0 v1 f v2 μ = some x → Sj l G (QI G n sh x) c_X0_waysForAll n sh 0 0 μ 47 [some (vr v0), some (vi v1), some (vi v2), none, none] [] := by
  intro f
  induction f with
  | zero =>
    intro v2 μ h
    cases h
  | succ f ih =>
    intro v2 μ h
    exact t_X0_waysForAll_b47 ih h
set_option maxHeartbeats 4000000 in
set_option maxRecDepth 20000 in
theorem t_X0_waysForAll_b38 {l : Launch} {G : Gl} {n : Nat} {sh : Sh} {x : Int32 × Mu} {v0 : Nat} {v1 : Int32} {μ : Mu} (h : m_X0_waysForAll_b38 sh v0 v1 μ = some x) : Sj l G (QI G n sh x) c_X0_waysForAll n sh 0 0 μ 38 [some (vr v0), some (vi v1), none, none, none] [] := by
  unfold m_X0_waysForAll_b38 at h
  refine s_aload_n (pc := 38) d_X0_waysForAll_38 rfl rfl ?_
  obtain ⟨g12, h⟩ := gd_1 h
  refine s_getR (pc := 39) (k := 3) cl_0 d_X0_waysForAll_39 g12 (by decide) w_163 (rt_arr _) ?_
  obtain ⟨a13, ea13, h⟩ := bd_1 h
  refine s_topR ea13 ?_
  refine s_iconst (pc := 42) (v := 0) d_X0_waysForAll_42 (by decide) ?_
  refine s_iconst (pc := 43) (v := 1) d_X0_waysForAll_43 (by decide) ?_
  obtain ⟨g14, h⟩ := gd_1 h
  refine s_iast (pc := 44) d_X0_waysForAll_44 g14 ?_
  obtain ⟨μ15, eμ15, h⟩ := bd_1 h
  refine s_mu eμ15 ?_
  refine s_iconst (pc := 45) (v := 0) d_X0_waysForAll_45 (by decide) ?_
  refine s_istore_n (pc := 46) (lc' := [some (vr v0), some (vi v1), some (vi 0), none, none]) d_X0_waysForAll_46 rfl (by decide) rfl ?_
  exact t_X0_waysForAll_h47 FU _ _ h
set_option maxHeartbeats 4000000 in
set_option maxRecDepth 20000 in
theorem t_X0_waysForAll_b11 {l : Launch} {G : Gl} {n : Nat} {sh : Sh} {x : Int32 × Mu} {k11 : Int32 → Mu → Option (Int32 × Mu)} {v0 : Nat} {v1 : Int32} {v2 : Int32} {μ : Mu} (hk11 : ∀ (v2 : Int32) (μ : Mu), k11 v2 μ = some x → Sj l G (QI G n sh x) c_X0_waysForAll n sh 0 0 μ 11 [some (vr v0), some (vi v1), some (vi v2), none, none] []) (h : m_X0_waysForAll_b11 sh k11 v0 v1 v2 μ = some x) : Sj l G (QI G n sh x) c_X0_waysForAll n sh 0 0 μ 11 [some (vr v0), some (vi v1), some (vi v2), none, none] [] := by
  unfold m_X0_waysForAll_b11 at h
  refine s_iload_n (pc := 11) d_X0_waysForAll_11 rfl rfl ?_
  refine s_iload_n (pc := 12) d_X0_waysForAll_12 rfl rfl ?_
  refine s_icmp_gt (pc := 13) (tgt := 38) d_X0_waysForAll_13 (by decide) (fun c3 => ?_) (fun c3 => ?_)
  · have h := it_t c3 h
    refine s_mask [true, true, false, true, true] rfl ?_
    exact t_X0_waysForAll_b38 h
  · have h := it_f c3 h
    refine s_iload_n (pc := 16) d_X0_waysForAll_16 rfl rfl ?_
    refine s_aload_n (pc := 17) d_X0_waysForAll_17 rfl rfl ?_
    obtain ⟨g4, h⟩ := gd_1 h
    refine s_getR (pc := 18) (k := 3) cl_0 d_X0_waysForAll_18 g4 (by decide) w_163 (rt_arr _) ?_
    obtain ⟨a5, ea5, h⟩ := bd_1 h
    refine s_topR ea5 ?_
    obtain ⟨g6, h⟩ := gd_1 h
    refine s_alen8 (pc := 21) d_X0_waysForAll_21 g6 ?_
    refine s_icmp_ge (pc := 22) (tgt := 38) d_X0_waysForAll_22 (by decide) (fun c7 => ?_) (fun c7 => ?_)
    · have h := it_t c7 h
      refine s_mask [true, true, false, true, true] rfl ?_
      exact t_X0_waysForAll_b38 h
    · have h := it_f c7 h
      refine s_aload_n (pc := 25) d_X0_waysForAll_25 rfl rfl ?_
      refine s_getR (pc := 26) (k := 3) cl_0 d_X0_waysForAll_26 g4 (by decide) w_163 (rt_arr _) ?_
      obtain ⟨a8, ea8, h⟩ := bd_1 h
      refine s_topR ea8 ?_
      refine s_iload_n (pc := 29) d_X0_waysForAll_29 rfl rfl ?_
      refine s_iconst (pc := 30) (v := 0) d_X0_waysForAll_30 (by decide) ?_
      obtain ⟨g9, h⟩ := gd_1 h
      refine s_iast (pc := 31) d_X0_waysForAll_31 g9 ?_
      obtain ⟨μ10, eμ10, h⟩ := bd_1 h
      refine s_mu eμ10 ?_
      obtain ⟨w11, ew11, h⟩ := bd_1 h
      refine s_iinc (pc := 32) (v := w11) (lc' := [some (vr v0), some (vi v1), some (vi w11), none, none]) d_X0_waysForAll_32 rfl (by rw [ew11]; rfl) (by decide) rfl ?_
      refine s_goto (pc := 35) (tgt := 11) d_X0_waysForAll_35 (by decide) ?_
      exact hk11 _ _ h
set_option maxHeartbeats 4000000 in
set_option maxRecDepth 20000 in
theorem t_X0_waysForAll_h11 {l : Launch} {G : Gl} {n : Nat} {sh : Sh} {x : Int32 × Mu} {v0 : Nat} {v1 : Int32} : ∀ (f : Nat) (v2 : Int32) (μ : Mu), m_X0_waysForAll_h11 sh v0 v1 f v2 μ = some x → Sj l G (QI G n sh x) c_X0_waysForAll n sh 0 0 μ 11 [some (vr v0), some (vi v1), some (vi v2), none, none] [] := by
  intro f
  induction f with
  | zero =>
    intro v2 μ h
    cases h
  | succ f ih =>
    intro v2 μ h
    exact t_X0_waysForAll_b11 ih h
set_option maxHeartbeats 4000000 in
set_option maxRecDepth 20000 in
theorem t_X0_waysForAll {l : Launch} {G : Gl} {n : Nat} {sh : Sh} {x : Int32 × Mu} {v0 : Nat} {μ : Mu} (h : m_X0_waysForAll sh v0 μ = some x) : Ct l G ⟨"StripsOfFour$Parts", "waysForAll", "()I"⟩ prog_2_method_6_code 5 (some .int) { frames := 1, cells := 0, slots := 0, locals := 21 } n sh μ [vr v0] (some (.int x.1)) n sh x.2 := by
  refine Ct.of (lc := [some (vr v0), none, none, none, none]) (by decide +kernel) (Nat.le_of_ble_eq_true rfl) rfl ?_
  show Sj l G (QI G n sh x) c_X0_waysForAll n sh 0 0 μ 0 [some (vr v0), none, none, none, none] []
  unfold m_X0_waysForAll at h
  refine s_iconst (pc := 0) (v := 1) d_X0_waysForAll_0 (by decide) ?_
  refine s_aload_n (pc := 1) d_X0_waysForAll_1 rfl rfl ?_
  obtain ⟨g1, h⟩ := gd_1 h
  refine s_getI (pc := 2) (k := 0) cl_0 d_X0_waysForAll_2 g1 (by decide) w_160 rfl ?_
  refine s_ishl (pc := 5) d_X0_waysForAll_5 ?_
  refine s_iconst (pc := 6) (v := 1) d_X0_waysForAll_6 (by decide) ?_
  refine s_isub (pc := 7) d_X0_waysForAll_7 ?_
  obtain ⟨w2, ew2, h⟩ := bd_1 h
  refine s_topI ew2 ?_
  refine s_istore_n (pc := 8) (lc' := [some (vr v0), some (vi w2), none, none, none]) d_X0_waysForAll_8 rfl (by decide) rfl ?_
  refine s_iconst (pc := 9) (v := 1) d_X0_waysForAll_9 (by decide) ?_
  refine s_istore_n (pc := 10) (lc' := [some (vr v0), some (vi w2), some (vi 1), none, none]) d_X0_waysForAll_10 rfl (by decide) rfl ?_
  exact t_X0_waysForAll_h11 FU _ _ h

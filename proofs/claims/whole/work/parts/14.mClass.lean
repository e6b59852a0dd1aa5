/-! StripsOfFour.about -/
abbrev c_X6_about : Cf := (prog_1_method_6_code, 2, "StripsOfFour", "about", (some .int), { frames := 1, cells := 0, slots := 0, locals := 22 })
theorem d_X6_about_0 : decode prog_1_method_6_code 0 = .ok (.iload_n 1, 1) := by decide +kernel
theorem d_X6_about_1 : decode prog_1_method_6_code 1 = .ok (.tableswitch 132 0 9 #[55, 63, 71, 79, 87, 95, 103, 111, 119, 127], 55) := by decide +kernel
theorem d_X6_about_56 : decode prog_1_method_6_code 56 = .ok (.aload_n 0, 1) := by decide +kernel
theorem d_X6_about_57 : decode prog_1_method_6_code 57 = .ok (.getfield 20, 3) := by decide +kernel
theorem d_X6_about_60 : decode prog_1_method_6_code 60 = .ok (.getfield 73, 3) := by decide +kernel
theorem d_X6_about_63 : decode prog_1_method_6_code 63 = .ok (.ireturn, 1) := by decide +kernel
theorem d_X6_about_64 : decode prog_1_method_6_code 64 = .ok (.aload_n 0, 1) := by decide +kernel
theorem d_X6_about_65 : decode prog_1_method_6_code 65 = .ok (.getfield 20, 3) := by decide +kernel
theorem d_X6_about_68 : decode prog_1_method_6_code 68 = .ok (.getfield 76, 3) := by decide +kernel
theorem d_X6_about_71 : decode prog_1_method_6_code 71 = .ok (.ireturn, 1) := by decide +kernel
theorem d_X6_about_72 : decode prog_1_method_6_code 72 = .ok (.aload_n 0, 1) := by decide +kernel
theorem d_X6_about_73 : decode prog_1_method_6_code 73 = .ok (.getfield 20, 3) := by decide +kernel
theorem d_X6_about_76 : decode prog_1_method_6_code 76 = .ok (.getfield 79, 3) := by decide +kernel
theorem d_X6_about_79 : decode prog_1_method_6_code 79 = .ok (.ireturn, 1) := by decide +kernel
theorem d_X6_about_80 : decode prog_1_method_6_code 80 = .ok (.aload_n 0, 1) := by decide +kernel
theorem d_X6_about_81 : decode prog_1_method_6_code 81 = .ok (.getfield 30, 3) := by decide +kernel
theorem d_X6_about_84 : decode prog_1_method_6_code 84 = .ok (.getfield 82, 3) := by decide +kernel
theorem d_X6_about_87 : decode prog_1_method_6_code 87 = .ok (.ireturn, 1) := by decide +kernel
theorem d_X6_about_88 : decode prog_1_method_6_code 88 = .ok (.aload_n 0, 1) := by decide +kernel
theorem d_X6_about_89 : decode prog_1_method_6_code 89 = .ok (.getfield 30, 3) := by decide +kernel
theorem d_X6_about_92 : decode prog_1_method_6_code 92 = .ok (.getfield 85, 3) := by decide +kernel
theorem d_X6_about_95 : decode prog_1_method_6_code 95 = .ok (.ireturn, 1) := by decide +kernel
theorem d_X6_about_96 : decode prog_1_method_6_code 96 = .ok (.aload_n 0, 1) := by decide +kernel
theorem d_X6_about_97 : decode prog_1_method_6_code 97 = .ok (.getfield 30, 3) := by decide +kernel
theorem d_X6_about_100 : decode prog_1_method_6_code 100 = .ok (.getfield 88, 3) := by decide +kernel
theorem d_X6_about_103 : decode prog_1_method_6_code 103 = .ok (.ireturn, 1) := by decide +kernel
theorem d_X6_about_104 : decode prog_1_method_6_code 104 = .ok (.aload_n 0, 1) := by decide +kernel
theorem d_X6_about_105 : decode prog_1_method_6_code 105 = .ok (.getfield 30, 3) := by decide +kernel
theorem d_X6_about_108 : decode prog_1_method_6_code 108 = .ok (.getfield 91, 3) := by decide +kernel
theorem d_X6_about_111 : decode prog_1_method_6_code 111 = .ok (.ireturn, 1) := by decide +kernel
theorem d_X6_about_112 : decode prog_1_method_6_code 112 = .ok (.aload_n 0, 1) := by decide +kernel
theorem d_X6_about_113 : decode prog_1_method_6_code 113 = .ok (.getfield 37, 3) := by decide +kernel
theorem d_X6_about_116 : decode prog_1_method_6_code 116 = .ok (.getfield 94, 3) := by decide +kernel
theorem d_X6_about_119 : decode prog_1_method_6_code 119 = .ok (.ireturn, 1) := by decide +kernel
theorem d_X6_about_120 : decode prog_1_method_6_code 120 = .ok (.aload_n 0, 1) := by decide +kernel
theorem d_X6_about_121 : decode prog_1_method_6_code 121 = .ok (.getfield 30, 3) := by decide +kernel
theorem d_X6_about_124 : decode prog_1_method_6_code 124 = .ok (.invokevirtual 97, 3) := by decide +kernel
theorem d_X6_about_127 : decode prog_1_method_6_code 127 = .ok (.ireturn, 1) := by decide +kernel
theorem d_X6_about_128 : decode prog_1_method_6_code 128 = .ok (.aload_n 0, 1) := by decide +kernel
theorem d_X6_about_129 : decode prog_1_method_6_code 129 = .ok (.getfield 13, 3) := by decide +kernel
theorem d_X6_about_132 : decode prog_1_method_6_code 132 = .ok (.ireturn, 1) := by decide +kernel
theorem d_X6_about_133 : decode prog_1_method_6_code 133 = .ok (.bipush (-2), 2) := by decide +kernel
theorem d_X6_about_135 : decode prog_1_method_6_code 135 = .ok (.ireturn, 1) := by decide +kernel
def m_X6_about (sh : Sh) (v0 : Nat) (v1 : Int32) (μ : Mu) : Option (Int32 × Mu) :=
  if v1 = 0 then
    gd (iz sh 6 v0) <|
    bd (gR μ v0 2) fun a3 =>
    gd (iz sh 2 a3) <|
    some (gI μ a3 1, μ)
  else
    if v1 = 1 then
      gd (iz sh 6 v0) <|
      bd (gR μ v0 2) fun a7 =>
      gd (iz sh 2 a7) <|
      some (gI μ a7 2, μ)
    else
      if v1 = 2 then
        gd (iz sh 6 v0) <|
        bd (gR μ v0 2) fun a11 =>
        gd (iz sh 2 a11) <|
        some (gI μ a11 0, μ)
      else
        if v1 = 3 then
          gd (iz sh 6 v0) <|
          bd (gR μ v0 4) fun a15 =>
          gd (iz sh 4 a15) <|
          some (gI μ a15 1, μ)
        else
          if v1 = 4 then
            gd (iz sh 6 v0) <|
            bd (gR μ v0 4) fun a19 =>
            gd (iz sh 4 a19) <|
            some (gI μ a19 2, μ)
          else
            if v1 = 5 then
              gd (iz sh 6 v0) <|
              bd (gR μ v0 4) fun a23 =>
              gd (iz sh 4 a23) <|
              some (gI μ a23 4, μ)
            else
              if v1 = 6 then
                gd (iz sh 6 v0) <|
                bd (gR μ v0 4) fun a27 =>
                gd (iz sh 4 a27) <|
                some (gI μ a27 3, μ)
              else
                if v1 = 7 then
                  gd (iz sh 6 v0) <|
                  bd (gR μ v0 5) fun a31 =>
                  gd (iz sh 1 a31) <|
                  some (gI μ a31 0, μ)
                else
                  if v1 = 8 then
                    gd (iz sh 6 v0) <|
                    bd (gR μ v0 4) fun a35 =>
                    gd (iz sh 4 a35) <|
                    ca2 (m_X4_tornOnes sh a35 μ) fun r37 μ38 =>
                    some (r37, μ38)
                  else
                    if v1 = 9 then
                      gd (iz sh 6 v0) <|
                      some (gI μ v0 1, μ)
                    else
                      some ((-2), μ)
set_option maxHeartbeats 4000000 in
set_option maxRecDepth 20000 in
theorem t_X6_about {l : Launch} {G : Gl} {n : Nat} {sh : Sh} {x : Int32 × Mu} {v0 : Nat} {v1 : Int32} {μ : Mu} (h : m_X6_about sh v0 v1 μ = some x) : Ct l G ⟨"StripsOfFour", "about", "(I)I"⟩ prog_1_method_6_code 2 (some .int) { frames := 1, cells := 0, slots := 0, locals := 22 } n sh μ [vr v0, vi v1] (some (.int x.1)) n sh x.2 := by
  refine Ct.of (lc := [some (vr v0), some (vi v1)]) (by decide +kernel) (Nat.le_of_ble_eq_true rfl) rfl ?_
  show Sj l G (QI G n sh x) c_X6_about n sh 0 0 μ 0 [some (vr v0), some (vi v1)] []
  unfold m_X6_about at h
  refine s_iload_n (pc := 0) d_X6_about_0 rfl rfl ?_
  by_cases c1 : v1 = 0
  · have h := it_t c1 h
    refine s_tab (pc := 1) (tgt := 56) 0 c1 d_X6_about_1 (by decide) (by decide) rfl (by decide) ?_
    refine s_aload_n (pc := 56) d_X6_about_56 rfl rfl ?_
    obtain ⟨g2, h⟩ := gd_1 h
    refine s_getR (pc := 57) (k := 2) cl_6 d_X6_about_57 g2 (by decide) w_198 (rt_obj _) ?_
    obtain ⟨a3, ea3, h⟩ := bd_1 h
    refine s_topR ea3 ?_
    obtain ⟨g4, h⟩ := gd_1 h
    refine s_getI (pc := 60) (k := 1) cl_2 d_X6_about_60 g4 (by decide) w_29 rfl ?_
    obtain rfl := Option.some.inj h
    exact s_iret (pc := 63) d_X6_about_63 rfl
  have h := it_f c1 h
  by_cases c5 : v1 = 1
  · have h := it_t c5 h
    refine s_tab (pc := 1) (tgt := 64) 1 c5 d_X6_about_1 (by decide) (by decide) rfl (by decide) ?_
    refine s_aload_n (pc := 64) d_X6_about_64 rfl rfl ?_
    obtain ⟨g6, h⟩ := gd_1 h
    refine s_getR (pc := 65) (k := 2) cl_6 d_X6_about_65 g6 (by decide) w_198 (rt_obj _) ?_
    obtain ⟨a7, ea7, h⟩ := bd_1 h
    refine s_topR ea7 ?_
    obtain ⟨g8, h⟩ := gd_1 h
    refine s_getI (pc := 68) (k := 2) cl_2 d_X6_about_68 g8 (by decide) w_31 rfl ?_
    obtain rfl := Option.some.inj h
    exact s_iret (pc := 71) d_X6_about_71 rfl
  have h := it_f c5 h
  by_cases c9 : v1 = 2
  · have h := it_t c9 h
    refine s_tab (pc := 1) (tgt := 72) 2 c9 d_X6_about_1 (by decide) (by decide) rfl (by decide) ?_
    refine s_aload_n (pc := 72) d_X6_about_72 rfl rfl ?_
    obtain ⟨g10, h⟩ := gd_1 h
    refine s_getR (pc := 73) (k := 2) cl_6 d_X6_about_73 g10 (by decide) w_198 (rt_obj _) ?_
    obtain ⟨a11, ea11, h⟩ := bd_1 h
    refine s_topR ea11 ?_
    obtain ⟨g12, h⟩ := gd_1 h
    refine s_getI (pc := 76) (k := 0) cl_2 d_X6_about_76 g12 (by decide) w_27 rfl ?_
    obtain rfl := Option.some.inj h
    exact s_iret (pc := 79) d_X6_about_79 rfl
  have h := it_f c9 h
  by_cases c13 : v1 = 3
  · have h := it_t c13 h
    refine s_tab (pc := 1) (tgt := 80) 3 c13 d_X6_about_1 (by decide) (by decide) rfl (by decide) ?_
    refine s_aload_n (pc := 80) d_X6_about_80 rfl rfl ?_
    obtain ⟨g14, h⟩ := gd_1 h
    refine s_getR (pc := 81) (k := 4) cl_6 d_X6_about_81 g14 (by decide) w_200 (rt_obj _) ?_
    obtain ⟨a15, ea15, h⟩ := bd_1 h
    refine s_topR ea15 ?_
    obtain ⟨g16, h⟩ := gd_1 h
    refine s_getI (pc := 84) (k := 1) cl_4 d_X6_about_84 g16 (by decide) w_97 rfl ?_
    obtain rfl := Option.some.inj h
    exact s_iret (pc := 87) d_X6_about_87 rfl
  have h := it_f c13 h
  by_cases c17 : v1 = 4
  · have h := it_t c17 h
    refine s_tab (pc := 1) (tgt := 88) 4 c17 d_X6_about_1 (by decide) (by decide) rfl (by decide) ?_
    refine s_aload_n (pc := 88) d_X6_about_88 rfl rfl ?_
    obtain ⟨g18, h⟩ := gd_1 h
    refine s_getR (pc := 89) (k := 4) cl_6 d_X6_about_89 g18 (by decide) w_200 (rt_obj _) ?_
    obtain ⟨a19, ea19, h⟩ := bd_1 h
    refine s_topR ea19 ?_
    obtain ⟨g20, h⟩ := gd_1 h
    refine s_getI (pc := 92) (k := 2) cl_4 d_X6_about_92 g20 (by decide) w_99 rfl ?_
    obtain rfl := Option.some.inj h
    exact s_iret (pc := 95) d_X6_about_95 rfl
  have h := it_f c17 h
  by_cases c21 : v1 = 5
  · have h := it_t c21 h
    refine s_tab (pc := 1) (tgt := 96) 5 c21 d_X6_about_1 (by decide) (by decide) rfl (by decide) ?_
    refine s_aload_n (pc := 96) d_X6_about_96 rfl rfl ?_
    obtain ⟨g22, h⟩ := gd_1 h
    refine s_getR (pc := 97) (k := 4) cl_6 d_X6_about_97 g22 (by decide) w_200 (rt_obj _) ?_
    obtain ⟨a23, ea23, h⟩ := bd_1 h
    refine s_topR ea23 ?_
    obtain ⟨g24, h⟩ := gd_1 h
    refine s_getI (pc := 100) (k := 4) cl_4 d_X6_about_100 g24 (by decide) w_104 rfl ?_
    obtain rfl := Option.some.inj h
    exact s_iret (pc := 103) d_X6_about_103 rfl
  have h := it_f c21 h
  by_cases c25 : v1 = 6
  · have h := it_t c25 h
    refine s_tab (pc := 1) (tgt := 104) 6 c25 d_X6_about_1 (by decide) (by decide) rfl (by decide) ?_
    refine s_aload_n (pc := 104) d_X6_about_104 rfl rfl ?_
    obtain ⟨g26, h⟩ := gd_1 h
    refine s_getR (pc := 105) (k := 4) cl_6 d_X6_about_105 g26 (by decide) w_200 (rt_obj _) ?_
    obtain ⟨a27, ea27, h⟩ := bd_1 h
    refine s_topR ea27 ?_
    obtain ⟨g28, h⟩ := gd_1 h
    refine s_getI (pc := 108) (k := 3) cl_4 d_X6_about_108 g28 (by decide) w_101 rfl ?_
    obtain rfl := Option.some.inj h
    exact s_iret (pc := 111) d_X6_about_111 rfl
  have h := it_f c25 h
  by_cases c29 : v1 = 7
  · have h := it_t c29 h
    refine s_tab (pc := 1) (tgt := 112) 7 c29 d_X6_about_1 (by decide) (by decide) rfl (by decide) ?_
    refine s_aload_n (pc := 112) d_X6_about_112 rfl rfl ?_
    obtain ⟨g30, h⟩ := gd_1 h
    refine s_getR (pc := 113) (k := 5) cl_6 d_X6_about_113 g30 (by decide) w_201 (rt_obj _) ?_
    obtain ⟨a31, ea31, h⟩ := bd_1 h
    refine s_topR ea31 ?_
    obtain ⟨g32, h⟩ := gd_1 h
    refine s_getI (pc := 116) (k := 0) cl_1 d_X6_about_116 g32 (by decide) w_144 rfl ?_
    obtain rfl := Option.some.inj h
    exact s_iret (pc := 119) d_X6_about_119 rfl
  have h := it_f c29 h
  by_cases c33 : v1 = 8
  · have h := it_t c33 h
    refine s_tab (pc := 1) (tgt := 120) 8 c33 d_X6_about_1 (by decide) (by decide) rfl (by decide) ?_
    refine s_aload_n (pc := 120) d_X6_about_120 rfl rfl ?_
    obtain ⟨g34, h⟩ := gd_1 h
    refine s_getR (pc := 121) (k := 4) cl_6 d_X6_about_121 g34 (by decide) w_200 (rt_obj _) ?_
    obtain ⟨a35, ea35, h⟩ := bd_1 h
    refine s_topR ea35 ?_
    obtain ⟨g36, h⟩ := gd_1 h
    obtain ⟨r37, μ38, er37, h⟩ := ca2_1 h
    refine s_callV (pc := 124) (as := []) (st := []) (vo := [vi r37]) (t_X4_tornOnes er37) cl_4 g36 d_X6_about_124 y_X4_tornOnes w_276 w_277 w_278 ⟨by decide, by decide⟩ ⟨Nat.le_of_ble_eq_true rfl, Nat.le_of_ble_eq_true rfl⟩ (Nat.le_of_ble_eq_true rfl) rfl rfl rfl ?_
    refine s_as (kc' := 0) (js' := 0) (pc' := 127) (st' := [vi r37]) ⟨rfl, rfl, rfl, rfl⟩ ?_
    obtain rfl := Option.some.inj h
    exact s_iret (pc := 127) d_X6_about_127 rfl
  have h := it_f c33 h
  by_cases c39 : v1 = 9
  · have h := it_t c39 h
    refine s_tab (pc := 1) (tgt := 128) 9 c39 d_X6_about_1 (by decide) (by decide) rfl (by decide) ?_
    refine s_aload_n (pc := 128) d_X6_about_128 rfl rfl ?_
    obtain ⟨g40, h⟩ := gd_1 h
    refine s_getI (pc := 129) (k := 1) cl_6 d_X6_about_129 g40 (by decide) w_197 rfl ?_
    obtain rfl := Option.some.inj h
    exact s_iret (pc := 132) d_X6_about_132 rfl
  have h := it_f c39 h
  have qc1 := lv_neT (a := 0) c1 (by decide)
  have qc5 := lv_neT (a := 1) c5 (by decide)
  have qc9 := lv_neT (a := 2) c9 (by decide)
  have qc13 := lv_neT (a := 3) c13 (by decide)
  have qc17 := lv_neT (a := 4) c17 (by decide)
  have qc21 := lv_neT (a := 5) c21 (by decide)
  have qc25 := lv_neT (a := 6) c25 (by decide)
  have qc29 := lv_neT (a := 7) c29 (by decide)
  have qc33 := lv_neT (a := 8) c33 (by decide)
  have qc39 := lv_neT (a := 9) c39 (by decide)
  refine s_tabOut (pc := 1) (tgt := 133) d_X6_about_1 (by omega) (by decide) ?_
  refine s_bipush (pc := 133) (v := (-2)) d_X6_about_133 (by decide) ?_
  obtain rfl := Option.some.inj h
  exact s_iret (pc := 135) d_X6_about_135 rfl
/-! StripsOfFour.again -/
abbrev c_X6_again : Cf := (prog_1_method_32_code, 2, "StripsOfFour", "again", (some .int), { frames := 3, cells := 0, slots := 0, locals := 111 })
theorem d_X6_again_0 : decode prog_1_method_32_code 0 = .ok (.iload_n 1, 1) := by decide +kernel
theorem d_X6_again_1 : decode prog_1_method_32_code 1 = .ok (.ifCond .lt 8, 3) := by decide +kernel
theorem d_X6_again_4 : decode prog_1_method_32_code 4 = .ok (.iload_n 1, 1) := by decide +kernel
theorem d_X6_again_5 : decode prog_1_method_32_code 5 = .ok (.iconst 2, 1) := by decide +kernel
theorem d_X6_again_6 : decode prog_1_method_32_code 6 = .ok (.if_icmp .lt 5, 3) := by decide +kernel
theorem d_X6_again_9 : decode prog_1_method_32_code 9 = .ok (.iconst (-1), 1) := by decide +kernel
theorem d_X6_again_10 : decode prog_1_method_32_code 10 = .ok (.ireturn, 1) := by decide +kernel
theorem d_X6_again_11 : decode prog_1_method_32_code 11 = .ok (.aload_n 0, 1) := by decide +kernel
theorem d_X6_again_12 : decode prog_1_method_32_code 12 = .ok (.getfield 45, 3) := by decide +kernel
theorem d_X6_again_15 : decode prog_1_method_32_code 15 = .ok (.iload_n 1, 1) := by decide +kernel
theorem d_X6_again_16 : decode prog_1_method_32_code 16 = .ok (.baload, 1) := by decide +kernel
theorem d_X6_again_17 : decode prog_1_method_32_code 17 = .ok (.ifCond .ne 6, 3) := by decide +kernel
theorem d_X6_again_20 : decode prog_1_method_32_code 20 = .ok (.bipush (-3), 2) := by decide +kernel
theorem d_X6_again_22 : decode prog_1_method_32_code 22 = .ok (.ireturn, 1) := by decide +kernel
theorem d_X6_again_23 : decode prog_1_method_32_code 23 = .ok (.aload_n 0, 1) := by decide +kernel
theorem d_X6_again_24 : decode prog_1_method_32_code 24 = .ok (.getfield 30, 3) := by decide +kernel
theorem d_X6_again_27 : decode prog_1_method_32_code 27 = .ok (.aload_n 0, 1) := by decide +kernel
theorem d_X6_again_28 : decode prog_1_method_32_code 28 = .ok (.getfield 41, 3) := by decide +kernel
theorem d_X6_again_31 : decode prog_1_method_32_code 31 = .ok (.iload_n 1, 1) := by decide +kernel
theorem d_X6_again_32 : decode prog_1_method_32_code 32 = .ok (.aaload, 1) := by decide +kernel
theorem d_X6_again_33 : decode prog_1_method_32_code 33 = .ok (.invokevirtual 273, 3) := by decide +kernel
theorem d_X6_again_36 : decode prog_1_method_32_code 36 = .ok (.aload_n 0, 1) := by decide +kernel
theorem d_X6_again_37 : decode prog_1_method_32_code 37 = .ok (.getfield 37, 3) := by decide +kernel
theorem d_X6_again_40 : decode prog_1_method_32_code 40 = .ok (.invokevirtual 70, 3) := by decide +kernel
theorem d_X6_again_43 : decode prog_1_method_32_code 43 = .ok (.aload_n 0, 1) := by decide +kernel
theorem d_X6_again_44 : decode prog_1_method_32_code 44 = .ok (.getfield 30, 3) := by decide +kernel
theorem d_X6_again_47 : decode prog_1_method_32_code 47 = .ok (.getfield 82, 3) := by decide +kernel
theorem d_X6_again_50 : decode prog_1_method_32_code 50 = .ok (.ireturn, 1) := by decide +kernel
def m_X6_again (sh : Sh) (v0 : Nat) (v1 : Int32) (μ : Mu) : Option (Int32 × Mu) :=
  if v1 < 0 then
    some ((-1), μ)
  else
    if v1 < 2 then
      gd (iz sh 6 v0) <|
      bd (gR μ v0 7) fun a4 =>
      gd (ix sh 10 a4 v1) <|
      bd (gI μ a4 v1.toNatClampNeg) fun w6 =>
      if w6 = 0 then
        some ((-3), μ)
      else
        bd (gR μ v0 4) fun a8 =>
        bd (gR μ v0 6) fun a9 =>
        gd (ix sh 12 a9 v1) <|
        bd (gR μ a9 v1.toNatClampNeg) fun a11 =>
        gd (iz sh 4 a8) <|
        ca (m_X4_copyFrom sh a8 a11 μ) fun μ13 =>
        bd (gR μ13 v0 5) fun a14 =>
        gd (iz sh 1 a14) <|
        ca (m_X1_forgetAll sh a14 μ13) fun μ16 =>
        bd (gR μ16 v0 4) fun a17 =>
        gd (iz sh 4 a17) <|
        some (gI μ16 a17 1, μ16)
    else
      some ((-1), μ)
set_option maxHeartbeats 4000000 in
set_option maxRecDepth 20000 in
theorem t_X6_again {l : Launch} {G : Gl} {n : Nat} {sh : Sh} {x : Int32 × Mu} {v0 : Nat} {v1 : Int32} {μ : Mu} (h : m_X6_again sh v0 v1 μ = some x) : Ct l G ⟨"StripsOfFour", "again", "(I)I"⟩ prog_1_method_32_code 2 (some .int) { frames := 3, cells := 0, slots := 0, locals := 111 } n sh μ [vr v0, vi v1] (some (.int x.1)) n sh x.2 := by
  refine Ct.of (lc := [some (vr v0), some (vi v1)]) (by decide +kernel) (Nat.le_of_ble_eq_true rfl) rfl ?_
  show Sj l G (QI G n sh x) c_X6_again n sh 0 0 μ 0 [some (vr v0), some (vi v1)] []
  unfold m_X6_again at h
  refine s_iload_n (pc := 0) d_X6_again_0 rfl rfl ?_
  refine s_if_lt (pc := 1) (tgt := 9) d_X6_again_1 (by decide) (fun c1 => ?_) (fun c1 => ?_)
  · have h := it_t c1 h
    refine s_iconst (pc := 9) (v := (-1)) d_X6_again_9 (by decide) ?_
    obtain rfl := Option.some.inj h
    exact s_iret (pc := 10) d_X6_again_10 rfl
  · have h := it_f c1 h
    refine s_iload_n (pc := 4) d_X6_again_4 rfl rfl ?_
    refine s_iconst (pc := 5) (v := 2) d_X6_again_5 (by decide) ?_
    refine s_icmp_lt (pc := 6) (tgt := 11) d_X6_again_6 (by decide) (fun c2 => ?_) (fun c2 => ?_)
    · have h := it_t c2 h
      refine s_aload_n (pc := 11) d_X6_again_11 rfl rfl ?_
      obtain ⟨g3, h⟩ := gd_1 h
      refine s_getR (pc := 12) (k := 7) cl_6 d_X6_again_12 g3 (by decide) w_203 (rt_arr _) ?_
      obtain ⟨a4, ea4, h⟩ := bd_1 h
      refine s_topR ea4 ?_
      refine s_iload_n (pc := 15) d_X6_again_15 rfl rfl ?_
      obtain ⟨g5, h⟩ := gd_1 h
      refine s_zald (pc := 16) d_X6_again_16 g5 ?_
      obtain ⟨w6, ew6, h⟩ := bd_1 h
      refine s_topI ew6 ?_
      refine s_if_ne (pc := 17) (tgt := 23) d_X6_again_17 (by decide) (fun c7 => ?_) (fun c7 => ?_)
      · have h := it_f c7 h
        refine s_aload_n (pc := 23) d_X6_again_23 rfl rfl ?_
        refine s_getR (pc := 24) (k := 4) cl_6 d_X6_again_24 g3 (by decide) w_200 (rt_obj _) ?_
        obtain ⟨a8, ea8, h⟩ := bd_1 h
        refine s_topR ea8 ?_
        refine s_aload_n (pc := 27) d_X6_again_27 rfl rfl ?_
        refine s_getR (pc := 28) (k := 6) cl_6 d_X6_again_28 g3 (by decide) w_202 (rt_arr _) ?_
        obtain ⟨a9, ea9, h⟩ := bd_1 h
        refine s_topR ea9 ?_
        refine s_iload_n (pc := 31) d_X6_again_31 rfl rfl ?_
        obtain ⟨g10, h⟩ := gd_1 h
        refine s_aald12 (pc := 32) d_X6_again_32 g10 ?_
        obtain ⟨a11, ea11, h⟩ := bd_1 h
        refine s_topR ea11 ?_
        obtain ⟨g12, h⟩ := gd_1 h
        obtain ⟨μ13, eμ13, h⟩ := ca_1 h
        refine s_callV (pc := 33) (as := [vr a11]) (st := []) (vo := []) (t_X4_copyFrom eμ13) cl_4 g12 d_X6_again_33 y_X4_copyFrom w_645 w_384 w_385 ⟨by decide, by decide⟩ ⟨Nat.le_of_ble_eq_true rfl, Nat.le_of_ble_eq_true rfl⟩ (Nat.le_of_ble_eq_true rfl) rfl rfl rfl ?_
        refine s_as (kc' := 0) (js' := 0) (pc' := 36) (st' := []) ⟨rfl, rfl, rfl, rfl⟩ ?_
        refine s_aload_n (pc := 36) d_X6_again_36 rfl rfl ?_
        refine s_getR (pc := 37) (k := 5) cl_6 d_X6_again_37 g3 (by decide) w_201 (rt_obj _) ?_
        obtain ⟨a14, ea14, h⟩ := bd_1 h
        refine s_topR ea14 ?_
        obtain ⟨g15, h⟩ := gd_1 h
        obtain ⟨μ16, eμ16, h⟩ := ca_1 h
        refine s_callV (pc := 40) (as := []) (st := []) (vo := []) (t_X1_forgetAll eμ16) cl_1 g15 d_X6_again_40 y_X1_forgetAll w_268 w_269 w_270 ⟨by decide, by decide⟩ ⟨Nat.le_of_ble_eq_true rfl, Nat.le_of_ble_eq_true rfl⟩ (Nat.le_of_ble_eq_true rfl) rfl rfl rfl ?_
        refine s_as (kc' := 0) (js' := 0) (pc' := 43) (st' := []) ⟨rfl, rfl, rfl, rfl⟩ ?_
        refine s_aload_n (pc := 43) d_X6_again_43 rfl rfl ?_
        refine s_getR (pc := 44) (k := 4) cl_6 d_X6_again_44 g3 (by decide) w_200 (rt_obj _) ?_
        obtain ⟨a17, ea17, h⟩ := bd_1 h
        refine s_topR ea17 ?_
        obtain ⟨g18, h⟩ := gd_1 h
        refine s_getI (pc := 47) (k := 1) cl_4 d_X6_again_47 g18 (by decide) w_97 rfl ?_
        obtain rfl := Option.some.inj h
        exact s_iret (pc := 50) d_X6_again_50 rfl
      · have h := it_t c7 h
        refine s_bipush (pc := 20) (v := (-3)) d_X6_again_20 (by decide) ?_
        obtain rfl := Option.some.inj h
        exact s_iret (pc := 22) d_X6_again_22 rfl
    · have h := it_f c2 h
      refine s_iconst (pc := 9) (v := (-1)) d_X6_again_9 (by decide) ?_
      obtain rfl := Option.some.inj h
      exact s_iret (pc := 10) d_X6_again_10 rfl
/-! StripsOfFour.canHaveBeenIn -/
abbrev c_X6_canHaveBeenIn : Cf := (prog_1_method_40_code, 5, "StripsOfFour", "canHaveBeenIn", (some .boolean), { frames := 2, cells := 0, slots := 0, locals := 48 })
theorem d_X6_canHaveBeenIn_0 : decode prog_1_method_40_code 0 = .ok (.aload_n 0, 1) := by decide +kernel
theorem d_X6_canHaveBeenIn_1 : decode prog_1_method_40_code 1 = .ok (.getfield 30, 3) := by decide +kernel
theorem d_X6_canHaveBeenIn_4 : decode prog_1_method_40_code 4 = .ok (.iload_n 2, 1) := by decide +kernel
theorem d_X6_canHaveBeenIn_5 : decode prog_1_method_40_code 5 = .ok (.iload_n 3, 1) := by decide +kernel
theorem d_X6_canHaveBeenIn_6 : decode prog_1_method_40_code 6 = .ok (.invokevirtual 279, 3) := by decide +kernel
theorem d_X6_canHaveBeenIn_9 : decode prog_1_method_40_code 9 = .ok (.istore 4, 2) := by decide +kernel
theorem d_X6_canHaveBeenIn_11 : decode prog_1_method_40_code 11 = .ok (.iload 4, 2) := by decide +kernel
theorem d_X6_canHaveBeenIn_13 : decode prog_1_method_40_code 13 = .ok (.bipush (-9), 2) := by decide +kernel
theorem d_X6_canHaveBeenIn_15 : decode prog_1_method_40_code 15 = .ok (.if_icmp .eq 12, 3) := by decide +kernel
theorem d_X6_canHaveBeenIn_18 : decode prog_1_method_40_code 18 = .ok (.iload 4, 2) := by decide +kernel
theorem d_X6_canHaveBeenIn_20 : decode prog_1_method_40_code 20 = .ok (.iload_n 1, 1) := by decide +kernel
theorem d_X6_canHaveBeenIn_21 : decode prog_1_method_40_code 21 = .ok (.invokestatic 246, 3) := by decide +kernel
theorem d_X6_canHaveBeenIn_24 : decode prog_1_method_40_code 24 = .ok (.ifCond .eq 32, 3) := by decide +kernel
theorem d_X6_canHaveBeenIn_27 : decode prog_1_method_40_code 27 = .ok (.aload_n 0, 1) := by decide +kernel
theorem d_X6_canHaveBeenIn_28 : decode prog_1_method_40_code 28 = .ok (.getfield 30, 3) := by decide +kernel
theorem d_X6_canHaveBeenIn_31 : decode prog_1_method_40_code 31 = .ok (.iconst 1, 1) := by decide +kernel
theorem d_X6_canHaveBeenIn_32 : decode prog_1_method_40_code 32 = .ok (.iload_n 2, 1) := by decide +kernel
theorem d_X6_canHaveBeenIn_33 : decode prog_1_method_40_code 33 = .ok (.isub, 1) := by decide +kernel
theorem d_X6_canHaveBeenIn_34 : decode prog_1_method_40_code 34 = .ok (.iload_n 3, 1) := by decide +kernel
theorem d_X6_canHaveBeenIn_35 : decode prog_1_method_40_code 35 = .ok (.aload_n 0, 1) := by decide +kernel
theorem d_X6_canHaveBeenIn_36 : decode prog_1_method_40_code 36 = .ok (.getfield 20, 3) := by decide +kernel
theorem d_X6_canHaveBeenIn_39 : decode prog_1_method_40_code 39 = .ok (.getfield 79, 3) := by decide +kernel
theorem d_X6_canHaveBeenIn_42 : decode prog_1_method_40_code 42 = .ok (.invokevirtual 243, 3) := by decide +kernel
theorem d_X6_canHaveBeenIn_45 : decode prog_1_method_40_code 45 = .ok (.iload_n 1, 1) := by decide +kernel
theorem d_X6_canHaveBeenIn_46 : decode prog_1_method_40_code 46 = .ok (.invokestatic 246, 3) := by decide +kernel
theorem d_X6_canHaveBeenIn_49 : decode prog_1_method_40_code 49 = .ok (.ifCond .ne 7, 3) := by decide +kernel
theorem d_X6_canHaveBeenIn_52 : decode prog_1_method_40_code 52 = .ok (.iconst 1, 1) := by decide +kernel
theorem d_X6_canHaveBeenIn_53 : decode prog_1_method_40_code 53 = .ok (.goto 4, 3) := by decide +kernel
theorem d_X6_canHaveBeenIn_56 : decode prog_1_method_40_code 56 = .ok (.iconst 0, 1) := by decide +kernel
theorem d_X6_canHaveBeenIn_57 : decode prog_1_method_40_code 57 = .ok (.ireturn, 1) := by decide +kernel
def m_X6_canHaveBeenIn_b27 (sh : Sh) (v0 : Nat) (v1 : Int32) (v2 : Int32) (v3 : Int32) (μ : Mu) : Option (Int32 × Mu) :=
  gd (iz sh 6 v0) <|
  bd (gR μ v0 4) fun a11 =>
  bd (gR μ v0 2) fun a12 =>
  gd (iz sh 2 a12) <|
  gd (iz sh 4 a11) <|
  ca2 (m_X4_seenNear sh a11 (1 - v2) v3 (gI μ a12 0) μ) fun r15 μ16 =>
  ca2 (m_X6_has sh r15 v1 μ16) fun r17 μ18 =>
  if r17 = 0 then
    some (1, μ18)
  else
    some (0, μ18)
def m_X6_canHaveBeenIn (sh : Sh) (v0 : Nat) (v1 : Int32) (v2 : Int32) (v3 : Int32) (μ : Mu) : Option (Int32 × Mu) :=
  gd (iz sh 6 v0) <|
  bd (gR μ v0 4) fun a2 =>
  gd (iz sh 4 a2) <|
  ca2 (m_X4_shownAt sh a2 v2 v3 μ) fun r4 μ5 =>
  if r4 = (-9) then
    m_X6_canHaveBeenIn_b27 sh v0 v1 v2 v3 μ5
  else
    ca2 (m_X6_has sh r4 v1 μ5) fun r7 μ8 =>
    if r7 = 0 then
      some (0, μ8)
    else
      m_X6_canHaveBeenIn_b27 sh v0 v1 v2 v3 μ8
set_option maxHeartbeats 4000000 in
set_option maxRecDepth 20000 in
theorem t_X6_canHaveBeenIn_b27 {l : Launch} {G : Gl} {n : Nat} {sh : Sh} {x : Int32 × Mu} {v0 : Nat} {v1 : Int32} {v2 : Int32} {v3 : Int32} {μ : Mu} (h : m_X6_canHaveBeenIn_b27 sh v0 v1 v2 v3 μ = some x) : Sj l G (QI G n sh x) c_X6_canHaveBeenIn n sh 0 0 μ 27 [some (vr v0), some (vi v1), some (vi v2), some (vi v3), none] [] := by
  unfold m_X6_canHaveBeenIn_b27 at h
  refine s_aload_n (pc := 27) d_X6_canHaveBeenIn_27 rfl rfl ?_
  obtain ⟨g10, h⟩ := gd_1 h
  refine s_getR (pc := 28) (k := 4) cl_6 d_X6_canHaveBeenIn_28 g10 (by decide) w_200 (rt_obj _) ?_
  obtain ⟨a11, ea11, h⟩ := bd_1 h
  refine s_topR ea11 ?_
  refine s_iconst (pc := 31) (v := 1) d_X6_canHaveBeenIn_31 (by decide) ?_
  refine s_iload_n (pc := 32) d_X6_canHaveBeenIn_32 rfl rfl ?_
  refine s_isub (pc := 33) d_X6_canHaveBeenIn_33 ?_
  refine s_iload_n (pc := 34) d_X6_canHaveBeenIn_34 rfl rfl ?_
  refine s_aload_n (pc := 35) d_X6_canHaveBeenIn_35 rfl rfl ?_
  refine s_getR (pc := 36) (k := 2) cl_6 d_X6_canHaveBeenIn_36 g10 (by decide) w_198 (rt_obj _) ?_
  obtain ⟨a12, ea12, h⟩ := bd_1 h
  refine s_topR ea12 ?_
  obtain ⟨g13, h⟩ := gd_1 h
  refine s_getI (pc := 39) (k := 0) cl_2 d_X6_canHaveBeenIn_39 g13 (by decide) w_27 rfl ?_
  obtain ⟨g14, h⟩ := gd_1 h
  obtain ⟨r15, μ16, er15, h⟩ := ca2_1 h
  refine s_callV (pc := 42) (as := [vi (1 - v2), vi v3, vi (gI μ a12 0)]) (st := []) (vo := [vi r15]) (t_X4_seenNear er15) cl_4 g14 d_X6_canHaveBeenIn_42 y_X4_seenNear w_576 w_577 w_578 ⟨by decide, by decide⟩ ⟨Nat.le_of_ble_eq_true rfl, Nat.le_of_ble_eq_true rfl⟩ (Nat.le_of_ble_eq_true rfl) rfl rfl rfl ?_
  refine s_as (kc' := 0) (js' := 0) (pc' := 45) (st' := [vi r15]) ⟨rfl, rfl, rfl, rfl⟩ ?_
  refine s_iload_n (pc := 45) d_X6_canHaveBeenIn_45 rfl rfl ?_
  obtain ⟨r17, μ18, er17, h⟩ := ca2_1 h
  refine s_callS (pc := 46) (as := [vi r15, vi v1]) (st := []) (vo := [vi r17]) (t_X6_has er17) d_X6_canHaveBeenIn_46 y_X6_has w_600 w_426 ⟨by decide, by decide⟩ ⟨Nat.le_of_ble_eq_true rfl, Nat.le_of_ble_eq_true rfl⟩ (Nat.le_of_ble_eq_true rfl) rfl rfl rfl ?_
  refine s_as (kc' := 0) (js' := 0) (pc' := 49) (st' := [vi r17]) ⟨rfl, rfl, rfl, rfl⟩ ?_
  refine s_if_ne (pc := 49) (tgt := 56) d_X6_canHaveBeenIn_49 (by decide) (fun c19 => ?_) (fun c19 => ?_)
  · have h := it_f c19 h
    refine s_iconst (pc := 56) (v := 0) d_X6_canHaveBeenIn_56 (by decide) ?_
    obtain rfl := Option.some.inj h
    exact s_zret0 (pc := 57) rfl d_X6_canHaveBeenIn_57 rfl
  · have h := it_t c19 h
    refine s_iconst (pc := 52) (v := 1) d_X6_canHaveBeenIn_52 (by decide) ?_
    refine s_goto (pc := 53) (tgt := 57) d_X6_canHaveBeenIn_53 (by decide) ?_
    obtain rfl := Option.some.inj h
    exact s_zret0 (pc := 57) rfl d_X6_canHaveBeenIn_57 rfl
set_option maxHeartbeats 4000000 in
set_option maxRecDepth 20000 in
theorem t_X6_canHaveBeenIn {l : Launch} {G : Gl} {n : Nat} {sh : Sh} {x : Int32 × Mu} {v0 : Nat} {v1 : Int32} {v2 : Int32} {v3 : Int32} {μ : Mu} (h : m_X6_canHaveBeenIn sh v0 v1 v2 v3 μ = some x) : Ct l G ⟨"StripsOfFour", "canHaveBeenIn", "(III)Z"⟩ prog_1_method_40_code 5 (some .boolean) { frames := 2, cells := 0, slots := 0, locals := 48 } n sh μ [vr v0, vi v1, vi v2, vi v3] (some (.int x.1)) n sh x.2 := by
  refine Ct.of (lc := [some (vr v0), some (vi v1), some (vi v2), some (vi v3), none]) (by decide +kernel) (Nat.le_of_ble_eq_true rfl) rfl ?_
  show Sj l G (QI G n sh x) c_X6_canHaveBeenIn n sh 0 0 μ 0 [some (vr v0), some (vi v1), some (vi v2), some (vi v3), none] []
  unfold m_X6_canHaveBeenIn at h
  refine s_aload_n (pc := 0) d_X6_canHaveBeenIn_0 rfl rfl ?_
  obtain ⟨g1, h⟩ := gd_1 h
  refine s_getR (pc := 1) (k := 4) cl_6 d_X6_canHaveBeenIn_1 g1 (by decide) w_200 (rt_obj _) ?_
  obtain ⟨a2, ea2, h⟩ := bd_1 h
  refine s_topR ea2 ?_
  refine s_iload_n (pc := 4) d_X6_canHaveBeenIn_4 rfl rfl ?_
  refine s_iload_n (pc := 5) d_X6_canHaveBeenIn_5 rfl rfl ?_
  obtain ⟨g3, h⟩ := gd_1 h
  obtain ⟨r4, μ5, er4, h⟩ := ca2_1 h
  refine s_callV (pc := 6) (as := [vi v2, vi v3]) (st := []) (vo := [vi r4]) (t_X4_shownAt er4) cl_4 g3 d_X6_canHaveBeenIn_6 y_X4_shownAt w_570 w_571 w_572 ⟨by decide, by decide⟩ ⟨Nat.le_of_ble_eq_true rfl, Nat.le_of_ble_eq_true rfl⟩ (Nat.le_of_ble_eq_true rfl) rfl rfl rfl ?_
  refine s_as (kc' := 0) (js' := 0) (pc' := 9) (st' := [vi r4]) ⟨rfl, rfl, rfl, rfl⟩ ?_
  refine s_istore (pc := 9) (lc' := [some (vr v0), some (vi v1), some (vi v2), some (vi v3), some (vi r4)]) d_X6_canHaveBeenIn_9 (by decide) rfl ?_
  refine s_iload (pc := 11) d_X6_canHaveBeenIn_11 rfl ?_
  refine s_bipush (pc := 13) (v := (-9)) d_X6_canHaveBeenIn_13 (by decide) ?_
  refine s_icmp_eq (pc := 15) (tgt := 27) d_X6_canHaveBeenIn_15 (by decide) (fun c6 => ?_) (fun c6 => ?_)
  · have h := it_t c6 h
    refine s_mask [true, true, true, true, false] rfl ?_
    exact t_X6_canHaveBeenIn_b27 h
  · have h := it_f c6 h
    refine s_iload (pc := 18) d_X6_canHaveBeenIn_18 rfl ?_
    refine s_iload_n (pc := 20) d_X6_canHaveBeenIn_20 rfl rfl ?_
    obtain ⟨r7, μ8, er7, h⟩ := ca2_1 h
    refine s_callS (pc := 21) (as := [vi r4, vi v1]) (st := []) (vo := [vi r7]) (t_X6_has er7) d_X6_canHaveBeenIn_21 y_X6_has w_600 w_426 ⟨by decide, by decide⟩ ⟨Nat.le_of_ble_eq_true rfl, Nat.le_of_ble_eq_true rfl⟩ (Nat.le_of_ble_eq_true rfl) rfl rfl rfl ?_
    refine s_as (kc' := 0) (js' := 0) (pc' := 24) (st' := [vi r7]) ⟨rfl, rfl, rfl, rfl⟩ ?_
    refine s_if_eq (pc := 24) (tgt := 56) d_X6_canHaveBeenIn_24 (by decide) (fun c9 => ?_) (fun c9 => ?_)
    · have h := it_t c9 h
      refine s_iconst (pc := 56) (v := 0) d_X6_canHaveBeenIn_56 (by decide) ?_
      obtain rfl := Option.some.inj h
      exact s_zret0 (pc := 57) rfl d_X6_canHaveBeenIn_57 rfl
    · have h := it_f c9 h
      refine s_mask [true, true, true, true, false] rfl ?_
      exact t_X6_canHaveBeenIn_b27 h
/-! StripsOfFour.isAskedMinute -/
abbrev c_X6_isAskedMinute : Cf := (prog_1_method_34_code, 1, "StripsOfFour", "isAskedMinute", (some .boolean), { frames := 0, cells := 0, slots := 0, locals := 0 })
theorem d_X6_isAskedMinute_0 : decode prog_1_method_34_code 0 = .ok (.iload_n 0, 1) := by decide +kernel
theorem d_X6_isAskedMinute_1 : decode prog_1_method_34_code 1 = .ok (.ifCond .lt 14, 3) := by decide +kernel
theorem d_X6_isAskedMinute_4 : decode prog_1_method_34_code 4 = .ok (.iload_n 0, 1) := by decide +kernel
theorem d_X6_isAskedMinute_5 : decode prog_1_method_34_code 5 = .ok (.sipush 999, 3) := by decide +kernel
theorem d_X6_isAskedMinute_8 : decode prog_1_method_34_code 8 = .ok (.if_icmp .gt 7, 3) := by decide +kernel
theorem d_X6_isAskedMinute_11 : decode prog_1_method_34_code 11 = .ok (.iconst 1, 1) := by decide +kernel
theorem d_X6_isAskedMinute_12 : decode prog_1_method_34_code 12 = .ok (.goto 4, 3) := by decide +kernel
theorem d_X6_isAskedMinute_15 : decode prog_1_method_34_code 15 = .ok (.iconst 0, 1) := by decide +kernel
theorem d_X6_isAskedMinute_16 : decode prog_1_method_34_code 16 = .ok (.ireturn, 1) := by decide +kernel
def m_X6_isAskedMinute (sh : Sh) (v0 : Int32) (μ : Mu) : Option (Int32 × Mu) :=
  if v0 < 0 then
    some (0, μ)
  else
    if 999 < v0 then
      some (0, μ)
    else
      some (1, μ)
set_option maxHeartbeats 4000000 in
set_option maxRecDepth 20000 in
theorem t_X6_isAskedMinute {l : Launch} {G : Gl} {n : Nat} {sh : Sh} {x : Int32 × Mu} {v0 : Int32} {μ : Mu} (h : m_X6_isAskedMinute sh v0 μ = some x) : Ct l G ⟨"StripsOfFour", "isAskedMinute", "(I)Z"⟩ prog_1_method_34_code 1 (some .boolean) { frames := 0, cells := 0, slots := 0, locals := 0 } n sh μ [vi v0] (some (.int x.1)) n sh x.2 := by
  refine Ct.of (lc := [some (vi v0)]) (by decide +kernel) (Nat.le_of_ble_eq_true rfl) rfl ?_
  show Sj l G (QI G n sh x) c_X6_isAskedMinute n sh 0 0 μ 0 [some (vi v0)] []
  unfold m_X6_isAskedMinute at h
  refine s_iload_n (pc := 0) d_X6_isAskedMinute_0 rfl rfl ?_
  refine s_if_lt (pc := 1) (tgt := 15) d_X6_isAskedMinute_1 (by decide) (fun c1 => ?_) (fun c1 => ?_)
  · have h := it_t c1 h
    refine s_iconst (pc := 15) (v := 0) d_X6_isAskedMinute_15 (by decide) ?_
    obtain rfl := Option.some.inj h
    exact s_zret0 (pc := 16) rfl d_X6_isAskedMinute_16 rfl
  · have h := it_f c1 h
    refine s_iload_n (pc := 4) d_X6_isAskedMinute_4 rfl rfl ?_
    refine s_sipush (pc := 5) (v := 999) d_X6_isAskedMinute_5 (by decide) ?_
    refine s_icmp_gt (pc := 8) (tgt := 15) d_X6_isAskedMinute_8 (by decide) (fun c2 => ?_) (fun c2 => ?_)
    · have h := it_t c2 h
      refine s_iconst (pc := 15) (v := 0) d_X6_isAskedMinute_15 (by decide) ?_
      obtain rfl := Option.some.inj h
      exact s_zret0 (pc := 16) rfl d_X6_isAskedMinute_16 rfl
    · have h := it_f c2 h
      refine s_iconst (pc := 11) (v := 1) d_X6_isAskedMinute_11 (by decide) ?_
      refine s_goto (pc := 12) (tgt := 16) d_X6_isAskedMinute_12 (by decide) ?_
      obtain rfl := Option.some.inj h
      exact s_zret0 (pc := 16) rfl d_X6_isAskedMinute_16 rfl
/-! StripsOfFour.between -/
abbrev c_X6_between : Cf := (prog_1_method_26_code, 5, "StripsOfFour", "between", (some .int), { frames := 3, cells := 0, slots := 0, locals := 72 })
theorem d_X6_between_0 : decode prog_1_method_26_code 0 = .ok (.aload_n 0, 1) := by decide +kernel
theorem d_X6_between_1 : decode prog_1_method_26_code 1 = .ok (.getfield 20, 3) := by decide +kernel
theorem d_X6_between_4 : decode prog_1_method_26_code 4 = .ok (.iload_n 1, 1) := by decide +kernel
theorem d_X6_between_5 : decode prog_1_method_26_code 5 = .ok (.invokevirtual 122, 3) := by decide +kernel
theorem d_X6_between_8 : decode prog_1_method_26_code 8 = .ok (.ifCond .ne 5, 3) := by decide +kernel
theorem d_X6_between_11 : decode prog_1_method_26_code 11 = .ok (.iconst (-1), 1) := by decide +kernel
theorem d_X6_between_12 : decode prog_1_method_26_code 12 = .ok (.ireturn, 1) := by decide +kernel
theorem d_X6_between_13 : decode prog_1_method_26_code 13 = .ok (.iload_n 2, 1) := by decide +kernel
theorem d_X6_between_14 : decode prog_1_method_26_code 14 = .ok (.invokestatic 227, 3) := by decide +kernel
theorem d_X6_between_17 : decode prog_1_method_26_code 17 = .ok (.ifCond .ne 6, 3) := by decide +kernel
theorem d_X6_between_20 : decode prog_1_method_26_code 20 = .ok (.bipush (-2), 2) := by decide +kernel
theorem d_X6_between_22 : decode prog_1_method_26_code 22 = .ok (.ireturn, 1) := by decide +kernel
theorem d_X6_between_23 : decode prog_1_method_26_code 23 = .ok (.iconst 0, 1) := by decide +kernel
theorem d_X6_between_24 : decode prog_1_method_26_code 24 = .ok (.istore_n 3, 1) := by decide +kernel
theorem d_X6_between_25 : decode prog_1_method_26_code 25 = .ok (.iconst 0, 1) := by decide +kernel
theorem d_X6_between_26 : decode prog_1_method_26_code 26 = .ok (.istore 4, 2) := by decide +kernel
theorem d_X6_between_28 : decode prog_1_method_26_code 28 = .ok (.iload 4, 2) := by decide +kernel
theorem d_X6_between_30 : decode prog_1_method_26_code 30 = .ok (.aload_n 0, 1) := by decide +kernel
theorem d_X6_between_31 : decode prog_1_method_26_code 31 = .ok (.getfield 20, 3) := by decide +kernel
theorem d_X6_between_34 : decode prog_1_method_26_code 34 = .ok (.getfield 73, 3) := by decide +kernel
theorem d_X6_between_37 : decode prog_1_method_26_code 37 = .ok (.if_icmp .ge 27, 3) := by decide +kernel
theorem d_X6_between_40 : decode prog_1_method_26_code 40 = .ok (.aload_n 0, 1) := by decide +kernel
theorem d_X6_between_41 : decode prog_1_method_26_code 41 = .ok (.iload_n 1, 1) := by decide +kernel
theorem d_X6_between_42 : decode prog_1_method_26_code 42 = .ok (.iload 4, 2) := by decide +kernel
theorem d_X6_between_44 : decode prog_1_method_26_code 44 = .ok (.iload_n 2, 1) := by decide +kernel
theorem d_X6_between_45 : decode prog_1_method_26_code 45 = .ok (.invokevirtual 240, 3) := by decide +kernel
theorem d_X6_between_48 : decode prog_1_method_26_code 48 = .ok (.ifCond .eq 10, 3) := by decide +kernel
theorem d_X6_between_51 : decode prog_1_method_26_code 51 = .ok (.iload_n 3, 1) := by decide +kernel
theorem d_X6_between_52 : decode prog_1_method_26_code 52 = .ok (.iconst 1, 1) := by decide +kernel
theorem d_X6_between_53 : decode prog_1_method_26_code 53 = .ok (.iload 4, 2) := by decide +kernel
theorem d_X6_between_55 : decode prog_1_method_26_code 55 = .ok (.ishl, 1) := by decide +kernel
theorem d_X6_between_56 : decode prog_1_method_26_code 56 = .ok (.ior, 1) := by decide +kernel
theorem d_X6_between_57 : decode prog_1_method_26_code 57 = .ok (.istore_n 3, 1) := by decide +kernel
theorem d_X6_between_58 : decode prog_1_method_26_code 58 = .ok (.iinc 4 1, 3) := by decide +kernel
theorem d_X6_between_61 : decode prog_1_method_26_code 61 = .ok (.goto (-33), 3) := by decide +kernel
theorem d_X6_between_64 : decode prog_1_method_26_code 64 = .ok (.aload_n 0, 1) := by decide +kernel
theorem d_X6_between_65 : decode prog_1_method_26_code 65 = .ok (.getfield 30, 3) := by decide +kernel
theorem d_X6_between_68 : decode prog_1_method_26_code 68 = .ok (.iconst 0, 1) := by decide +kernel
theorem d_X6_between_69 : decode prog_1_method_26_code 69 = .ok (.iload_n 2, 1) := by decide +kernel
theorem d_X6_between_70 : decode prog_1_method_26_code 70 = .ok (.iconst 0, 1) := by decide +kernel
theorem d_X6_between_71 : decode prog_1_method_26_code 71 = .ok (.invokevirtual 243, 3) := by decide +kernel
theorem d_X6_between_74 : decode prog_1_method_26_code 74 = .ok (.aload_n 0, 1) := by decide +kernel
theorem d_X6_between_75 : decode prog_1_method_26_code 75 = .ok (.getfield 30, 3) := by decide +kernel
theorem d_X6_between_78 : decode prog_1_method_26_code 78 = .ok (.iconst 1, 1) := by decide +kernel
theorem d_X6_between_79 : decode prog_1_method_26_code 79 = .ok (.iload_n 2, 1) := by decide +kernel
theorem d_X6_between_80 : decode prog_1_method_26_code 80 = .ok (.iconst 0, 1) := by decide +kernel
theorem d_X6_between_81 : decode prog_1_method_26_code 81 = .ok (.invokevirtual 243, 3) := by decide +kernel
theorem d_X6_between_84 : decode prog_1_method_26_code 84 = .ok (.ior, 1) := by decide +kernel
theorem d_X6_between_85 : decode prog_1_method_26_code 85 = .ok (.istore 4, 2) := by decide +kernel
theorem d_X6_between_87 : decode prog_1_method_26_code 87 = .ok (.iload 4, 2) := by decide +kernel
theorem d_X6_between_89 : decode prog_1_method_26_code 89 = .ok (.iload_n 1, 1) := by decide +kernel
theorem d_X6_between_90 : decode prog_1_method_26_code 90 = .ok (.invokestatic 246, 3) := by decide +kernel
theorem d_X6_between_93 : decode prog_1_method_26_code 93 = .ok (.ifCond .eq 7, 3) := by decide +kernel
theorem d_X6_between_96 : decode prog_1_method_26_code 96 = .ok (.iload_n 3, 1) := by decide +kernel
theorem d_X6_between_97 : decode prog_1_method_26_code 97 = .ok (.goto 6, 3) := by decide +kernel
theorem d_X6_between_100 : decode prog_1_method_26_code 100 = .ok (.iload_n 3, 1) := by decide +kernel
theorem d_X6_between_101 : decode prog_1_method_26_code 101 = .ok (.iconst 4, 1) := by decide +kernel
theorem d_X6_between_102 : decode prog_1_method_26_code 102 = .ok (.ior, 1) := by decide +kernel
theorem d_X6_between_103 : decode prog_1_method_26_code 103 = .ok (.ireturn, 1) := by decide +kernel
def m_X6_between_b58 (sh : Sh) (k28 : Int32 → Int32 → Mu → Option (Int32 × Mu)) (v0 : Nat) (v1 : Int32) (v2 : Int32) (v3 : Int32) (v4 : Int32) (μ : Mu) : Option (Int32 × Mu) :=
  bd (v4 + 1) fun w31 =>
  k28 v3 w31 μ
def m_X6_between_b64 (sh : Sh) (v0 : Nat) (v1 : Int32) (v2 : Int32) (v3 : Int32) (μ : Mu) : Option (Int32 × Mu) :=
  gd (iz sh 6 v0) <|
  bd (gR μ v0 4) fun a19 =>
  gd (iz sh 4 a19) <|
  ca2 (m_X4_seenNear sh a19 0 v2 0 μ) fun r21 μ22 =>
  bd (gR μ22 v0 4) fun a23 =>
  gd (iz sh 4 a23) <|
  ca2 (m_X4_seenNear sh a23 1 v2 0 μ22) fun r25 μ26 =>
  bd (r21 ||| r25) fun w27 =>
  ca2 (m_X6_has sh w27 v1 μ26) fun r28 μ29 =>
  if r28 = 0 then
    some (v3 ||| 4, μ29)
  else
    some (v3, μ29)
def m_X6_between_b28 (sh : Sh) (k28 : Int32 → Int32 → Mu → Option (Int32 × Mu)) (v0 : Nat) (v1 : Int32) (v2 : Int32) (v3 : Int32) (v4 : Int32) (μ : Mu) : Option (Int32 × Mu) :=
  gd (iz sh 6 v0) <|
  bd (gR μ v0 2) fun a11 =>
  gd (iz sh 2 a11) <|
  if (gI μ a11 1) ≤ v4 then
    m_X6_between_b64 sh v0 v1 v2 v3 μ
  else
    ca2 (m_X6_canHaveBeenIn sh v0 v1 v4 v2 μ) fun r14 μ15 =>
    if r14 = 0 then
      m_X6_between_b58 sh k28 v0 v1 v2 v3 v4 μ15
    else
      bd (v3 ||| (1 <<< (v4 &&& 31))) fun w17 =>
      m_X6_between_b58 sh k28 v0 v1 v2 w17 v4 μ15
def m_X6_between_h28 (sh : Sh) (v0 : Nat) (v1 : Int32) (v2 : Int32) : Nat → Int32 → Int32 → Mu → Option (Int32 × Mu)
  | 0 => fun _ _ _ => none
  | f + 1 => fun v3 v4 μ => m_X6_between_b28 sh (m_X6_between_h28 sh v0 v1 v2 f) v0 v1 v2 v3 v4 μ
def m_X6_between (sh : Sh) (v0 : Nat) (v1 : Int32) (v2 : Int32) (μ : Mu) : Option (Int32 × Mu) :=
  gd (iz sh 6 v0) <|
  bd (gR μ v0 2) fun a2 =>
  gd (iz sh 2 a2) <|
  ca2 (m_X2_hasPerson sh a2 v1 μ) fun r4 μ5 =>
  if r4 = 0 then
    some ((-1), μ5)
  else
    ca2 (m_X6_isAskedMinute sh v2 μ5) fun r7 μ8 =>
    if r7 = 0 then
      some ((-2), μ8)
    else
      m_X6_between_h28 sh v0 v1 v2 FU 0 0 μ8
set_option maxHeartbeats 4000000 in
set_option maxRecDepth 20000 in
theorem t_X6_between_b58 {l : Launch} {G : Gl} {n : Nat} {sh : Sh} {x : Int32 × Mu} {k28 : Int32 → Int32 → Mu → Option (Int32 × Mu)} {v0 : Nat} {v1 : Int32} {v2 : Int32} {v3 : Int32} {v4 : Int32} {μ : Mu} (hk28 : ∀ (v3 : Int32) (v4 : Int32) (μ : Mu), k28 v3 v4 μ = some x → Sj l G (QI G n sh x) c_X6_between n sh 0 0 μ 28 [some (vr v0), some (vi v1), some (vi v2), some (vi v3), some (vi v4)] []) (h : m_X6_between_b58 sh k28 v0 v1 v2 v3 v4 μ = some x) : Sj l G (QI G n sh x) c_X6_between n sh 0 0 μ 58 [some (vr v0), some (vi v1), some (vi v2), some (vi v3), some (vi v4)] [] := by
  unfold m_X6_between_b58 at h
  obtain ⟨w31, ew31, h⟩ := bd_1 h
  refine s_iinc (pc := 58) (v := w31) (lc' := [some (vr v0), some (vi v1), some (vi v2), some (vi v3), some (vi w31)]) d_X6_between_58 rfl (by rw [ew31]; rfl) (by decide) rfl ?_
  refine s_goto (pc := 61) (tgt := 28) d_X6_between_61 (by decide) ?_
  exact hk28 _ _ _ h
set_option maxHeartbeats 4000000 in
set_option maxRecDepth 20000 in
theorem t_X6_between_b64 {l : Launch} {G : Gl} {n : Nat} {sh : Sh} {x : Int32 × Mu} {v0 : Nat} {v1 : Int32} {v2 : Int32} {v3 : Int32} {μ : Mu} (h : m_X6_between_b64 sh v0 v1 v2 v3 μ = some x) : Sj l G (QI G n sh x) c_X6_between n sh 0 0 μ 64 [some (vr v0), some (vi v1), some (vi v2), some (vi v3), none] [] := by
  unfold m_X6_between_b64 at h
  refine s_aload_n (pc := 64) d_X6_between_64 rfl rfl ?_
  obtain ⟨g18, h⟩ := gd_1 h
  refine s_getR (pc := 65) (k := 4) cl_6 d_X6_between_65 g18 (by decide) w_200 (rt_obj _) ?_
  obtain ⟨a19, ea19, h⟩ := bd_1 h
  refine s_topR ea19 ?_
  refine s_iconst (pc := 68) (v := 0) d_X6_between_68 (by decide) ?_
  refine s_iload_n (pc := 69) d_X6_between_69 rfl rfl ?_
  refine s_iconst (pc := 70) (v := 0) d_X6_between_70 (by decide) ?_
  obtain ⟨g20, h⟩ := gd_1 h
  obtain ⟨r21, μ22, er21, h⟩ := ca2_1 h
  refine s_callV (pc := 71) (as := [vi 0, vi v2, vi 0]) (st := []) (vo := [vi r21]) (t_X4_seenNear er21) cl_4 g20 d_X6_between_71 y_X4_seenNear w_576 w_577 w_578 ⟨by decide, by decide⟩ ⟨Nat.le_of_ble_eq_true rfl, Nat.le_of_ble_eq_true rfl⟩ (Nat.le_of_ble_eq_true rfl) rfl rfl rfl ?_
  refine s_as (kc' := 0) (js' := 0) (pc' := 74) (st' := [vi r21]) ⟨rfl, rfl, rfl, rfl⟩ ?_
  refine s_aload_n (pc := 74) d_X6_between_74 rfl rfl ?_
  refine s_getR (pc := 75) (k := 4) cl_6 d_X6_between_75 g18 (by decide) w_200 (rt_obj _) ?_
  obtain ⟨a23, ea23, h⟩ := bd_1 h
  refine s_topR ea23 ?_
  refine s_iconst (pc := 78) (v := 1) d_X6_between_78 (by decide) ?_
  refine s_iload_n (pc := 79) d_X6_between_79 rfl rfl ?_
  refine s_iconst (pc := 80) (v := 0) d_X6_between_80 (by decide) ?_
  obtain ⟨g24, h⟩ := gd_1 h
  obtain ⟨r25, μ26, er25, h⟩ := ca2_1 h
  refine s_callV (pc := 81) (as := [vi 1, vi v2, vi 0]) (st := [vi r21]) (vo := [vi r25]) (t_X4_seenNear er25) cl_4 g24 d_X6_between_81 y_X4_seenNear w_576 w_577 w_578 ⟨by decide, by decide⟩ ⟨Nat.le_of_ble_eq_true rfl, Nat.le_of_ble_eq_true rfl⟩ (Nat.le_of_ble_eq_true rfl) rfl rfl rfl ?_
  refine s_as (kc' := 0) (js' := 0) (pc' := 84) (st' := [vi r25, vi r21]) ⟨rfl, rfl, rfl, rfl⟩ ?_
  refine s_ior (pc := 84) d_X6_between_84 ?_
  obtain ⟨w27, ew27, h⟩ := bd_1 h
  refine s_topI ew27 ?_
  refine s_istore (pc := 85) (lc' := [some (vr v0), some (vi v1), some (vi v2), some (vi v3), some (vi w27)]) d_X6_between_85 (by decide) rfl ?_
  refine s_iload (pc := 87) d_X6_between_87 rfl ?_
  refine s_iload_n (pc := 89) d_X6_between_89 rfl rfl ?_
  obtain ⟨r28, μ29, er28, h⟩ := ca2_1 h
  refine s_callS (pc := 90) (as := [vi w27, vi v1]) (st := []) (vo := [vi r28]) (t_X6_has er28) d_X6_between_90 y_X6_has w_600 w_426 ⟨by decide, by decide⟩ ⟨Nat.le_of_ble_eq_true rfl, Nat.le_of_ble_eq_true rfl⟩ (Nat.le_of_ble_eq_true rfl) rfl rfl rfl ?_
  refine s_as (kc' := 0) (js' := 0) (pc' := 93) (st' := [vi r28]) ⟨rfl, rfl, rfl, rfl⟩ ?_
  refine s_if_eq (pc := 93) (tgt := 100) d_X6_between_93 (by decide) (fun c30 => ?_) (fun c30 => ?_)
  · have h := it_t c30 h
    refine s_iload_n (pc := 100) d_X6_between_100 rfl rfl ?_
    refine s_iconst (pc := 101) (v := 4) d_X6_between_101 (by decide) ?_
    refine s_ior (pc := 102) d_X6_between_102 ?_
    obtain rfl := Option.some.inj h
    exact s_iret (pc := 103) d_X6_between_103 rfl
  · have h := it_f c30 h
    refine s_iload_n (pc := 96) d_X6_between_96 rfl rfl ?_
    refine s_goto (pc := 97) (tgt := 103) d_X6_between_97 (by decide) ?_
    obtain rfl := Option.some.inj h
    exact s_iret (pc := 103) d_X6_between_103 rfl
set_option maxHeartbeats 4000000 in
set_option maxRecDepth 20000 in
theorem t_X6_between_b28 {l : Launch} {G : Gl} {n : Nat} {sh : Sh} {x : Int32 × Mu} {k28 : Int32 → Int32 → Mu → Option (Int32 × Mu)} {v0 : Nat} {v1 : Int32} {v2 : Int32} {v3 : Int32} {v4 : Int32} {μ : Mu} (hk28 : ∀ (v3 : Int32) (v4 : Int32) (μ : Mu), k28 v3 v4 μ = some x → Sj l G (QI G n sh x) c_X6_between n sh 0 0 μ 28 [some (vr v0), some (vi v1), some (vi v2), some (vi v3), some (vi v4)] []) (h : m_X6_between_b28 sh k28 v0 v1 v2 v3 v4 μ = some x) : Sj l G (QI G n sh x) c_X6_between n sh 0 0 μ 28 [some (vr v0), some (vi v1), some (vi v2), some (vi v3), some (vi v4)] [] := by
  unfold m_X6_between_b28 at h
  refine s_iload (pc := 28) d_X6_between_28 rfl ?_
  refine s_aload_n (pc := 30) d_X6_between_30 rfl rfl ?_
  obtain ⟨g10, h⟩ := gd_1 h
  refine s_getR (pc := 31) (k := 2) cl_6 d_X6_between_31 g10 (by decide) w_198 (rt_obj _) ?_
  obtain ⟨a11, ea11, h⟩ := bd_1 h
  refine s_topR ea11 ?_
  obtain ⟨g12, h⟩ := gd_1 h
  refine s_getI (pc := 34) (k := 1) cl_2 d_X6_between_34 g12 (by decide) w_29 rfl ?_
  refine s_icmp_ge (pc := 37) (tgt := 64) d_X6_between_37 (by decide) (fun c13 => ?_) (fun c13 => ?_)
  · have h := it_t c13 h
    refine s_mask [true, true, true, true, false] rfl ?_
    exact t_X6_between_b64 h
  · have h := it_f c13 h
    refine s_aload_n (pc := 40) d_X6_between_40 rfl rfl ?_
    refine s_iload_n (pc := 41) d_X6_between_41 rfl rfl ?_
    refine s_iload (pc := 42) d_X6_between_42 rfl ?_
    refine s_iload_n (pc := 44) d_X6_between_44 rfl rfl ?_
    obtain ⟨r14, μ15, er14, h⟩ := ca2_1 h
    refine s_callV (pc := 45) (as := [vi v1, vi v4, vi v2]) (st := []) (vo := [vi r14]) (t_X6_canHaveBeenIn er14) cl_6 g10 d_X6_between_45 y_X6_canHaveBeenIn w_596 w_598 w_s9 ⟨by decide, by decide⟩ ⟨Nat.le_of_ble_eq_true rfl, Nat.le_of_ble_eq_true rfl⟩ (Nat.le_of_ble_eq_true rfl) rfl rfl rfl ?_
    refine s_as (kc' := 0) (js' := 0) (pc' := 48) (st' := [vi r14]) ⟨rfl, rfl, rfl, rfl⟩ ?_
    refine s_if_eq (pc := 48) (tgt := 58) d_X6_between_48 (by decide) (fun c16 => ?_) (fun c16 => ?_)
    · have h := it_t c16 h
      exact t_X6_between_b58 hk28 h
    · have h := it_f c16 h
      refine s_iload_n (pc := 51) d_X6_between_51 rfl rfl ?_
      refine s_iconst (pc := 52) (v := 1) d_X6_between_52 (by decide) ?_
      refine s_iload (pc := 53) d_X6_between_53 rfl ?_
      refine s_ishl (pc := 55) d_X6_between_55 ?_
      refine s_ior (pc := 56) d_X6_between_56 ?_
      obtain ⟨w17, ew17, h⟩ := bd_1 h
      refine s_topI ew17 ?_
      refine s_istore_n (pc := 57) (lc' := [some (vr v0), some (vi v1), some (vi v2), some (vi w17), some (vi v4)]) d_X6_between_57 rfl (by decide) rfl ?_
      exact t_X6_between_b58 hk28 h
set_option maxHeartbeats 4000000 in
set_option maxRecDepth 20000 in
theorem t_X6_between_h28 {l : Launch} {G : Gl} {n : Nat} {sh : Sh} {x : Int32 × Mu} {v0 : Nat} {v1 : Int32} {v2 : Int32} : ∀ (f : Nat) (v3 : Int32) (v4 : Int32) (μ : Mu), m_X6_between_h28 sh v0 v1 v2 f v3 v4 μ = some x → Sj l G (QI G n sh x) c_X6_between n sh 0 0 μ 28 [some (vr v0), some (vi v1), some (vi v2), some (vi v3), some (vi v4)] [] := by
  intro f
  induction f with
  | zero =>
    intro v3 v4 μ h
    cases h
  | succ f ih =>
    intro v3 v4 μ h
    exact t_X6_between_b28 ih h
set_option maxHeartbeats 4000000 in
set_option maxRecDepth 20000 in
theorem t_X6_between {l : Launch} {G : Gl} {n : Nat} {sh : Sh} {x : Int32 × Mu} {v0 : Nat} {v1 : Int32} {v2 : Int32} {μ : Mu} (h : m_X6_between sh v0 v1 v2 μ = some x) : Ct l G ⟨"StripsOfFour", "between", "(II)I"⟩ prog_1_method_26_code 5 (some .int) { frames := 3, cells := 0, slots := 0, locals := 72 } n sh μ [vr v0, vi v1, vi v2] (some (.int x.1)) n sh x.2 := by
  refine Ct.of (lc := [some (vr v0), some (vi v1), some (vi v2), none, none]) (by decide +kernel) (Nat.le_of_ble_eq_true rfl) rfl ?_
  show Sj l G (QI G n sh x) c_X6_between n sh 0 0 μ 0 [some (vr v0), some (vi v1), some (vi v2), none, none] []
  unfold m_X6_between at h
  refine s_aload_n (pc := 0) d_X6_between_0 rfl rfl ?_
  obtain ⟨g1, h⟩ := gd_1 h
  refine s_getR (pc := 1) (k := 2) cl_6 d_X6_between_1 g1 (by decide) w_198 (rt_obj _) ?_
  obtain ⟨a2, ea2, h⟩ := bd_1 h
  refine s_topR ea2 ?_
  refine s_iload_n (pc := 4) d_X6_between_4 rfl rfl ?_
  obtain ⟨g3, h⟩ := gd_1 h
  obtain ⟨r4, μ5, er4, h⟩ := ca2_1 h
  refine s_callV (pc := 5) (as := [vi v1]) (st := []) (vo := [vi r4]) (t_X2_hasPerson er4) cl_2 g3 d_X6_between_5 y_X2_hasPerson w_317 w_260 w_261 ⟨by decide, by decide⟩ ⟨Nat.le_of_ble_eq_true rfl, Nat.le_of_ble_eq_true rfl⟩ (Nat.le_of_ble_eq_true rfl) rfl rfl rfl ?_
  refine s_as (kc' := 0) (js' := 0) (pc' := 8) (st' := [vi r4]) ⟨rfl, rfl, rfl, rfl⟩ ?_
  refine s_if_ne (pc := 8) (tgt := 13) d_X6_between_8 (by decide) (fun c6 => ?_) (fun c6 => ?_)
  · have h := it_f c6 h
    refine s_iload_n (pc := 13) d_X6_between_13 rfl rfl ?_
    obtain ⟨r7, μ8, er7, h⟩ := ca2_1 h
    refine s_callS (pc := 14) (as := [vi v2]) (st := []) (vo := [vi r7]) (t_X6_isAskedMinute er7) d_X6_between_14 y_X6_isAskedMinute w_563 w_564 ⟨by decide, by decide⟩ ⟨Nat.le_of_ble_eq_true rfl, Nat.le_of_ble_eq_true rfl⟩ (Nat.le_of_ble_eq_true rfl) rfl rfl rfl ?_
    refine s_as (kc' := 0) (js' := 0) (pc' := 17) (st' := [vi r7]) ⟨rfl, rfl, rfl, rfl⟩ ?_
    refine s_if_ne (pc := 17) (tgt := 23) d_X6_between_17 (by decide) (fun c9 => ?_) (fun c9 => ?_)
    · have h := it_f c9 h
      refine s_iconst (pc := 23) (v := 0) d_X6_between_23 (by decide) ?_
      refine s_istore_n (pc := 24) (lc' := [some (vr v0), some (vi v1), some (vi v2), some (vi 0), none]) d_X6_between_24 rfl (by decide) rfl ?_
      refine s_iconst (pc := 25) (v := 0) d_X6_between_25 (by decide) ?_
      refine s_istore (pc := 26) (lc' := [some (vr v0), some (vi v1), some (vi v2), some (vi 0), some (vi 0)]) d_X6_between_26 (by decide) rfl ?_
      exact t_X6_between_h28 FU _ _ _ h
    · have h := it_t c9 h
      refine s_bipush (pc := 20) (v := (-2)) d_X6_between_20 (by decide) ?_
      obtain rfl := Option.some.inj h
      exact s_iret (pc := 22) d_X6_between_22 rfl
  · have h := it_t c6 h
    refine s_iconst (pc := 11) (v := (-1)) d_X6_between_11 (by decide) ?_
    obtain rfl := Option.some.inj h
    exact s_iret (pc := 12) d_X6_between_12 rfl
/-! StripsOfFour.booth -/
abbrev c_X6_booth : Cf := (prog_1_method_7_code, 3, "StripsOfFour", "booth", (some .int), { frames := 3, cells := 0, slots := 0, locals := 65 })
theorem d_X6_booth_0 : decode prog_1_method_7_code 0 = .ok (.aload_n 0, 1) := by decide +kernel
theorem d_X6_booth_1 : decode prog_1_method_7_code 1 = .ok (.getfield 20, 3) := by decide +kernel
theorem d_X6_booth_4 : decode prog_1_method_7_code 4 = .ok (.iload_n 1, 1) := by decide +kernel
theorem d_X6_booth_5 : decode prog_1_method_7_code 5 = .ok (.invokevirtual 101, 3) := by decide +kernel
theorem d_X6_booth_8 : decode prog_1_method_7_code 8 = .ok (.ifCond .ne 5, 3) := by decide +kernel
theorem d_X6_booth_11 : decode prog_1_method_7_code 11 = .ok (.iconst (-1), 1) := by decide +kernel
theorem d_X6_booth_12 : decode prog_1_method_7_code 12 = .ok (.ireturn, 1) := by decide +kernel
theorem d_X6_booth_13 : decode prog_1_method_7_code 13 = .ok (.iload_n 2, 1) := by decide +kernel
theorem d_X6_booth_14 : decode prog_1_method_7_code 14 = .ok (.tableswitch 86 0 4 #[34, 43, 52, 61, 70], 34) := by decide +kernel
theorem d_X6_booth_48 : decode prog_1_method_7_code 48 = .ok (.aload_n 0, 1) := by decide +kernel
theorem d_X6_booth_49 : decode prog_1_method_7_code 49 = .ok (.getfield 20, 3) := by decide +kernel
theorem d_X6_booth_52 : decode prog_1_method_7_code 52 = .ok (.iload_n 1, 1) := by decide +kernel
theorem d_X6_booth_53 : decode prog_1_method_7_code 53 = .ok (.invokevirtual 105, 3) := by decide +kernel
theorem d_X6_booth_56 : decode prog_1_method_7_code 56 = .ok (.ireturn, 1) := by decide +kernel
theorem d_X6_booth_57 : decode prog_1_method_7_code 57 = .ok (.aload_n 0, 1) := by decide +kernel
theorem d_X6_booth_58 : decode prog_1_method_7_code 58 = .ok (.getfield 20, 3) := by decide +kernel
theorem d_X6_booth_61 : decode prog_1_method_7_code 61 = .ok (.iload_n 1, 1) := by decide +kernel
theorem d_X6_booth_62 : decode prog_1_method_7_code 62 = .ok (.invokevirtual 109, 3) := by decide +kernel
theorem d_X6_booth_65 : decode prog_1_method_7_code 65 = .ok (.ireturn, 1) := by decide +kernel
theorem d_X6_booth_66 : decode prog_1_method_7_code 66 = .ok (.aload_n 0, 1) := by decide +kernel
theorem d_X6_booth_67 : decode prog_1_method_7_code 67 = .ok (.getfield 30, 3) := by decide +kernel
theorem d_X6_booth_70 : decode prog_1_method_7_code 70 = .ok (.iload_n 1, 1) := by decide +kernel
theorem d_X6_booth_71 : decode prog_1_method_7_code 71 = .ok (.invokevirtual 112, 3) := by decide +kernel
theorem d_X6_booth_74 : decode prog_1_method_7_code 74 = .ok (.ireturn, 1) := by decide +kernel
theorem d_X6_booth_75 : decode prog_1_method_7_code 75 = .ok (.aload_n 0, 1) := by decide +kernel
theorem d_X6_booth_76 : decode prog_1_method_7_code 76 = .ok (.getfield 30, 3) := by decide +kernel
theorem d_X6_booth_79 : decode prog_1_method_7_code 79 = .ok (.iload_n 1, 1) := by decide +kernel
theorem d_X6_booth_80 : decode prog_1_method_7_code 80 = .ok (.invokevirtual 115, 3) := by decide +kernel
theorem d_X6_booth_83 : decode prog_1_method_7_code 83 = .ok (.ireturn, 1) := by decide +kernel
theorem d_X6_booth_84 : decode prog_1_method_7_code 84 = .ok (.aload_n 0, 1) := by decide +kernel
theorem d_X6_booth_85 : decode prog_1_method_7_code 85 = .ok (.getfield 20, 3) := by decide +kernel
theorem d_X6_booth_88 : decode prog_1_method_7_code 88 = .ok (.iload_n 1, 1) := by decide +kernel
theorem d_X6_booth_89 : decode prog_1_method_7_code 89 = .ok (.aload_n 0, 1) := by decide +kernel
theorem d_X6_booth_90 : decode prog_1_method_7_code 90 = .ok (.getfield 30, 3) := by decide +kernel
theorem d_X6_booth_93 : decode prog_1_method_7_code 93 = .ok (.getfield 82, 3) := by decide +kernel
theorem d_X6_booth_96 : decode prog_1_method_7_code 96 = .ok (.invokevirtual 118, 3) := by decide +kernel
theorem d_X6_booth_99 : decode prog_1_method_7_code 99 = .ok (.ireturn, 1) := by decide +kernel
theorem d_X6_booth_100 : decode prog_1_method_7_code 100 = .ok (.bipush (-2), 2) := by decide +kernel
theorem d_X6_booth_102 : decode prog_1_method_7_code 102 = .ok (.ireturn, 1) := by decide +kernel
def m_X6_booth (sh : Sh) (v0 : Nat) (v1 : Int32) (v2 : Int32) (μ : Mu) : Option (Int32 × Mu) :=
  gd (iz sh 6 v0) <|
  bd (gR μ v0 2) fun a2 =>
  gd (iz sh 2 a2) <|
  ca2 (m_X2_hasBooth sh a2 v1 μ) fun r4 μ5 =>
  if r4 = 0 then
    some ((-1), μ5)
  else
    if v2 = 0 then
      bd (gR μ5 v0 2) fun a8 =>
      gd (iz sh 2 a8) <|
      ca2 (m_X2_firstOf sh a8 v1 μ5) fun r10 μ11 =>
      some (r10, μ11)
    else
      if v2 = 1 then
        bd (gR μ5 v0 2) fun a13 =>
        gd (iz sh 2 a13) <|
        ca2 (m_X2_everyOf sh a13 v1 μ5) fun r15 μ16 =>
        some (r15, μ16)
      else
        if v2 = 2 then
          bd (gR μ5 v0 4) fun a18 =>
          gd (iz sh 4 a18) <|
          ca2 (m_X4_whoIsIn sh a18 v1 μ5) fun r20 μ21 =>
          some (r20, μ21)
        else
          if v2 = 3 then
            bd (gR μ5 v0 4) fun a23 =>
            gd (iz sh 4 a23) <|
            ca2 (m_X4_begunLooks sh a23 v1 μ5) fun r25 μ26 =>
            some (r25, μ26)
          else
            if v2 = 4 then
              bd (gR μ5 v0 2) fun a28 =>
              bd (gR μ5 v0 4) fun a29 =>
              gd (iz sh 4 a29) <|
              gd (iz sh 2 a28) <|
              ca2 (m_X2_nextFlash sh a28 v1 (gI μ5 a29 1) μ5) fun r32 μ33 =>
              some (r32, μ33)
            else
              some ((-2), μ5)
set_option maxHeartbeats 4000000 in
set_option maxRecDepth 20000 in
theorem t_X6_booth {l : Launch} {G : Gl} {n : Nat} {sh : Sh} {x : Int32 × Mu} {v0 : Nat} {v1 : Int32} {v2 : Int32} {μ : Mu} (h : m_X6_booth sh v0 v1 v2 μ = some x) : Ct l G ⟨"StripsOfFour", "booth", "(II)I"⟩ prog_1_method_7_code 3 (some .int) { frames := 3, cells := 0, slots := 0, locals := 65 } n sh μ [vr v0, vi v1, vi v2] (some (.int x.1)) n sh x.2 := by
  refine Ct.of (lc := [some (vr v0), some (vi v1), some (vi v2)]) (by decide +kernel) (Nat.le_of_ble_eq_true rfl) rfl ?_
  show Sj l G (QI G n sh x) c_X6_booth n sh 0 0 μ 0 [some (vr v0), some (vi v1), some (vi v2)] []
  unfold m_X6_booth at h
  refine s_aload_n (pc := 0) d_X6_booth_0 rfl rfl ?_
  obtain ⟨g1, h⟩ := gd_1 h
  refine s_getR (pc := 1) (k := 2) cl_6 d_X6_booth_1 g1 (by decide) w_198 (rt_obj _) ?_
  obtain ⟨a2, ea2, h⟩ := bd_1 h
  refine s_topR ea2 ?_
  refine s_iload_n (pc := 4) d_X6_booth_4 rfl rfl ?_
  obtain ⟨g3, h⟩ := gd_1 h
  obtain ⟨r4, μ5, er4, h⟩ := ca2_1 h
  refine s_callV (pc := 5) (as := [vi v1]) (st := []) (vo := [vi r4]) (t_X2_hasBooth er4) cl_2 g3 d_X6_booth_5 y_X2_hasBooth w_284 w_256 w_257 ⟨by decide, by decide⟩ ⟨Nat.le_of_ble_eq_true rfl, Nat.le_of_ble_eq_true rfl⟩ (Nat.le_of_ble_eq_true rfl) rfl rfl rfl ?_
  refine s_as (kc' := 0) (js' := 0) (pc' := 8) (st' := [vi r4]) ⟨rfl, rfl, rfl, rfl⟩ ?_
  refine s_if_ne (pc := 8) (tgt := 13) d_X6_booth_8 (by decide) (fun c6 => ?_) (fun c6 => ?_)
  · have h := it_f c6 h
    refine s_iload_n (pc := 13) d_X6_booth_13 rfl rfl ?_
    by_cases c7 : v2 = 0
    · have h := it_t c7 h
      refine s_tab (pc := 14) (tgt := 48) 0 c7 d_X6_booth_14 (by decide) (by decide) rfl (by decide) ?_
      refine s_aload_n (pc := 48) d_X6_booth_48 rfl rfl ?_
      refine s_getR (pc := 49) (k := 2) cl_6 d_X6_booth_49 g1 (by decide) w_198 (rt_obj _) ?_
      obtain ⟨a8, ea8, h⟩ := bd_1 h
      refine s_topR ea8 ?_
      refine s_iload_n (pc := 52) d_X6_booth_52 rfl rfl ?_
      obtain ⟨g9, h⟩ := gd_1 h
      obtain ⟨r10, μ11, er10, h⟩ := ca2_1 h
      refine s_callV (pc := 53) (as := [vi v1]) (st := []) (vo := [vi r10]) (t_X2_firstOf er10) cl_2 g9 d_X6_booth_53 y_X2_firstOf w_285 w_286 w_287 ⟨by decide, by decide⟩ ⟨Nat.le_of_ble_eq_true rfl, Nat.le_of_ble_eq_true rfl⟩ (Nat.le_of_ble_eq_true rfl) rfl rfl rfl ?_
      refine s_as (kc' := 0) (js' := 0) (pc' := 56) (st' := [vi r10]) ⟨rfl, rfl, rfl, rfl⟩ ?_
      obtain rfl := Option.some.inj h
      exact s_iret (pc := 56) d_X6_booth_56 rfl
    have h := it_f c7 h
    by_cases c12 : v2 = 1
    · have h := it_t c12 h
      refine s_tab (pc := 14) (tgt := 57) 1 c12 d_X6_booth_14 (by decide) (by decide) rfl (by decide) ?_
      refine s_aload_n (pc := 57) d_X6_booth_57 rfl rfl ?_
      refine s_getR (pc := 58) (k := 2) cl_6 d_X6_booth_58 g1 (by decide) w_198 (rt_obj _) ?_
      obtain ⟨a13, ea13, h⟩ := bd_1 h
      refine s_topR ea13 ?_
      refine s_iload_n (pc := 61) d_X6_booth_61 rfl rfl ?_
      obtain ⟨g14, h⟩ := gd_1 h
      obtain ⟨r15, μ16, er15, h⟩ := ca2_1 h
      refine s_callV (pc := 62) (as := [vi v1]) (st := []) (vo := [vi r15]) (t_X2_everyOf er15) cl_2 g14 d_X6_booth_62 y_X2_everyOf w_289 w_290 w_291 ⟨by decide, by decide⟩ ⟨Nat.le_of_ble_eq_true rfl, Nat.le_of_ble_eq_true rfl⟩ (Nat.le_of_ble_eq_true rfl) rfl rfl rfl ?_
      refine s_as (kc' := 0) (js' := 0) (pc' := 65) (st' := [vi r15]) ⟨rfl, rfl, rfl, rfl⟩ ?_
      obtain rfl := Option.some.inj h
      exact s_iret (pc := 65) d_X6_booth_65 rfl
    have h := it_f c12 h
    by_cases c17 : v2 = 2
    · have h := it_t c17 h
      refine s_tab (pc := 14) (tgt := 66) 2 c17 d_X6_booth_14 (by decide) (by decide) rfl (by decide) ?_
      refine s_aload_n (pc := 66) d_X6_booth_66 rfl rfl ?_
      refine s_getR (pc := 67) (k := 4) cl_6 d_X6_booth_67 g1 (by decide) w_200 (rt_obj _) ?_
      obtain ⟨a18, ea18, h⟩ := bd_1 h
      refine s_topR ea18 ?_
      refine s_iload_n (pc := 70) d_X6_booth_70 rfl rfl ?_
      obtain ⟨g19, h⟩ := gd_1 h
      obtain ⟨r20, μ21, er20, h⟩ := ca2_1 h
      refine s_callV (pc := 71) (as := [vi v1]) (st := []) (vo := [vi r20]) (t_X4_whoIsIn er20) cl_4 g19 d_X6_booth_71 y_X4_whoIsIn w_296 w_297 w_298 ⟨by decide, by decide⟩ ⟨Nat.le_of_ble_eq_true rfl, Nat.le_of_ble_eq_true rfl⟩ (Nat.le_of_ble_eq_true rfl) rfl rfl rfl ?_
      refine s_as (kc' := 0) (js' := 0) (pc' := 74) (st' := [vi r20]) ⟨rfl, rfl, rfl, rfl⟩ ?_
      obtain rfl := Option.some.inj h
      exact s_iret (pc := 74) d_X6_booth_74 rfl
    have h := it_f c17 h
    by_cases c22 : v2 = 3
    · have h := it_t c22 h
      refine s_tab (pc := 14) (tgt := 75) 3 c22 d_X6_booth_14 (by decide) (by decide) rfl (by decide) ?_
      refine s_aload_n (pc := 75) d_X6_booth_75 rfl rfl ?_
      refine s_getR (pc := 76) (k := 4) cl_6 d_X6_booth_76 g1 (by decide) w_200 (rt_obj _) ?_
      obtain ⟨a23, ea23, h⟩ := bd_1 h
      refine s_topR ea23 ?_
      refine s_iload_n (pc := 79) d_X6_booth_79 rfl rfl ?_
      obtain ⟨g24, h⟩ := gd_1 h
      obtain ⟨r25, μ26, er25, h⟩ := ca2_1 h
      refine s_callV (pc := 80) (as := [vi v1]) (st := []) (vo := [vi r25]) (t_X4_begunLooks er25) cl_4 g24 d_X6_booth_80 y_X4_begunLooks w_300 w_301 w_302 ⟨by decide, by decide⟩ ⟨Nat.le_of_ble_eq_true rfl, Nat.le_of_ble_eq_true rfl⟩ (Nat.le_of_ble_eq_true rfl) rfl rfl rfl ?_
      refine s_as (kc' := 0) (js' := 0) (pc' := 83) (st' := [vi r25]) ⟨rfl, rfl, rfl, rfl⟩ ?_
      obtain rfl := Option.some.inj h
      exact s_iret (pc := 83) d_X6_booth_83 rfl
    have h := it_f c22 h
    by_cases c27 : v2 = 4
    · have h := it_t c27 h
      refine s_tab (pc := 14) (tgt := 84) 4 c27 d_X6_booth_14 (by decide) (by decide) rfl (by decide) ?_
      refine s_aload_n (pc := 84) d_X6_booth_84 rfl rfl ?_
      refine s_getR (pc := 85) (k := 2) cl_6 d_X6_booth_85 g1 (by decide) w_198 (rt_obj _) ?_
      obtain ⟨a28, ea28, h⟩ := bd_1 h
      refine s_topR ea28 ?_
      refine s_iload_n (pc := 88) d_X6_booth_88 rfl rfl ?_
      refine s_aload_n (pc := 89) d_X6_booth_89 rfl rfl ?_
      refine s_getR (pc := 90) (k := 4) cl_6 d_X6_booth_90 g1 (by decide) w_200 (rt_obj _) ?_
      obtain ⟨a29, ea29, h⟩ := bd_1 h
      refine s_topR ea29 ?_
      obtain ⟨g30, h⟩ := gd_1 h
      refine s_getI (pc := 93) (k := 1) cl_4 d_X6_booth_93 g30 (by decide) w_97 rfl ?_
      obtain ⟨g31, h⟩ := gd_1 h
      obtain ⟨r32, μ33, er32, h⟩ := ca2_1 h
      refine s_callV (pc := 96) (as := [vi v1, vi (gI μ5 a29 1)]) (st := []) (vo := [vi r32]) (t_X2_nextFlash er32) cl_2 g31 d_X6_booth_96 y_X2_nextFlash w_304 w_305 w_306 ⟨by decide, by decide⟩ ⟨Nat.le_of_ble_eq_true rfl, Nat.le_of_ble_eq_true rfl⟩ (Nat.le_of_ble_eq_true rfl) rfl rfl rfl ?_
      refine s_as (kc' := 0) (js' := 0) (pc' := 99) (st' := [vi r32]) ⟨rfl, rfl, rfl, rfl⟩ ?_
      obtain rfl := Option.some.inj h
      exact s_iret (pc := 99) d_X6_booth_99 rfl
    have h := it_f c27 h
    have qc7 := lv_neT (a := 0) c7 (by decide)
    have qc12 := lv_neT (a := 1) c12 (by decide)
    have qc17 := lv_neT (a := 2) c17 (by decide)
    have qc22 := lv_neT (a := 3) c22 (by decide)
    have qc27 := lv_neT (a := 4) c27 (by decide)
    refine s_tabOut (pc := 14) (tgt := 100) d_X6_booth_14 (by omega) (by decide) ?_
    refine s_bipush (pc := 100) (v := (-2)) d_X6_booth_100 (by decide) ?_
    obtain rfl := Option.some.inj h
    exact s_iret (pc := 102) d_X6_booth_102 rfl
  · have h := it_t c6 h
    refine s_iconst (pc := 11) (v := (-1)) d_X6_booth_11 (by decide) ?_
    obtain rfl := Option.some.inj h
    exact s_iret (pc := 12) d_X6_booth_12 rfl
/-! StripsOfFour.day -/
abbrev c_X6_day : Cf := (prog_1_method_18_code, 1, "StripsOfFour", "day", (some .int), { frames := 4, cells := 0, slots := 0, locals := 132 })
theorem d_X6_day_0 : decode prog_1_method_18_code 0 = .ok (.aload_n 0, 1) := by decide +kernel
theorem d_X6_day_1 : decode prog_1_method_18_code 1 = .ok (.getfield 37, 3) := by decide +kernel
theorem d_X6_day_4 : decode prog_1_method_18_code 4 = .ok (.aload_n 0, 1) := by decide +kernel
theorem d_X6_day_5 : decode prog_1_method_18_code 5 = .ok (.getfield 30, 3) := by decide +kernel
theorem d_X6_day_8 : decode prog_1_method_18_code 8 = .ok (.invokevirtual 174, 3) := by decide +kernel
theorem d_X6_day_11 : decode prog_1_method_18_code 11 = .ok (.aload_n 0, 1) := by decide +kernel
theorem d_X6_day_12 : decode prog_1_method_18_code 12 = .ok (.getfield 30, 3) := by decide +kernel
theorem d_X6_day_15 : decode prog_1_method_18_code 15 = .ok (.invokevirtual 193, 3) := by decide +kernel
theorem d_X6_day_18 : decode prog_1_method_18_code 18 = .ok (.aload_n 0, 1) := by decide +kernel
theorem d_X6_day_19 : decode prog_1_method_18_code 19 = .ok (.getfield 30, 3) := by decide +kernel
theorem d_X6_day_22 : decode prog_1_method_18_code 22 = .ok (.dup, 1) := by decide +kernel
theorem d_X6_day_23 : decode prog_1_method_18_code 23 = .ok (.getfield 85, 3) := by decide +kernel
theorem d_X6_day_26 : decode prog_1_method_18_code 26 = .ok (.iconst 1, 1) := by decide +kernel
theorem d_X6_day_27 : decode prog_1_method_18_code 27 = .ok (.iadd, 1) := by decide +kernel
theorem d_X6_day_28 : decode prog_1_method_18_code 28 = .ok (.putfield 85, 3) := by decide +kernel
theorem d_X6_day_31 : decode prog_1_method_18_code 31 = .ok (.aload_n 0, 1) := by decide +kernel
theorem d_X6_day_32 : decode prog_1_method_18_code 32 = .ok (.getfield 30, 3) := by decide +kernel
theorem d_X6_day_35 : decode prog_1_method_18_code 35 = .ok (.getfield 85, 3) := by decide +kernel
theorem d_X6_day_38 : decode prog_1_method_18_code 38 = .ok (.ireturn, 1) := by decide +kernel
def m_X6_day (sh : Sh) (v0 : Nat) (μ : Mu) : Option (Int32 × Mu) :=
  gd (iz sh 6 v0) <|
  bd (gR μ v0 5) fun a2 =>
  bd (gR μ v0 4) fun a3 =>
  gd (iz sh 1 a2) <|
  ca (m_X1_remember sh a2 a3 μ) fun μ5 =>
  bd (gR μ5 v0 4) fun a6 =>
  gd (iz sh 4 a6) <|
  ca (m_X4_fadeByOne sh a6 μ5) fun μ8 =>
  bd (gR μ8 v0 4) fun a9 =>
  gd (iz sh 4 a9) <|
  bd (sI μ8 a9 2 ((gI μ8 a9 2) + 1)) fun μ11 =>
  bd (gR μ11 v0 4) fun a12 =>
  gd (iz sh 4 a12) <|
  some (gI μ11 a12 2, μ11)
set_option maxHeartbeats 4000000 in
set_option maxRecDepth 20000 in
theorem t_X6_day {l : Launch} {G : Gl} {n : Nat} {sh : Sh} {x : Int32 × Mu} {v0 : Nat} {μ : Mu} (h : m_X6_day sh v0 μ = some x) : Ct l G ⟨"StripsOfFour", "day", "()I"⟩ prog_1_method_18_code 1 (some .int) { frames := 4, cells := 0, slots := 0, locals := 132 } n sh μ [vr v0] (some (.int x.1)) n sh x.2 := by
  refine Ct.of (lc := [some (vr v0)]) (by decide +kernel) (Nat.le_of_ble_eq_true rfl) rfl ?_
  show Sj l G (QI G n sh x) c_X6_day n sh 0 0 μ 0 [some (vr v0)] []
  unfold m_X6_day at h
  refine s_aload_n (pc := 0) d_X6_day_0 rfl rfl ?_
  obtain ⟨g1, h⟩ := gd_1 h
  refine s_getR (pc := 1) (k := 5) cl_6 d_X6_day_1 g1 (by decide) w_201 (rt_obj _) ?_
  obtain ⟨a2, ea2, h⟩ := bd_1 h
  refine s_topR ea2 ?_
  refine s_aload_n (pc := 4) d_X6_day_4 rfl rfl ?_
  refine s_getR (pc := 5) (k := 4) cl_6 d_X6_day_5 g1 (by decide) w_200 (rt_obj _) ?_
  obtain ⟨a3, ea3, h⟩ := bd_1 h
  refine s_topR ea3 ?_
  obtain ⟨g4, h⟩ := gd_1 h
  obtain ⟨μ5, eμ5, h⟩ := ca_1 h
  refine s_callV (pc := 8) (as := [vr a3]) (st := []) (vo := []) (t_X1_remember eμ5) cl_1 g4 d_X6_day_8 y_X1_remember w_378 w_379 w_380 ⟨by decide, by decide⟩ ⟨Nat.le_of_ble_eq_true rfl, Nat.le_of_ble_eq_true rfl⟩ (Nat.le_of_ble_eq_true rfl) rfl rfl rfl ?_
  refine s_as (kc' := 0) (js' := 0) (pc' := 11) (st' := []) ⟨rfl, rfl, rfl, rfl⟩ ?_
  refine s_aload_n (pc := 11) d_X6_day_11 rfl rfl ?_
  refine s_getR (pc := 12) (k := 4) cl_6 d_X6_day_12 g1 (by decide) w_200 (rt_obj _) ?_
  obtain ⟨a6, ea6, h⟩ := bd_1 h
  refine s_topR ea6 ?_
  obtain ⟨g7, h⟩ := gd_1 h
  obtain ⟨μ8, eμ8, h⟩ := ca_1 h
  refine s_callV (pc := 15) (as := []) (st := []) (vo := []) (t_X4_fadeByOne eμ8) cl_4 g7 d_X6_day_15 y_X4_fadeByOne w_456 w_457 w_458 ⟨by decide, by decide⟩ ⟨Nat.le_of_ble_eq_true rfl, Nat.le_of_ble_eq_true rfl⟩ (Nat.le_of_ble_eq_true rfl) rfl rfl rfl ?_
  refine s_as (kc' := 0) (js' := 0) (pc' := 18) (st' := []) ⟨rfl, rfl, rfl, rfl⟩ ?_
  refine s_aload_n (pc := 18) d_X6_day_18 rfl rfl ?_
  refine s_getR (pc := 19) (k := 4) cl_6 d_X6_day_19 g1 (by decide) w_200 (rt_obj _) ?_
  obtain ⟨a9, ea9, h⟩ := bd_1 h
  refine s_topR ea9 ?_
  refine s_dup (pc := 22) d_X6_day_22 rfl ?_
  obtain ⟨g10, h⟩ := gd_1 h
  refine s_getI (pc := 23) (k := 2) cl_4 d_X6_day_23 g10 (by decide) w_99 rfl ?_
  refine s_iconst (pc := 26) (v := 1) d_X6_day_26 (by decide) ?_
  refine s_iadd (pc := 27) d_X6_day_27 ?_
  refine s_putI (pc := 28) (k := 2) cl_4 d_X6_day_28 g10 (by decide) w_99 rfl rfl ?_
  obtain ⟨μ11, eμ11, h⟩ := bd_1 h
  refine s_mu eμ11 ?_
  refine s_aload_n (pc := 31) d_X6_day_31 rfl rfl ?_
  refine s_getR (pc := 32) (k := 4) cl_6 d_X6_day_32 g1 (by decide) w_200 (rt_obj _) ?_
  obtain ⟨a12, ea12, h⟩ := bd_1 h
  refine s_topR ea12 ?_
  obtain ⟨g13, h⟩ := gd_1 h
  refine s_getI (pc := 35) (k := 2) cl_4 d_X6_day_35 g13 (by decide) w_99 rfl ?_
  obtain rfl := Option.some.inj h
  exact s_iret (pc := 38) d_X6_day_38 rfl
/-! StripsOfFour.enter -/
abbrev c_X6_enter : Cf := (prog_1_method_12_code, 3, "StripsOfFour", "enter", (some .int), { frames := 4, cells := 0, slots := 0, locals := 132 })
theorem d_X6_enter_0 : decode prog_1_method_12_code 0 = .ok (.aload_n 0, 1) := by decide +kernel
theorem d_X6_enter_1 : decode prog_1_method_12_code 1 = .ok (.getfield 20, 3) := by decide +kernel
theorem d_X6_enter_4 : decode prog_1_method_12_code 4 = .ok (.iload_n 1, 1) := by decide +kernel
theorem d_X6_enter_5 : decode prog_1_method_12_code 5 = .ok (.invokevirtual 122, 3) := by decide +kernel
theorem d_X6_enter_8 : decode prog_1_method_12_code 8 = .ok (.ifCond .eq 14, 3) := by decide +kernel
theorem d_X6_enter_11 : decode prog_1_method_12_code 11 = .ok (.aload_n 0, 1) := by decide +kernel
theorem d_X6_enter_12 : decode prog_1_method_12_code 12 = .ok (.getfield 20, 3) := by decide +kernel
theorem d_X6_enter_15 : decode prog_1_method_12_code 15 = .ok (.iload_n 2, 1) := by decide +kernel
theorem d_X6_enter_16 : decode prog_1_method_12_code 16 = .ok (.invokevirtual 101, 3) := by decide +kernel
theorem d_X6_enter_19 : decode prog_1_method_12_code 19 = .ok (.ifCond .ne 5, 3) := by decide +kernel
theorem d_X6_enter_22 : decode prog_1_method_12_code 22 = .ok (.iconst (-1), 1) := by decide +kernel
theorem d_X6_enter_23 : decode prog_1_method_12_code 23 = .ok (.ireturn, 1) := by decide +kernel
theorem d_X6_enter_24 : decode prog_1_method_12_code 24 = .ok (.aload_n 0, 1) := by decide +kernel
theorem d_X6_enter_25 : decode prog_1_method_12_code 25 = .ok (.getfield 30, 3) := by decide +kernel
theorem d_X6_enter_28 : decode prog_1_method_12_code 28 = .ok (.iload_n 1, 1) := by decide +kernel
theorem d_X6_enter_29 : decode prog_1_method_12_code 29 = .ok (.invokevirtual 128, 3) := by decide +kernel
theorem d_X6_enter_32 : decode prog_1_method_12_code 32 = .ok (.bipush (-9), 2) := by decide +kernel
theorem d_X6_enter_34 : decode prog_1_method_12_code 34 = .ok (.if_icmp .ne 22, 3) := by decide +kernel
theorem d_X6_enter_37 : decode prog_1_method_12_code 37 = .ok (.aload_n 0, 1) := by decide +kernel
theorem d_X6_enter_38 : decode prog_1_method_12_code 38 = .ok (.getfield 30, 3) := by decide +kernel
theorem d_X6_enter_41 : decode prog_1_method_12_code 41 = .ok (.iload_n 1, 1) := by decide +kernel
theorem d_X6_enter_42 : decode prog_1_method_12_code 42 = .ok (.iload_n 2, 1) := by decide +kernel
theorem d_X6_enter_43 : decode prog_1_method_12_code 43 = .ok (.aload_n 0, 1) := by decide +kernel
theorem d_X6_enter_44 : decode prog_1_method_12_code 44 = .ok (.getfield 20, 3) := by decide +kernel
theorem d_X6_enter_47 : decode prog_1_method_12_code 47 = .ok (.getfield 79, 3) := by decide +kernel
theorem d_X6_enter_50 : decode prog_1_method_12_code 50 = .ok (.invokevirtual 165, 3) := by decide +kernel
theorem d_X6_enter_53 : decode prog_1_method_12_code 53 = .ok (.ifCond .eq 6, 3) := by decide +kernel
theorem d_X6_enter_56 : decode prog_1_method_12_code 56 = .ok (.bipush (-3), 2) := by decide +kernel
theorem d_X6_enter_58 : decode prog_1_method_12_code 58 = .ok (.ireturn, 1) := by decide +kernel
theorem d_X6_enter_59 : decode prog_1_method_12_code 59 = .ok (.aload_n 0, 1) := by decide +kernel
theorem d_X6_enter_60 : decode prog_1_method_12_code 60 = .ok (.getfield 30, 3) := by decide +kernel
theorem d_X6_enter_63 : decode prog_1_method_12_code 63 = .ok (.iload_n 2, 1) := by decide +kernel
theorem d_X6_enter_64 : decode prog_1_method_12_code 64 = .ok (.invokevirtual 112, 3) := by decide +kernel
theorem d_X6_enter_67 : decode prog_1_method_12_code 67 = .ok (.invokestatic 169, 3) := by decide +kernel
theorem d_X6_enter_70 : decode prog_1_method_12_code 70 = .ok (.iconst 4, 1) := by decide +kernel
theorem d_X6_enter_71 : decode prog_1_method_12_code 71 = .ok (.if_icmp .lt 6, 3) := by decide +kernel
theorem d_X6_enter_74 : decode prog_1_method_12_code 74 = .ok (.bipush (-4), 2) := by decide +kernel
theorem d_X6_enter_76 : decode prog_1_method_12_code 76 = .ok (.ireturn, 1) := by decide +kernel
theorem d_X6_enter_77 : decode prog_1_method_12_code 77 = .ok (.aload_n 0, 1) := by decide +kernel
theorem d_X6_enter_78 : decode prog_1_method_12_code 78 = .ok (.getfield 37, 3) := by decide +kernel
theorem d_X6_enter_81 : decode prog_1_method_12_code 81 = .ok (.aload_n 0, 1) := by decide +kernel
theorem d_X6_enter_82 : decode prog_1_method_12_code 82 = .ok (.getfield 30, 3) := by decide +kernel
theorem d_X6_enter_85 : decode prog_1_method_12_code 85 = .ok (.invokevirtual 174, 3) := by decide +kernel
theorem d_X6_enter_88 : decode prog_1_method_12_code 88 = .ok (.aload_n 0, 1) := by decide +kernel
theorem d_X6_enter_89 : decode prog_1_method_12_code 89 = .ok (.getfield 30, 3) := by decide +kernel
theorem d_X6_enter_92 : decode prog_1_method_12_code 92 = .ok (.iload_n 1, 1) := by decide +kernel
theorem d_X6_enter_93 : decode prog_1_method_12_code 93 = .ok (.iload_n 2, 1) := by decide +kernel
theorem d_X6_enter_94 : decode prog_1_method_12_code 94 = .ok (.invokevirtual 178, 3) := by decide +kernel
theorem d_X6_enter_97 : decode prog_1_method_12_code 97 = .ok (.aload_n 0, 1) := by decide +kernel
theorem d_X6_enter_98 : decode prog_1_method_12_code 98 = .ok (.getfield 30, 3) := by decide +kernel
theorem d_X6_enter_101 : decode prog_1_method_12_code 101 = .ok (.iload_n 2, 1) := by decide +kernel
theorem d_X6_enter_102 : decode prog_1_method_12_code 102 = .ok (.invokevirtual 112, 3) := by decide +kernel
theorem d_X6_enter_105 : decode prog_1_method_12_code 105 = .ok (.invokestatic 169, 3) := by decide +kernel
theorem d_X6_enter_108 : decode prog_1_method_12_code 108 = .ok (.ireturn, 1) := by decide +kernel
def m_X6_enter (sh : Sh) (v0 : Nat) (v1 : Int32) (v2 : Int32) (μ : Mu) : Option (Int32 × Mu) :=
  gd (iz sh 6 v0) <|
  bd (gR μ v0 2) fun a2 =>
  gd (iz sh 2 a2) <|
  ca2 (m_X2_hasPerson sh a2 v1 μ) fun r4 μ5 =>
  if r4 = 0 then
    some ((-1), μ5)
  else
    bd (gR μ5 v0 2) fun a7 =>
    gd (iz sh 2 a7) <|
    ca2 (m_X2_hasBooth sh a7 v2 μ5) fun r9 μ10 =>
    if r9 = 0 then
      some ((-1), μ10)
    else
      bd (gR μ10 v0 4) fun a12 =>
      gd (iz sh 4 a12) <|
      ca2 (m_X4_placeOf sh a12 v1 μ10) fun r14 μ15 =>
      if r14 = (-9) then
        bd (gR μ15 v0 4) fun a17 =>
        bd (gR μ15 v0 2) fun a18 =>
        gd (iz sh 2 a18) <|
        gd (iz sh 4 a17) <|
        ca2 (m_X4_comesTooSoon sh a17 v1 v2 (gI μ15 a18 0) μ15) fun r21 μ22 =>
        if r21 = 0 then
          bd (gR μ22 v0 4) fun a24 =>
          gd (iz sh 4 a24) <|
          ca2 (m_X4_whoIsIn sh a24 v2 μ22) fun r26 μ27 =>
          ca2 (m_J6_bitCount_0f7a4 sh r26 μ27) fun r28 μ29 =>
          if r28 < 4 then
            bd (gR μ29 v0 5) fun a31 =>
            bd (gR μ29 v0 4) fun a32 =>
            gd (iz sh 1 a31) <|
            ca (m_X1_remember sh a31 a32 μ29) fun μ34 =>
            bd (gR μ34 v0 4) fun a35 =>
            gd (iz sh 4 a35) <|
            ca (m_X4_stepIn sh a35 v1 v2 μ34) fun μ37 =>
            bd (gR μ37 v0 4) fun a38 =>
            gd (iz sh 4 a38) <|
            ca2 (m_X4_whoIsIn sh a38 v2 μ37) fun r40 μ41 =>
            ca2 (m_J6_bitCount_0f7a4 sh r40 μ41) fun r42 μ43 =>
            some (r42, μ43)
          else
            some ((-4), μ29)
        else
          some ((-3), μ22)
      else
        some ((-3), μ15)
set_option maxHeartbeats 4000000 in
set_option maxRecDepth 20000 in
theorem t_X6_enter {l : Launch} {G : Gl} {n : Nat} {sh : Sh} {x : Int32 × Mu} {v0 : Nat} {v1 : Int32} {v2 : Int32} {μ : Mu} (h : m_X6_enter sh v0 v1 v2 μ = some x) : Ct l G ⟨"StripsOfFour", "enter", "(II)I"⟩ prog_1_method_12_code 3 (some .int) { frames := 4, cells := 0, slots := 0, locals := 132 } n sh μ [vr v0, vi v1, vi v2] (some (.int x.1)) n sh x.2 := by
  refine Ct.of (lc := [some (vr v0), some (vi v1), some (vi v2)]) (by decide +kernel) (Nat.le_of_ble_eq_true rfl) rfl ?_
  show Sj l G (QI G n sh x) c_X6_enter n sh 0 0 μ 0 [some (vr v0), some (vi v1), some (vi v2)] []
  unfold m_X6_enter at h
  refine s_aload_n (pc := 0) d_X6_enter_0 rfl rfl ?_
  obtain ⟨g1, h⟩ := gd_1 h
  refine s_getR (pc := 1) (k := 2) cl_6 d_X6_enter_1 g1 (by decide) w_198 (rt_obj _) ?_
  obtain ⟨a2, ea2, h⟩ := bd_1 h
  refine s_topR ea2 ?_
  refine s_iload_n (pc := 4) d_X6_enter_4 rfl rfl ?_
  obtain ⟨g3, h⟩ := gd_1 h
  obtain ⟨r4, μ5, er4, h⟩ := ca2_1 h
  refine s_callV (pc := 5) (as := [vi v1]) (st := []) (vo := [vi r4]) (t_X2_hasPerson er4) cl_2 g3 d_X6_enter_5 y_X2_hasPerson w_317 w_260 w_261 ⟨by decide, by decide⟩ ⟨Nat.le_of_ble_eq_true rfl, Nat.le_of_ble_eq_true rfl⟩ (Nat.le_of_ble_eq_true rfl) rfl rfl rfl ?_
  refine s_as (kc' := 0) (js' := 0) (pc' := 8) (st' := [vi r4]) ⟨rfl, rfl, rfl, rfl⟩ ?_
  refine s_if_eq (pc := 8) (tgt := 22) d_X6_enter_8 (by decide) (fun c6 => ?_) (fun c6 => ?_)
  · have h := it_t c6 h
    refine s_iconst (pc := 22) (v := (-1)) d_X6_enter_22 (by decide) ?_
    obtain rfl := Option.some.inj h
    exact s_iret (pc := 23) d_X6_enter_23 rfl
  · have h := it_f c6 h
    refine s_aload_n (pc := 11) d_X6_enter_11 rfl rfl ?_
    refine s_getR (pc := 12) (k := 2) cl_6 d_X6_enter_12 g1 (by decide) w_198 (rt_obj _) ?_
    obtain ⟨a7, ea7, h⟩ := bd_1 h
    refine s_topR ea7 ?_
    refine s_iload_n (pc := 15) d_X6_enter_15 rfl rfl ?_
    obtain ⟨g8, h⟩ := gd_1 h
    obtain ⟨r9, μ10, er9, h⟩ := ca2_1 h
    refine s_callV (pc := 16) (as := [vi v2]) (st := []) (vo := [vi r9]) (t_X2_hasBooth er9) cl_2 g8 d_X6_enter_16 y_X2_hasBooth w_284 w_256 w_257 ⟨by decide, by decide⟩ ⟨Nat.le_of_ble_eq_true rfl, Nat.le_of_ble_eq_true rfl⟩ (Nat.le_of_ble_eq_true rfl) rfl rfl rfl ?_
    refine s_as (kc' := 0) (js' := 0) (pc' := 19) (st' := [vi r9]) ⟨rfl, rfl, rfl, rfl⟩ ?_
    refine s_if_ne (pc := 19) (tgt := 24) d_X6_enter_19 (by decide) (fun c11 => ?_) (fun c11 => ?_)
    · have h := it_f c11 h
      refine s_aload_n (pc := 24) d_X6_enter_24 rfl rfl ?_
      refine s_getR (pc := 25) (k := 4) cl_6 d_X6_enter_25 g1 (by decide) w_200 (rt_obj _) ?_
      obtain ⟨a12, ea12, h⟩ := bd_1 h
      refine s_topR ea12 ?_
      refine s_iload_n (pc := 28) d_X6_enter_28 rfl rfl ?_
      obtain ⟨g13, h⟩ := gd_1 h
      obtain ⟨r14, μ15, er14, h⟩ := ca2_1 h
      refine s_callV (pc := 29) (as := [vi v1]) (st := []) (vo := [vi r14]) (t_X4_placeOf er14) cl_4 g13 d_X6_enter_29 y_X4_placeOf w_322 w_323 w_324 ⟨by decide, by decide⟩ ⟨Nat.le_of_ble_eq_true rfl, Nat.le_of_ble_eq_true rfl⟩ (Nat.le_of_ble_eq_true rfl) rfl rfl rfl ?_
      refine s_as (kc' := 0) (js' := 0) (pc' := 32) (st' := [vi r14]) ⟨rfl, rfl, rfl, rfl⟩ ?_
      refine s_bipush (pc := 32) (v := (-9)) d_X6_enter_32 (by decide) ?_
      refine s_icmp_ne (pc := 34) (tgt := 56) d_X6_enter_34 (by decide) (fun c16 => ?_) (fun c16 => ?_)
      · have h := it_f c16 h
        refine s_bipush (pc := 56) (v := (-3)) d_X6_enter_56 (by decide) ?_
        obtain rfl := Option.some.inj h
        exact s_iret (pc := 58) d_X6_enter_58 rfl
      · have h := it_t c16 h
        refine s_aload_n (pc := 37) d_X6_enter_37 rfl rfl ?_
        refine s_getR (pc := 38) (k := 4) cl_6 d_X6_enter_38 g1 (by decide) w_200 (rt_obj _) ?_
        obtain ⟨a17, ea17, h⟩ := bd_1 h
        refine s_topR ea17 ?_
        refine s_iload_n (pc := 41) d_X6_enter_41 rfl rfl ?_
        refine s_iload_n (pc := 42) d_X6_enter_42 rfl rfl ?_
        refine s_aload_n (pc := 43) d_X6_enter_43 rfl rfl ?_
        refine s_getR (pc := 44) (k := 2) cl_6 d_X6_enter_44 g1 (by decide) w_198 (rt_obj _) ?_
        obtain ⟨a18, ea18, h⟩ := bd_1 h
        refine s_topR ea18 ?_
        obtain ⟨g19, h⟩ := gd_1 h
        refine s_getI (pc := 47) (k := 0) cl_2 d_X6_enter_47 g19 (by decide) w_27 rfl ?_
        obtain ⟨g20, h⟩ := gd_1 h
        obtain ⟨r21, μ22, er21, h⟩ := ca2_1 h
        refine s_callV (pc := 50) (as := [vi v1, vi v2, vi (gI μ15 a18 0)]) (st := []) (vo := [vi r21]) (t_X4_comesTooSoon er21) cl_4 g20 d_X6_enter_50 y_X4_comesTooSoon w_366 w_367 w_368 ⟨by decide, by decide⟩ ⟨Nat.le_of_ble_eq_true rfl, Nat.le_of_ble_eq_true rfl⟩ (Nat.le_of_ble_eq_true rfl) rfl rfl rfl ?_
        refine s_as (kc' := 0) (js' := 0) (pc' := 53) (st' := [vi r21]) ⟨rfl, rfl, rfl, rfl⟩ ?_
        refine s_if_eq (pc := 53) (tgt := 59) d_X6_enter_53 (by decide) (fun c23 => ?_) (fun c23 => ?_)
        · have h := it_t c23 h
          refine s_aload_n (pc := 59) d_X6_enter_59 rfl rfl ?_
          refine s_getR (pc := 60) (k := 4) cl_6 d_X6_enter_60 g1 (by decide) w_200 (rt_obj _) ?_
          obtain ⟨a24, ea24, h⟩ := bd_1 h
          refine s_topR ea24 ?_
          refine s_iload_n (pc := 63) d_X6_enter_63 rfl rfl ?_
          obtain ⟨g25, h⟩ := gd_1 h
          obtain ⟨r26, μ27, er26, h⟩ := ca2_1 h
          refine s_callV (pc := 64) (as := [vi v2]) (st := []) (vo := [vi r26]) (t_X4_whoIsIn er26) cl_4 g25 d_X6_enter_64 y_X4_whoIsIn w_296 w_297 w_298 ⟨by decide, by decide⟩ ⟨Nat.le_of_ble_eq_true rfl, Nat.le_of_ble_eq_true rfl⟩ (Nat.le_of_ble_eq_true rfl) rfl rfl rfl ?_
          refine s_as (kc' := 0) (js' := 0) (pc' := 67) (st' := [vi r26]) ⟨rfl, rfl, rfl, rfl⟩ ?_
          obtain ⟨r28, μ29, er28, h⟩ := ca2_1 h
          refine s_callS (pc := 67) (as := [vi r26]) (st := []) (vo := [vi r28]) (t_J6_bitCount_0f7a4 er28) d_X6_enter_67 y_J6_bitCount_0f7a4 w_372 w_373 ⟨by decide, by decide⟩ ⟨Nat.le_of_ble_eq_true rfl, Nat.le_of_ble_eq_true rfl⟩ (Nat.le_of_ble_eq_true rfl) rfl rfl rfl ?_
          refine s_as (kc' := 0) (js' := 0) (pc' := 70) (st' := [vi r28]) ⟨rfl, rfl, rfl, rfl⟩ ?_
          refine s_iconst (pc := 70) (v := 4) d_X6_enter_70 (by decide) ?_
          refine s_icmp_lt (pc := 71) (tgt := 77) d_X6_enter_71 (by decide) (fun c30 => ?_) (fun c30 => ?_)
          · have h := it_t c30 h
            refine s_aload_n (pc := 77) d_X6_enter_77 rfl rfl ?_
            refine s_getR (pc := 78) (k := 5) cl_6 d_X6_enter_78 g1 (by decide) w_201 (rt_obj _) ?_
            obtain ⟨a31, ea31, h⟩ := bd_1 h
            refine s_topR ea31 ?_
            refine s_aload_n (pc := 81) d_X6_enter_81 rfl rfl ?_
            refine s_getR (pc := 82) (k := 4) cl_6 d_X6_enter_82 g1 (by decide) w_200 (rt_obj _) ?_
            obtain ⟨a32, ea32, h⟩ := bd_1 h
            refine s_topR ea32 ?_
            obtain ⟨g33, h⟩ := gd_1 h
            obtain ⟨μ34, eμ34, h⟩ := ca_1 h
            refine s_callV (pc := 85) (as := [vr a32]) (st := []) (vo := []) (t_X1_remember eμ34) cl_1 g33 d_X6_enter_85 y_X1_remember w_378 w_379 w_380 ⟨by decide, by decide⟩ ⟨Nat.le_of_ble_eq_true rfl, Nat.le_of_ble_eq_true rfl⟩ (Nat.le_of_ble_eq_true rfl) rfl rfl rfl ?_
            refine s_as (kc' := 0) (js' := 0) (pc' := 88) (st' := []) ⟨rfl, rfl, rfl, rfl⟩ ?_
            refine s_aload_n (pc := 88) d_X6_enter_88 rfl rfl ?_
            refine s_getR (pc := 89) (k := 4) cl_6 d_X6_enter_89 g1 (by decide) w_200 (rt_obj _) ?_
            obtain ⟨a35, ea35, h⟩ := bd_1 h
            refine s_topR ea35 ?_
            refine s_iload_n (pc := 92) d_X6_enter_92 rfl rfl ?_
            refine s_iload_n (pc := 93) d_X6_enter_93 rfl rfl ?_
            obtain ⟨g36, h⟩ := gd_1 h
            obtain ⟨μ37, eμ37, h⟩ := ca_1 h
            refine s_callV (pc := 94) (as := [vi v1, vi v2]) (st := []) (vo := []) (t_X4_stepIn eμ37) cl_4 g36 d_X6_enter_94 y_X4_stepIn w_395 w_396 w_397 ⟨by decide, by decide⟩ ⟨Nat.le_of_ble_eq_true rfl, Nat.le_of_ble_eq_true rfl⟩ (Nat.le_of_ble_eq_true rfl) rfl rfl rfl ?_
            refine s_as (kc' := 0) (js' := 0) (pc' := 97) (st' := []) ⟨rfl, rfl, rfl, rfl⟩ ?_
            refine s_aload_n (pc := 97) d_X6_enter_97 rfl rfl ?_
            refine s_getR (pc := 98) (k := 4) cl_6 d_X6_enter_98 g1 (by decide) w_200 (rt_obj _) ?_
            obtain ⟨a38, ea38, h⟩ := bd_1 h
            refine s_topR ea38 ?_
            refine s_iload_n (pc := 101) d_X6_enter_101 rfl rfl ?_
            obtain ⟨g39, h⟩ := gd_1 h
            obtain ⟨r40, μ41, er40, h⟩ := ca2_1 h
            refine s_callV (pc := 102) (as := [vi v2]) (st := []) (vo := [vi r40]) (t_X4_whoIsIn er40) cl_4 g39 d_X6_enter_102 y_X4_whoIsIn w_296 w_297 w_298 ⟨by decide, by decide⟩ ⟨Nat.le_of_ble_eq_true rfl, Nat.le_of_ble_eq_true rfl⟩ (Nat.le_of_ble_eq_true rfl) rfl rfl rfl ?_
            refine s_as (kc' := 0) (js' := 0) (pc' := 105) (st' := [vi r40]) ⟨rfl, rfl, rfl, rfl⟩ ?_
            obtain ⟨r42, μ43, er42, h⟩ := ca2_1 h
            refine s_callS (pc := 105) (as := [vi r40]) (st := []) (vo := [vi r42]) (t_J6_bitCount_0f7a4 er42) d_X6_enter_105 y_J6_bitCount_0f7a4 w_372 w_373 ⟨by decide, by decide⟩ ⟨Nat.le_of_ble_eq_true rfl, Nat.le_of_ble_eq_true rfl⟩ (Nat.le_of_ble_eq_true rfl) rfl rfl rfl ?_
            refine s_as (kc' := 0) (js' := 0) (pc' := 108) (st' := [vi r42]) ⟨rfl, rfl, rfl, rfl⟩ ?_
            obtain rfl := Option.some.inj h
            exact s_iret (pc := 108) d_X6_enter_108 rfl
          · have h := it_f c30 h
            refine s_bipush (pc := 74) (v := (-4)) d_X6_enter_74 (by decide) ?_
            obtain rfl := Option.some.inj h
            exact s_iret (pc := 76) d_X6_enter_76 rfl
        · have h := it_f c23 h
          refine s_bipush (pc := 56) (v := (-3)) d_X6_enter_56 (by decide) ?_
          obtain rfl := Option.some.inj h
          exact s_iret (pc := 58) d_X6_enter_58 rfl
    · have h := it_t c11 h
      refine s_iconst (pc := 22) (v := (-1)) d_X6_enter_22 (by decide) ?_
      obtain rfl := Option.some.inj h
      exact s_iret (pc := 23) d_X6_enter_23 rfl
/-! StripsOfFour.eyes -/
abbrev c_X6_eyes : Cf := (prog_1_method_28_code, 3, "StripsOfFour", "eyes", (some .int), { frames := 2, cells := 0, slots := 0, locals := 47 })
theorem d_X6_eyes_0 : decode prog_1_method_28_code 0 = .ok (.aload_n 0, 1) := by decide +kernel
theorem d_X6_eyes_1 : decode prog_1_method_28_code 1 = .ok (.getfield 20, 3) := by decide +kernel
theorem d_X6_eyes_4 : decode prog_1_method_28_code 4 = .ok (.iload_n 1, 1) := by decide +kernel
theorem d_X6_eyes_5 : decode prog_1_method_28_code 5 = .ok (.invokevirtual 122, 3) := by decide +kernel
theorem d_X6_eyes_8 : decode prog_1_method_28_code 8 = .ok (.ifCond .ne 5, 3) := by decide +kernel
theorem d_X6_eyes_11 : decode prog_1_method_28_code 11 = .ok (.iconst (-1), 1) := by decide +kernel
theorem d_X6_eyes_12 : decode prog_1_method_28_code 12 = .ok (.ireturn, 1) := by decide +kernel
theorem d_X6_eyes_13 : decode prog_1_method_28_code 13 = .ok (.iload_n 2, 1) := by decide +kernel
theorem d_X6_eyes_14 : decode prog_1_method_28_code 14 = .ok (.lookupswitch 46 #[(0, 26), (1, 36)], 26) := by decide +kernel
theorem d_X6_eyes_40 : decode prog_1_method_28_code 40 = .ok (.aload_n 0, 1) := by decide +kernel
theorem d_X6_eyes_41 : decode prog_1_method_28_code 41 = .ok (.getfield 30, 3) := by decide +kernel
theorem d_X6_eyes_44 : decode prog_1_method_28_code 44 = .ok (.iload_n 1, 1) := by decide +kernel
theorem d_X6_eyes_45 : decode prog_1_method_28_code 45 = .ok (.iconst 1, 1) := by decide +kernel
theorem d_X6_eyes_46 : decode prog_1_method_28_code 46 = .ok (.invokevirtual 252, 3) := by decide +kernel
theorem d_X6_eyes_49 : decode prog_1_method_28_code 49 = .ok (.ireturn, 1) := by decide +kernel
theorem d_X6_eyes_50 : decode prog_1_method_28_code 50 = .ok (.aload_n 0, 1) := by decide +kernel
theorem d_X6_eyes_51 : decode prog_1_method_28_code 51 = .ok (.getfield 30, 3) := by decide +kernel
theorem d_X6_eyes_54 : decode prog_1_method_28_code 54 = .ok (.iload_n 1, 1) := by decide +kernel
theorem d_X6_eyes_55 : decode prog_1_method_28_code 55 = .ok (.iconst 3, 1) := by decide +kernel
theorem d_X6_eyes_56 : decode prog_1_method_28_code 56 = .ok (.invokevirtual 252, 3) := by decide +kernel
theorem d_X6_eyes_59 : decode prog_1_method_28_code 59 = .ok (.ireturn, 1) := by decide +kernel
theorem d_X6_eyes_60 : decode prog_1_method_28_code 60 = .ok (.bipush (-2), 2) := by decide +kernel
theorem d_X6_eyes_62 : decode prog_1_method_28_code 62 = .ok (.ireturn, 1) := by decide +kernel
def m_X6_eyes (sh : Sh) (v0 : Nat) (v1 : Int32) (v2 : Int32) (μ : Mu) : Option (Int32 × Mu) :=
  gd (iz sh 6 v0) <|
  bd (gR μ v0 2) fun a2 =>
  gd (iz sh 2 a2) <|
  ca2 (m_X2_hasPerson sh a2 v1 μ) fun r4 μ5 =>
  if r4 = 0 then
    some ((-1), μ5)
  else
    if v2 = 0 then
      bd (gR μ5 v0 4) fun a8 =>
      gd (iz sh 4 a8) <|
      ca2 (m_X4_looksWith sh a8 v1 1 μ5) fun r10 μ11 =>
      some (r10, μ11)
    else
      if v2 = 1 then
        bd (gR μ5 v0 4) fun a13 =>
        gd (iz sh 4 a13) <|
        ca2 (m_X4_looksWith sh a13 v1 3 μ5) fun r15 μ16 =>
        some (r15, μ16)
      else
        some ((-2), μ5)
set_option maxHeartbeats 4000000 in
set_option maxRecDepth 20000 in
theorem t_X6_eyes {l : Launch} {G : Gl} {n : Nat} {sh : Sh} {x : Int32 × Mu} {v0 : Nat} {v1 : Int32} {v2 : Int32} {μ : Mu} (h : m_X6_eyes sh v0 v1 v2 μ = some x) : Ct l G ⟨"StripsOfFour", "eyes", "(II)I"⟩ prog_1_method_28_code 3 (some .int) { frames := 2, cells := 0, slots := 0, locals := 47 } n sh μ [vr v0, vi v1, vi v2] (some (.int x.1)) n sh x.2 := by
  refine Ct.of (lc := [some (vr v0), some (vi v1), some (vi v2)]) (by decide +kernel) (Nat.le_of_ble_eq_true rfl) rfl ?_
  show Sj l G (QI G n sh x) c_X6_eyes n sh 0 0 μ 0 [some (vr v0), some (vi v1), some (vi v2)] []
  unfold m_X6_eyes at h
  refine s_aload_n (pc := 0) d_X6_eyes_0 rfl rfl ?_
  obtain ⟨g1, h⟩ := gd_1 h
  refine s_getR (pc := 1) (k := 2) cl_6 d_X6_eyes_1 g1 (by decide) w_198 (rt_obj _) ?_
  obtain ⟨a2, ea2, h⟩ := bd_1 h
  refine s_topR ea2 ?_
  refine s_iload_n (pc := 4) d_X6_eyes_4 rfl rfl ?_
  obtain ⟨g3, h⟩ := gd_1 h
  obtain ⟨r4, μ5, er4, h⟩ := ca2_1 h
  refine s_callV (pc := 5) (as := [vi v1]) (st := []) (vo := [vi r4]) (t_X2_hasPerson er4) cl_2 g3 d_X6_eyes_5 y_X2_hasPerson w_317 w_260 w_261 ⟨by decide, by decide⟩ ⟨Nat.le_of_ble_eq_true rfl, Nat.le_of_ble_eq_true rfl⟩ (Nat.le_of_ble_eq_true rfl) rfl rfl rfl ?_
  refine s_as (kc' := 0) (js' := 0) (pc' := 8) (st' := [vi r4]) ⟨rfl, rfl, rfl, rfl⟩ ?_
  refine s_if_ne (pc := 8) (tgt := 13) d_X6_eyes_8 (by decide) (fun c6 => ?_) (fun c6 => ?_)
  · have h := it_f c6 h
    refine s_iload_n (pc := 13) d_X6_eyes_13 rfl rfl ?_
    by_cases c7 : v2 = 0
    · have h := it_t c7 h
      refine s_lk (pc := 14) (off := 26) (tgt := 40) 0 c7 d_X6_eyes_14 (by decide) (by decide) (by decide) ?_
      refine s_aload_n (pc := 40) d_X6_eyes_40 rfl rfl ?_
      refine s_getR (pc := 41) (k := 4) cl_6 d_X6_eyes_41 g1 (by decide) w_200 (rt_obj _) ?_
      obtain ⟨a8, ea8, h⟩ := bd_1 h
      refine s_topR ea8 ?_
      refine s_iload_n (pc := 44) d_X6_eyes_44 rfl rfl ?_
      refine s_iconst (pc := 45) (v := 1) d_X6_eyes_45 (by decide) ?_
      obtain ⟨g9, h⟩ := gd_1 h
      obtain ⟨r10, μ11, er10, h⟩ := ca2_1 h
      refine s_callV (pc := 46) (as := [vi v1, vi 1]) (st := []) (vo := [vi r10]) (t_X4_looksWith er10) cl_4 g9 d_X6_eyes_46 y_X4_looksWith w_613 w_614 w_615 ⟨by decide, by decide⟩ ⟨Nat.le_of_ble_eq_true rfl, Nat.le_of_ble_eq_true rfl⟩ (Nat.le_of_ble_eq_true rfl) rfl rfl rfl ?_
      refine s_as (kc' := 0) (js' := 0) (pc' := 49) (st' := [vi r10]) ⟨rfl, rfl, rfl, rfl⟩ ?_
      obtain rfl := Option.some.inj h
      exact s_iret (pc := 49) d_X6_eyes_49 rfl
    have h := it_f c7 h
    by_cases c12 : v2 = 1
    · have h := it_t c12 h
      refine s_lk (pc := 14) (off := 36) (tgt := 50) 1 c12 d_X6_eyes_14 (by decide) (by decide) (by decide) ?_
      refine s_aload_n (pc := 50) d_X6_eyes_50 rfl rfl ?_
      refine s_getR (pc := 51) (k := 4) cl_6 d_X6_eyes_51 g1 (by decide) w_200 (rt_obj _) ?_
      obtain ⟨a13, ea13, h⟩ := bd_1 h
      refine s_topR ea13 ?_
      refine s_iload_n (pc := 54) d_X6_eyes_54 rfl rfl ?_
      refine s_iconst (pc := 55) (v := 3) d_X6_eyes_55 (by decide) ?_
      obtain ⟨g14, h⟩ := gd_1 h
      obtain ⟨r15, μ16, er15, h⟩ := ca2_1 h
      refine s_callV (pc := 56) (as := [vi v1, vi 3]) (st := []) (vo := [vi r15]) (t_X4_looksWith er15) cl_4 g14 d_X6_eyes_56 y_X4_looksWith w_613 w_614 w_615 ⟨by decide, by decide⟩ ⟨Nat.le_of_ble_eq_true rfl, Nat.le_of_ble_eq_true rfl⟩ (Nat.le_of_ble_eq_true rfl) rfl rfl rfl ?_
      refine s_as (kc' := 0) (js' := 0) (pc' := 59) (st' := [vi r15]) ⟨rfl, rfl, rfl, rfl⟩ ?_
      obtain rfl := Option.some.inj h
      exact s_iret (pc := 59) d_X6_eyes_59 rfl
    have h := it_f c12 h
    refine s_lookup (pc := 14) (off := 46) (tgt := 60) d_X6_eyes_14 (by decide) (by rw [lv_osw c7 (by decide)]; rw [lv_osw c12 (by decide)]; rfl) (by decide) ?_
    refine s_bipush (pc := 60) (v := (-2)) d_X6_eyes_60 (by decide) ?_
    obtain rfl := Option.some.inj h
    exact s_iret (pc := 62) d_X6_eyes_62 rfl
  · have h := it_t c6 h
    refine s_iconst (pc := 11) (v := (-1)) d_X6_eyes_11 (by decide) ?_
    obtain rfl := Option.some.inj h
    exact s_iret (pc := 12) d_X6_eyes_12 rfl
/-! StripsOfFour.fair -/
abbrev c_X6_fair : Cf := (prog_1_method_5_code, 3, "StripsOfFour", "fair", (some .int), { frames := 4, cells := 0, slots := 0, locals := 90 })
theorem d_X6_fair_0 : decode prog_1_method_5_code 0 = .ok (.aload_n 0, 1) := by decide +kernel
theorem d_X6_fair_1 : decode prog_1_method_5_code 1 = .ok (.getfield 24, 3) := by decide +kernel
theorem d_X6_fair_4 : decode prog_1_method_5_code 4 = .ok (.aload_n 0, 1) := by decide +kernel
theorem d_X6_fair_5 : decode prog_1_method_5_code 5 = .ok (.getfield 9, 3) := by decide +kernel
theorem d_X6_fair_8 : decode prog_1_method_5_code 8 = .ok (.aload_n 0, 1) := by decide +kernel
theorem d_X6_fair_9 : decode prog_1_method_5_code 9 = .ok (.getfield 13, 3) := by decide +kernel
theorem d_X6_fair_12 : decode prog_1_method_5_code 12 = .ok (.invokevirtual 63, 3) := by decide +kernel
theorem d_X6_fair_15 : decode prog_1_method_5_code 15 = .ok (.bipush (-9), 2) := by decide +kernel
theorem d_X6_fair_17 : decode prog_1_method_5_code 17 = .ok (.if_icmp .eq 6, 3) := by decide +kernel
theorem d_X6_fair_20 : decode prog_1_method_5_code 20 = .ok (.bipush (-3), 2) := by decide +kernel
theorem d_X6_fair_22 : decode prog_1_method_5_code 22 = .ok (.ireturn, 1) := by decide +kernel
theorem d_X6_fair_23 : decode prog_1_method_5_code 23 = .ok (.aload_n 0, 1) := by decide +kernel
theorem d_X6_fair_24 : decode prog_1_method_5_code 24 = .ok (.getfield 20, 3) := by decide +kernel
theorem d_X6_fair_27 : decode prog_1_method_5_code 27 = .ok (.astore_n 1, 1) := by decide +kernel
theorem d_X6_fair_28 : decode prog_1_method_5_code 28 = .ok (.aload_n 0, 1) := by decide +kernel
theorem d_X6_fair_29 : decode prog_1_method_5_code 29 = .ok (.aload_n 0, 1) := by decide +kernel
theorem d_X6_fair_30 : decode prog_1_method_5_code 30 = .ok (.getfield 24, 3) := by decide +kernel
theorem d_X6_fair_33 : decode prog_1_method_5_code 33 = .ok (.putfield 20, 3) := by decide +kernel
theorem d_X6_fair_36 : decode prog_1_method_5_code 36 = .ok (.aload_n 0, 1) := by decide +kernel
theorem d_X6_fair_37 : decode prog_1_method_5_code 37 = .ok (.aload_n 1, 1) := by decide +kernel
theorem d_X6_fair_38 : decode prog_1_method_5_code 38 = .ok (.putfield 24, 3) := by decide +kernel
theorem d_X6_fair_41 : decode prog_1_method_5_code 41 = .ok (.aload_n 0, 1) := by decide +kernel
theorem d_X6_fair_42 : decode prog_1_method_5_code 42 = .ok (.getfield 30, 3) := by decide +kernel
theorem d_X6_fair_45 : decode prog_1_method_5_code 45 = .ok (.invokevirtual 67, 3) := by decide +kernel
theorem d_X6_fair_48 : decode prog_1_method_5_code 48 = .ok (.aload_n 0, 1) := by decide +kernel
theorem d_X6_fair_49 : decode prog_1_method_5_code 49 = .ok (.getfield 37, 3) := by decide +kernel
theorem d_X6_fair_52 : decode prog_1_method_5_code 52 = .ok (.invokevirtual 70, 3) := by decide +kernel
theorem d_X6_fair_55 : decode prog_1_method_5_code 55 = .ok (.iconst 0, 1) := by decide +kernel
theorem d_X6_fair_56 : decode prog_1_method_5_code 56 = .ok (.istore_n 2, 1) := by decide +kernel
theorem d_X6_fair_57 : decode prog_1_method_5_code 57 = .ok (.iload_n 2, 1) := by decide +kernel
theorem d_X6_fair_58 : decode prog_1_method_5_code 58 = .ok (.iconst 2, 1) := by decide +kernel
theorem d_X6_fair_59 : decode prog_1_method_5_code 59 = .ok (.if_icmp .ge 16, 3) := by decide +kernel
theorem d_X6_fair_62 : decode prog_1_method_5_code 62 = .ok (.aload_n 0, 1) := by decide +kernel
theorem d_X6_fair_63 : decode prog_1_method_5_code 63 = .ok (.getfield 45, 3) := by decide +kernel
theorem d_X6_fair_66 : decode prog_1_method_5_code 66 = .ok (.iload_n 2, 1) := by decide +kernel
theorem d_X6_fair_67 : decode prog_1_method_5_code 67 = .ok (.iconst 0, 1) := by decide +kernel
theorem d_X6_fair_68 : decode prog_1_method_5_code 68 = .ok (.bastore, 1) := by decide +kernel
theorem d_X6_fair_69 : decode prog_1_method_5_code 69 = .ok (.iinc 2 1, 3) := by decide +kernel
theorem d_X6_fair_72 : decode prog_1_method_5_code 72 = .ok (.goto (-15), 3) := by decide +kernel
theorem d_X6_fair_75 : decode prog_1_method_5_code 75 = .ok (.bipush 10, 2) := by decide +kernel
theorem d_X6_fair_77 : decode prog_1_method_5_code 77 = .ok (.aload_n 0, 1) := by decide +kernel
theorem d_X6_fair_78 : decode prog_1_method_5_code 78 = .ok (.getfield 20, 3) := by decide +kernel
theorem d_X6_fair_81 : decode prog_1_method_5_code 81 = .ok (.getfield 73, 3) := by decide +kernel
theorem d_X6_fair_84 : decode prog_1_method_5_code 84 = .ok (.imul, 1) := by decide +kernel
theorem d_X6_fair_85 : decode prog_1_method_5_code 85 = .ok (.aload_n 0, 1) := by decide +kernel
theorem d_X6_fair_86 : decode prog_1_method_5_code 86 = .ok (.getfield 20, 3) := by decide +kernel
theorem d_X6_fair_89 : decode prog_1_method_5_code 89 = .ok (.getfield 76, 3) := by decide +kernel
theorem d_X6_fair_92 : decode prog_1_method_5_code 92 = .ok (.iadd, 1) := by decide +kernel
theorem d_X6_fair_93 : decode prog_1_method_5_code 93 = .ok (.ireturn, 1) := by decide +kernel
def m_X6_fair_b75 (sh : Sh) (v0 : Nat) (μ : Mu) : Option (Int32 × Mu) :=
  gd (iz sh 6 v0) <|
  bd (gR μ v0 2) fun a25 =>
  gd (iz sh 2 a25) <|
  bd (gR μ v0 2) fun a27 =>
  gd (iz sh 2 a27) <|
  some ((10 * (gI μ a25 1)) + (gI μ a27 2), μ)
def m_X6_fair_b57 (sh : Sh) (k57 : Int32 → Mu → Option (Int32 × Mu)) (v0 : Nat) (v2 : Int32) (μ : Mu) : Option (Int32 × Mu) :=
  if 2 ≤ v2 then
    m_X6_fair_b75 sh v0 μ
  else
    gd (iz sh 6 v0) <|
    bd (gR μ v0 7) fun a20 =>
    gd (ix sh 10 a20 v2) <|
    bd (sI μ a20 v2.toNatClampNeg (0 &&& 1)) fun μ22 =>
    bd (v2 + 1) fun w23 =>
    k57 w23 μ22
def m_X6_fair_h57 (sh : Sh) (v0 : Nat) : Nat → Int32 → Mu → Option (Int32 × Mu)
  | 0 => fun _ _ => none
  | f + 1 => fun v2 μ => m_X6_fair_b57 sh (m_X6_fair_h57 sh v0 f) v0 v2 μ
def m_X6_fair (sh : Sh) (v0 : Nat) (μ : Mu) : Option (Int32 × Mu) :=
  gd (iz sh 6 v0) <|
  bd (gR μ v0 3) fun a2 =>
  bd (gR μ v0 0) fun a3 =>
  gd (iz sh 2 a2) <|
  ca2 (m_X2_readFrom sh a2 a3 (gI μ v0 1) μ) fun r5 μ6 =>
  if r5 = (-9) then
    bd (gR μ6 v0 2) fun a8 =>
    bd (gR μ6 v0 3) fun a9 =>
    bd (sR μ6 v0 2 a9) fun μ10 =>
    bd (sR μ10 v0 3 a8) fun μ11 =>
    bd (gR μ11 v0 4) fun a12 =>
    gd (iz sh 4 a12) <|
    ca (m_X4_startAnew sh a12 μ11) fun μ14 =>
    bd (gR μ14 v0 5) fun a15 =>
    gd (iz sh 1 a15) <|
    ca (m_X1_forgetAll sh a15 μ14) fun μ17 =>
    m_X6_fair_h57 sh v0 FU 0 μ17
  else
    some ((-3), μ6)
set_option maxHeartbeats 4000000 in
set_option maxRecDepth 20000 in
theorem t_X6_fair_b75 {l : Launch} {G : Gl} {n : Nat} {sh : Sh} {x : Int32 × Mu} {v0 : Nat} {μ : Mu} (h : m_X6_fair_b75 sh v0 μ = some x) : Sj l G (QI G n sh x) c_X6_fair n sh 0 0 μ 75 [some (vr v0), none, none] [] := by
  unfold m_X6_fair_b75 at h
  refine s_bipush (pc := 75) (v := 10) d_X6_fair_75 (by decide) ?_
  refine s_aload_n (pc := 77) d_X6_fair_77 rfl rfl ?_
  obtain ⟨g24, h⟩ := gd_1 h
  refine s_getR (pc := 78) (k := 2) cl_6 d_X6_fair_78 g24 (by decide) w_198 (rt_obj _) ?_
  obtain ⟨a25, ea25, h⟩ := bd_1 h
  refine s_topR ea25 ?_
  obtain ⟨g26, h⟩ := gd_1 h
  refine s_getI (pc := 81) (k := 1) cl_2 d_X6_fair_81 g26 (by decide) w_29 rfl ?_
  refine s_imul (pc := 84) d_X6_fair_84 ?_
  refine s_aload_n (pc := 85) d_X6_fair_85 rfl rfl ?_
  refine s_getR (pc := 86) (k := 2) cl_6 d_X6_fair_86 g24 (by decide) w_198 (rt_obj _) ?_
  obtain ⟨a27, ea27, h⟩ := bd_1 h
  refine s_topR ea27 ?_
  obtain ⟨g28, h⟩ := gd_1 h
  refine s_getI (pc := 89) (k := 2) cl_2 d_X6_fair_89 g28 (by decide) w_31 rfl ?_
  refine s_iadd (pc := 92) d_X6_fair_92 ?_
  obtain rfl := Option.some.inj h
  exact s_iret (pc := 93) d_X6_fair_93 rfl
set_option maxHeartbeats 4000000 in
set_option maxRecDepth 20000 in
theorem t_X6_fair_b57 {l : Launch} {G : Gl} {n : Nat} {sh : Sh} {x : Int32 × Mu} {k57 : Int32 → Mu → Option (Int32 × Mu)} {v0 : Nat} {v2 : Int32} {μ : Mu} (hk57 : ∀ (v2 : Int32) (μ : Mu), k57 v2 μ = some x → Sj l G (QI G n sh x) c_X6_fair n sh 0 0 μ 57 [some (vr v0), none, some (vi v2)] []) (h : m_X6_fair_b57 sh k57 v0 v2 μ = some x) : Sj l G (QI G n sh x) c_X6_fair n sh 0 0 μ 57 [some (vr v0), none, some (vi v2)] [] := by
  unfold m_X6_fair_b57 at h
  refine s_iload_n (pc := 57) d_X6_fair_57 rfl rfl ?_
  refine s_iconst (pc := 58) (v := 2) d_X6_fair_58 (by decide) ?_
  refine s_icmp_ge (pc := 59) (tgt := 75) d_X6_fair_59 (by decide) (fun c18 => ?_) (fun c18 => ?_)
  · have h := it_t c18 h
    refine s_mask [true, true, false] rfl ?_
    exact t_X6_fair_b75 h
  · have h := it_f c18 h
    refine s_aload_n (pc := 62) d_X6_fair_62 rfl rfl ?_
    obtain ⟨g19, h⟩ := gd_1 h
    refine s_getR (pc := 63) (k := 7) cl_6 d_X6_fair_63 g19 (by decide) w_203 (rt_arr _) ?_
    obtain ⟨a20, ea20, h⟩ := bd_1 h
    refine s_topR ea20 ?_
    refine s_iload_n (pc := 66) d_X6_fair_66 rfl rfl ?_
    refine s_iconst (pc := 67) (v := 0) d_X6_fair_67 (by decide) ?_
    obtain ⟨g21, h⟩ := gd_1 h
    refine s_zast (pc := 68) d_X6_fair_68 g21 ?_
    obtain ⟨μ22, eμ22, h⟩ := bd_1 h
    refine s_mu eμ22 ?_
    obtain ⟨w23, ew23, h⟩ := bd_1 h
    refine s_iinc (pc := 69) (v := w23) (lc' := [some (vr v0), none, some (vi w23)]) d_X6_fair_69 rfl (by rw [ew23]; rfl) (by decide) rfl ?_
    refine s_goto (pc := 72) (tgt := 57) d_X6_fair_72 (by decide) ?_
    exact hk57 _ _ h
set_option maxHeartbeats 4000000 in
set_option maxRecDepth 20000 in
theorem t_X6_fair_h57 {l : Launch} {G : Gl} {n : Nat} {sh : Sh} {x : Int32 × Mu} {v0 : Nat} : ∀ (f : Nat) (v2 : Int32) (μ : Mu), m_X6_fair_h57 sh v0 f v2 μ = some x → Sj l G (QI G n sh x) c_X6_fair n sh 0 0 μ 57 [some (vr v0), none, some (vi v2)] [] := by
  intro f
  induction f with
  | zero =>
    intro v2 μ h
    cases h
  | succ f ih =>
    intro v2 μ h
    exact t_X6_fair_b57 ih h
set_option maxHeartbeats 4000000 in
set_option maxRecDepth 20000 in
theorem t_X6_fair {l : Launch} {G : Gl} {n : Nat} {sh : Sh} {x : Int32 × Mu} {v0 : Nat} {μ : Mu} (h : m_X6_fair sh v0 μ = some x) : Ct l G ⟨"StripsOfFour", "fair", "()I"⟩ prog_1_method_5_code 3 (some .int) { frames := 4, cells := 0, slots := 0, locals := 90 } n sh μ [vr v0] (some (.int x.1)) n sh x.2 := by
  refine Ct.of (lc := [some (vr v0), none, none]) (by decide +kernel) (Nat.le_of_ble_eq_true rfl) rfl ?_
  show Sj l G (QI G n sh x) c_X6_fair n sh 0 0 μ 0 [some (vr v0), none, none] []
  unfold m_X6_fair at h
  refine s_aload_n (pc := 0) d_X6_fair_0 rfl rfl ?_
  obtain ⟨g1, h⟩ := gd_1 h
  refine s_getR (pc := 1) (k := 3) cl_6 d_X6_fair_1 g1 (by decide) w_199 (rt_obj _) ?_
  obtain ⟨a2, ea2, h⟩ := bd_1 h
  refine s_topR ea2 ?_
  refine s_aload_n (pc := 4) d_X6_fair_4 rfl rfl ?_
  refine s_getR (pc := 5) (k := 0) cl_6 d_X6_fair_5 g1 (by decide) w_196 (rt_arr _) ?_
  obtain ⟨a3, ea3, h⟩ := bd_1 h
  refine s_topR ea3 ?_
  refine s_aload_n (pc := 8) d_X6_fair_8 rfl rfl ?_
  refine s_getI (pc := 9) (k := 1) cl_6 d_X6_fair_9 g1 (by decide) w_197 rfl ?_
  obtain ⟨g4, h⟩ := gd_1 h
  obtain ⟨r5, μ6, er5, h⟩ := ca2_1 h
  refine s_callV (pc := 12) (as := [vr a3, vi (gI μ v0 1)]) (st := []) (vo := [vi r5]) (t_X2_readFrom er5) cl_2 g4 d_X6_fair_12 y_X2_readFrom w_239 w_240 w_241 ⟨by decide, by decide⟩ ⟨Nat.le_of_ble_eq_true rfl, Nat.le_of_ble_eq_true rfl⟩ (Nat.le_of_ble_eq_true rfl) rfl rfl rfl ?_
  refine s_as (kc' := 0) (js' := 0) (pc' := 15) (st' := [vi r5]) ⟨rfl, rfl, rfl, rfl⟩ ?_
  refine s_bipush (pc := 15) (v := (-9)) d_X6_fair_15 (by decide) ?_
  refine s_icmp_eq (pc := 17) (tgt := 23) d_X6_fair_17 (by decide) (fun c7 => ?_) (fun c7 => ?_)
  · have h := it_t c7 h
    refine s_aload_n (pc := 23) d_X6_fair_23 rfl rfl ?_
    refine s_getR (pc := 24) (k := 2) cl_6 d_X6_fair_24 g1 (by decide) w_198 (rt_obj _) ?_
    obtain ⟨a8, ea8, h⟩ := bd_1 h
    refine s_topR ea8 ?_
    refine s_astore_n (pc := 27) (lc' := [some (vr v0), some (vr a8), none]) d_X6_fair_27 rfl (by decide) rfl ?_
    refine s_aload_n (pc := 28) d_X6_fair_28 rfl rfl ?_
    refine s_aload_n (pc := 29) d_X6_fair_29 rfl rfl ?_
    refine s_getR (pc := 30) (k := 3) cl_6 d_X6_fair_30 g1 (by decide) w_199 (rt_obj _) ?_
    obtain ⟨a9, ea9, h⟩ := bd_1 h
    refine s_topR ea9 ?_
    refine s_putR (pc := 33) (k := 2) cl_6 d_X6_fair_33 g1 (by decide) w_198 rfl (rt_obj _) ?_
    obtain ⟨μ10, eμ10, h⟩ := bd_1 h
    refine s_mu eμ10 ?_
    refine s_aload_n (pc := 36) d_X6_fair_36 rfl rfl ?_
    refine s_aload_n (pc := 37) d_X6_fair_37 rfl rfl ?_
    refine s_putR (pc := 38) (k := 3) cl_6 d_X6_fair_38 g1 (by decide) w_199 rfl (rt_obj _) ?_
    obtain ⟨μ11, eμ11, h⟩ := bd_1 h
    refine s_mu eμ11 ?_
    refine s_aload_n (pc := 41) d_X6_fair_41 rfl rfl ?_
    refine s_getR (pc := 42) (k := 4) cl_6 d_X6_fair_42 g1 (by decide) w_200 (rt_obj _) ?_
    obtain ⟨a12, ea12, h⟩ := bd_1 h
    refine s_topR ea12 ?_
    obtain ⟨g13, h⟩ := gd_1 h
    obtain ⟨μ14, eμ14, h⟩ := ca_1 h
    refine s_callV (pc := 45) (as := []) (st := []) (vo := []) (t_X4_startAnew eμ14) cl_4 g13 d_X6_fair_45 y_X4_startAnew w_267 w_87 w_88 ⟨by decide, by decide⟩ ⟨Nat.le_of_ble_eq_true rfl, Nat.le_of_ble_eq_true rfl⟩ (Nat.le_of_ble_eq_true rfl) rfl rfl rfl ?_
    refine s_as (kc' := 0) (js' := 0) (pc' := 48) (st' := []) ⟨rfl, rfl, rfl, rfl⟩ ?_
    refine s_aload_n (pc := 48) d_X6_fair_48 rfl rfl ?_
    refine s_getR (pc := 49) (k := 5) cl_6 d_X6_fair_49 g1 (by decide) w_201 (rt_obj _) ?_
    obtain ⟨a15, ea15, h⟩ := bd_1 h
    refine s_topR ea15 ?_
    obtain ⟨g16, h⟩ := gd_1 h
    obtain ⟨μ17, eμ17, h⟩ := ca_1 h
    refine s_callV (pc := 52) (as := []) (st := []) (vo := []) (t_X1_forgetAll eμ17) cl_1 g16 d_X6_fair_52 y_X1_forgetAll w_268 w_269 w_270 ⟨by decide, by decide⟩ ⟨Nat.le_of_ble_eq_true rfl, Nat.le_of_ble_eq_true rfl⟩ (Nat.le_of_ble_eq_true rfl) rfl rfl rfl ?_
    refine s_as (kc' := 0) (js' := 0) (pc' := 55) (st' := []) ⟨rfl, rfl, rfl, rfl⟩ ?_
    refine s_iconst (pc := 55) (v := 0) d_X6_fair_55 (by decide) ?_
    refine s_istore_n (pc := 56) (lc' := [some (vr v0), some (vr a8), some (vi 0)]) d_X6_fair_56 rfl (by decide) rfl ?_
    refine s_mask [true, false, true] rfl ?_
    exact t_X6_fair_h57 FU _ _ h
  · have h := it_f c7 h
    refine s_bipush (pc := 20) (v := (-3)) d_X6_fair_20 (by decide) ?_
    obtain rfl := Option.some.inj h
    exact s_iret (pc := 22) d_X6_fair_22 rfl
/-! StripsOfFour.fault -/
abbrev c_X6_fault : Cf := (prog_1_method_4_code, 1, "StripsOfFour", "fault", (some .int), { frames := 4, cells := 0, slots := 0, locals := 90 })
theorem d_X6_fault_0 : decode prog_1_method_4_code 0 = .ok (.aload_n 0, 1) := by decide +kernel
theorem d_X6_fault_1 : decode prog_1_method_4_code 1 = .ok (.getfield 24, 3) := by decide +kernel
theorem d_X6_fault_4 : decode prog_1_method_4_code 4 = .ok (.aload_n 0, 1) := by decide +kernel
theorem d_X6_fault_5 : decode prog_1_method_4_code 5 = .ok (.getfield 9, 3) := by decide +kernel
theorem d_X6_fault_8 : decode prog_1_method_4_code 8 = .ok (.aload_n 0, 1) := by decide +kernel
theorem d_X6_fault_9 : decode prog_1_method_4_code 9 = .ok (.getfield 13, 3) := by decide +kernel
theorem d_X6_fault_12 : decode prog_1_method_4_code 12 = .ok (.invokevirtual 63, 3) := by decide +kernel
theorem d_X6_fault_15 : decode prog_1_method_4_code 15 = .ok (.ireturn, 1) := by decide +kernel
def m_X6_fault (sh : Sh) (v0 : Nat) (μ : Mu) : Option (Int32 × Mu) :=
  gd (iz sh 6 v0) <|
  bd (gR μ v0 3) fun a2 =>
  bd (gR μ v0 0) fun a3 =>
  gd (iz sh 2 a2) <|
  ca2 (m_X2_readFrom sh a2 a3 (gI μ v0 1) μ) fun r5 μ6 =>
  some (r5, μ6)
set_option maxHeartbeats 4000000 in
set_option maxRecDepth 20000 in
theorem t_X6_fault {l : Launch} {G : Gl} {n : Nat} {sh : Sh} {x : Int32 × Mu} {v0 : Nat} {μ : Mu} (h : m_X6_fault sh v0 μ = some x) : Ct l G ⟨"StripsOfFour", "fault", "()I"⟩ prog_1_method_4_code 1 (some .int) { frames := 4, cells := 0, slots := 0, locals := 90 } n sh μ [vr v0] (some (.int x.1)) n sh x.2 := by
  refine Ct.of (lc := [some (vr v0)]) (by decide +kernel) (Nat.le_of_ble_eq_true rfl) rfl ?_
  show Sj l G (QI G n sh x) c_X6_fault n sh 0 0 μ 0 [some (vr v0)] []
  unfold m_X6_fault at h
  refine s_aload_n (pc := 0) d_X6_fault_0 rfl rfl ?_
  obtain ⟨g1, h⟩ := gd_1 h
  refine s_getR (pc := 1) (k := 3) cl_6 d_X6_fault_1 g1 (by decide) w_199 (rt_obj _) ?_
  obtain ⟨a2, ea2, h⟩ := bd_1 h
  refine s_topR ea2 ?_
  refine s_aload_n (pc := 4) d_X6_fault_4 rfl rfl ?_
  refine s_getR (pc := 5) (k := 0) cl_6 d_X6_fault_5 g1 (by decide) w_196 (rt_arr _) ?_
  obtain ⟨a3, ea3, h⟩ := bd_1 h
  refine s_topR ea3 ?_
  refine s_aload_n (pc := 8) d_X6_fault_8 rfl rfl ?_
  refine s_getI (pc := 9) (k := 1) cl_6 d_X6_fault_9 g1 (by decide) w_197 rfl ?_
  obtain ⟨g4, h⟩ := gd_1 h
  obtain ⟨r5, μ6, er5, h⟩ := ca2_1 h
  refine s_callV (pc := 12) (as := [vr a3, vi (gI μ v0 1)]) (st := []) (vo := [vi r5]) (t_X2_readFrom er5) cl_2 g4 d_X6_fault_12 y_X2_readFrom w_239 w_240 w_241 ⟨by decide, by decide⟩ ⟨Nat.le_of_ble_eq_true rfl, Nat.le_of_ble_eq_true rfl⟩ (Nat.le_of_ble_eq_true rfl) rfl rfl rfl ?_
  refine s_as (kc' := 0) (js' := 0) (pc' := 15) (st' := [vi r5]) ⟨rfl, rfl, rfl, rfl⟩ ?_
  obtain rfl := Option.some.inj h
  exact s_iret (pc := 15) d_X6_fault_15 rfl
/-! StripsOfFour.canBe -/
abbrev c_X6_canBe : Cf := (prog_1_method_39_code, 5, "StripsOfFour", "canBe", (some .boolean), { frames := 4, cells := 0, slots := 0, locals := 87 })
theorem d_X6_canBe_0 : decode prog_1_method_39_code 0 = .ok (.aload_n 0, 1) := by decide +kernel
theorem d_X6_canBe_1 : decode prog_1_method_39_code 1 = .ok (.getfield 30, 3) := by decide +kernel
theorem d_X6_canBe_4 : decode prog_1_method_39_code 4 = .ok (.iload_n 1, 1) := by decide +kernel
theorem d_X6_canBe_5 : decode prog_1_method_39_code 5 = .ok (.iload_n 2, 1) := by decide +kernel
theorem d_X6_canBe_6 : decode prog_1_method_39_code 6 = .ok (.invokevirtual 279, 3) := by decide +kernel
theorem d_X6_canBe_9 : decode prog_1_method_39_code 9 = .ok (.istore 4, 2) := by decide +kernel
theorem d_X6_canBe_11 : decode prog_1_method_39_code 11 = .ok (.aload_n 0, 1) := by decide +kernel
theorem d_X6_canBe_12 : decode prog_1_method_39_code 12 = .ok (.getfield 20, 3) := by decide +kernel
theorem d_X6_canBe_15 : decode prog_1_method_39_code 15 = .ok (.iload_n 1, 1) := by decide +kernel
theorem d_X6_canBe_16 : decode prog_1_method_39_code 16 = .ok (.iload_n 2, 1) := by decide +kernel
theorem d_X6_canBe_17 : decode prog_1_method_39_code 17 = .ok (.invokevirtual 282, 3) := by decide +kernel
theorem d_X6_canBe_20 : decode prog_1_method_39_code 20 = .ok (.ifCond .eq 43, 3) := by decide +kernel
theorem d_X6_canBe_23 : decode prog_1_method_39_code 23 = .ok (.iload 4, 2) := by decide +kernel
theorem d_X6_canBe_25 : decode prog_1_method_39_code 25 = .ok (.bipush (-9), 2) := by decide +kernel
theorem d_X6_canBe_27 : decode prog_1_method_39_code 27 = .ok (.if_icmp .eq 9, 3) := by decide +kernel
theorem d_X6_canBe_30 : decode prog_1_method_39_code 30 = .ok (.iload 4, 2) := by decide +kernel
theorem d_X6_canBe_32 : decode prog_1_method_39_code 32 = .ok (.iload_n 3, 1) := by decide +kernel
theorem d_X6_canBe_33 : decode prog_1_method_39_code 33 = .ok (.if_icmp .ne 30, 3) := by decide +kernel
theorem d_X6_canBe_36 : decode prog_1_method_39_code 36 = .ok (.aload_n 0, 1) := by decide +kernel
theorem d_X6_canBe_37 : decode prog_1_method_39_code 37 = .ok (.getfield 30, 3) := by decide +kernel
theorem d_X6_canBe_40 : decode prog_1_method_39_code 40 = .ok (.iconst 1, 1) := by decide +kernel
theorem d_X6_canBe_41 : decode prog_1_method_39_code 41 = .ok (.iload_n 1, 1) := by decide +kernel
theorem d_X6_canBe_42 : decode prog_1_method_39_code 42 = .ok (.isub, 1) := by decide +kernel
theorem d_X6_canBe_43 : decode prog_1_method_39_code 43 = .ok (.iload_n 2, 1) := by decide +kernel
theorem d_X6_canBe_44 : decode prog_1_method_39_code 44 = .ok (.aload_n 0, 1) := by decide +kernel
theorem d_X6_canBe_45 : decode prog_1_method_39_code 45 = .ok (.getfield 20, 3) := by decide +kernel
theorem d_X6_canBe_48 : decode prog_1_method_39_code 48 = .ok (.getfield 79, 3) := by decide +kernel
theorem d_X6_canBe_51 : decode prog_1_method_39_code 51 = .ok (.invokevirtual 243, 3) := by decide +kernel
theorem d_X6_canBe_54 : decode prog_1_method_39_code 54 = .ok (.iload_n 3, 1) := by decide +kernel
theorem d_X6_canBe_55 : decode prog_1_method_39_code 55 = .ok (.iand, 1) := by decide +kernel
theorem d_X6_canBe_56 : decode prog_1_method_39_code 56 = .ok (.ifCond .ne 7, 3) := by decide +kernel
theorem d_X6_canBe_59 : decode prog_1_method_39_code 59 = .ok (.iconst 1, 1) := by decide +kernel
theorem d_X6_canBe_60 : decode prog_1_method_39_code 60 = .ok (.goto 4, 3) := by decide +kernel
theorem d_X6_canBe_63 : decode prog_1_method_39_code 63 = .ok (.iconst 0, 1) := by decide +kernel
theorem d_X6_canBe_64 : decode prog_1_method_39_code 64 = .ok (.ireturn, 1) := by decide +kernel
def m_X6_canBe_b36 (sh : Sh) (v0 : Nat) (v1 : Int32) (v2 : Int32) (v3 : Int32) (μ : Mu) : Option (Int32 × Mu) :=
  gd (iz sh 6 v0) <|
  bd (gR μ v0 4) fun a14 =>
  bd (gR μ v0 2) fun a15 =>
  gd (iz sh 2 a15) <|
  gd (iz sh 4 a14) <|
  ca2 (m_X4_seenNear sh a14 (1 - v1) v2 (gI μ a15 0) μ) fun r18 μ19 =>
  if (r18 &&& v3) = 0 then
    some (1, μ19)
  else
    some (0, μ19)
def m_X6_canBe (sh : Sh) (v0 : Nat) (v1 : Int32) (v2 : Int32) (v3 : Int32) (μ : Mu) : Option (Int32 × Mu) :=
  gd (iz sh 6 v0) <|
  bd (gR μ v0 4) fun a2 =>
  gd (iz sh 4 a2) <|
  ca2 (m_X4_shownAt sh a2 v1 v2 μ) fun r4 μ5 =>
  bd (gR μ5 v0 2) fun a6 =>
  gd (iz sh 2 a6) <|
  ca2 (m_X2_flashesAt sh a6 v1 v2 μ5) fun r8 μ9 =>
  if r8 = 0 then
    some (0, μ9)
  else
    if r4 = (-9) then
      m_X6_canBe_b36 sh v0 v1 v2 v3 μ9
    else
      if r4 = v3 then
        m_X6_canBe_b36 sh v0 v1 v2 v3 μ9
      else
        some (0, μ9)
set_option maxHeartbeats 4000000 in
set_option maxRecDepth 20000 in
theorem t_X6_canBe_b36 {l : Launch} {G : Gl} {n : Nat} {sh : Sh} {x : Int32 × Mu} {v0 : Nat} {v1 : Int32} {v2 : Int32} {v3 : Int32} {μ : Mu} (h : m_X6_canBe_b36 sh v0 v1 v2 v3 μ = some x) : Sj l G (QI G n sh x) c_X6_canBe n sh 0 0 μ 36 [some (vr v0), some (vi v1), some (vi v2), some (vi v3), none] [] := by
  unfold m_X6_canBe_b36 at h
  refine s_aload_n (pc := 36) d_X6_canBe_36 rfl rfl ?_
  obtain ⟨g13, h⟩ := gd_1 h
  refine s_getR (pc := 37) (k := 4) cl_6 d_X6_canBe_37 g13 (by decide) w_200 (rt_obj _) ?_
  obtain ⟨a14, ea14, h⟩ := bd_1 h
  refine s_topR ea14 ?_
  refine s_iconst (pc := 40) (v := 1) d_X6_canBe_40 (by decide) ?_
  refine s_iload_n (pc := 41) d_X6_canBe_41 rfl rfl ?_
  refine s_isub (pc := 42) d_X6_canBe_42 ?_
  refine s_iload_n (pc := 43) d_X6_canBe_43 rfl rfl ?_
  refine s_aload_n (pc := 44) d_X6_canBe_44 rfl rfl ?_
  refine s_getR (pc := 45) (k := 2) cl_6 d_X6_canBe_45 g13 (by decide) w_198 (rt_obj _) ?_
  obtain ⟨a15, ea15, h⟩ := bd_1 h
  refine s_topR ea15 ?_
  obtain ⟨g16, h⟩ := gd_1 h
  refine s_getI (pc := 48) (k := 0) cl_2 d_X6_canBe_48 g16 (by decide) w_27 rfl ?_
  obtain ⟨g17, h⟩ := gd_1 h
  obtain ⟨r18, μ19, er18, h⟩ := ca2_1 h
  refine s_callV (pc := 51) (as := [vi (1 - v1), vi v2, vi (gI μ a15 0)]) (st := []) (vo := [vi r18]) (t_X4_seenNear er18) cl_4 g17 d_X6_canBe_51 y_X4_seenNear w_576 w_577 w_578 ⟨by decide, by decide⟩ ⟨Nat.le_of_ble_eq_true rfl, Nat.le_of_ble_eq_true rfl⟩ (Nat.le_of_ble_eq_true rfl) rfl rfl rfl ?_
  refine s_as (kc' := 0) (js' := 0) (pc' := 54) (st' := [vi r18]) ⟨rfl, rfl, rfl, rfl⟩ ?_
  refine s_iload_n (pc := 54) d_X6_canBe_54 rfl rfl ?_
  refine s_iand (pc := 55) d_X6_canBe_55 ?_
  refine s_if_ne (pc := 56) (tgt := 63) d_X6_canBe_56 (by decide) (fun c20 => ?_) (fun c20 => ?_)
  · have h := it_f c20 h
    refine s_iconst (pc := 63) (v := 0) d_X6_canBe_63 (by decide) ?_
    obtain rfl := Option.some.inj h
    exact s_zret0 (pc := 64) rfl d_X6_canBe_64 rfl
  · have h := it_t c20 h
    refine s_iconst (pc := 59) (v := 1) d_X6_canBe_59 (by decide) ?_
    refine s_goto (pc := 60) (tgt := 64) d_X6_canBe_60 (by decide) ?_
    obtain rfl := Option.some.inj h
    exact s_zret0 (pc := 64) rfl d_X6_canBe_64 rfl
set_option maxHeartbeats 4000000 in
set_option maxRecDepth 20000 in
theorem t_X6_canBe {l : Launch} {G : Gl} {n : Nat} {sh : Sh} {x : Int32 × Mu} {v0 : Nat} {v1 : Int32} {v2 : Int32} {v3 : Int32} {μ : Mu} (h : m_X6_canBe sh v0 v1 v2 v3 μ = some x) : Ct l G ⟨"StripsOfFour", "canBe", "(III)Z"⟩ prog_1_method_39_code 5 (some .boolean) { frames := 4, cells := 0, slots := 0, locals := 87 } n sh μ [vr v0, vi v1, vi v2, vi v3] (some (.int x.1)) n sh x.2 := by
  refine Ct.of (lc := [some (vr v0), some (vi v1), some (vi v2), some (vi v3), none]) (by decide +kernel) (Nat.le_of_ble_eq_true rfl) rfl ?_
  show Sj l G (QI G n sh x) c_X6_canBe n sh 0 0 μ 0 [some (vr v0), some (vi v1), some (vi v2), some (vi v3), none] []
  unfold m_X6_canBe at h
  refine s_aload_n (pc := 0) d_X6_canBe_0 rfl rfl ?_
  obtain ⟨g1, h⟩ := gd_1 h
  refine s_getR (pc := 1) (k := 4) cl_6 d_X6_canBe_1 g1 (by decide) w_200 (rt_obj _) ?_
  obtain ⟨a2, ea2, h⟩ := bd_1 h
  refine s_topR ea2 ?_
  refine s_iload_n (pc := 4) d_X6_canBe_4 rfl rfl ?_
  refine s_iload_n (pc := 5) d_X6_canBe_5 rfl rfl ?_
  obtain ⟨g3, h⟩ := gd_1 h
  obtain ⟨r4, μ5, er4, h⟩ := ca2_1 h
  refine s_callV (pc := 6) (as := [vi v1, vi v2]) (st := []) (vo := [vi r4]) (t_X4_shownAt er4) cl_4 g3 d_X6_canBe_6 y_X4_shownAt w_570 w_571 w_572 ⟨by decide, by decide⟩ ⟨Nat.le_of_ble_eq_true rfl, Nat.le_of_ble_eq_true rfl⟩ (Nat.le_of_ble_eq_true rfl) rfl rfl rfl ?_
  refine s_as (kc' := 0) (js' := 0) (pc' := 9) (st' := [vi r4]) ⟨rfl, rfl, rfl, rfl⟩ ?_
  refine s_istore (pc := 9) (lc' := [some (vr v0), some (vi v1), some (vi v2), some (vi v3), some (vi r4)]) d_X6_canBe_9 (by decide) rfl ?_
  refine s_aload_n (pc := 11) d_X6_canBe_11 rfl rfl ?_
  refine s_getR (pc := 12) (k := 2) cl_6 d_X6_canBe_12 g1 (by decide) w_198 (rt_obj _) ?_
  obtain ⟨a6, ea6, h⟩ := bd_1 h
  refine s_topR ea6 ?_
  refine s_iload_n (pc := 15) d_X6_canBe_15 rfl rfl ?_
  refine s_iload_n (pc := 16) d_X6_canBe_16 rfl rfl ?_
  obtain ⟨g7, h⟩ := gd_1 h
  obtain ⟨r8, μ9, er8, h⟩ := ca2_1 h
  refine s_callV (pc := 17) (as := [vi v1, vi v2]) (st := []) (vo := [vi r8]) (t_X2_flashesAt er8) cl_2 g7 d_X6_canBe_17 y_X2_flashesAt w_575 w_421 w_422 ⟨by decide, by decide⟩ ⟨Nat.le_of_ble_eq_true rfl, Nat.le_of_ble_eq_true rfl⟩ (Nat.le_of_ble_eq_true rfl) rfl rfl rfl ?_
  refine s_as (kc' := 0) (js' := 0) (pc' := 20) (st' := [vi r8]) ⟨rfl, rfl, rfl, rfl⟩ ?_
  refine s_if_eq (pc := 20) (tgt := 63) d_X6_canBe_20 (by decide) (fun c10 => ?_) (fun c10 => ?_)
  · have h := it_t c10 h
    refine s_iconst (pc := 63) (v := 0) d_X6_canBe_63 (by decide) ?_
    obtain rfl := Option.some.inj h
    exact s_zret0 (pc := 64) rfl d_X6_canBe_64 rfl
  · have h := it_f c10 h
    refine s_iload (pc := 23) d_X6_canBe_23 rfl ?_
    refine s_bipush (pc := 25) (v := (-9)) d_X6_canBe_25 (by decide) ?_
    refine s_icmp_eq (pc := 27) (tgt := 36) d_X6_canBe_27 (by decide) (fun c11 => ?_) (fun c11 => ?_)
    · have h := it_t c11 h
      refine s_mask [true, true, true, true, false] rfl ?_
      exact t_X6_canBe_b36 h
    · have h := it_f c11 h
      refine s_iload (pc := 30) d_X6_canBe_30 rfl ?_
      refine s_iload_n (pc := 32) d_X6_canBe_32 rfl rfl ?_
      refine s_icmp_ne (pc := 33) (tgt := 63) d_X6_canBe_33 (by decide) (fun c12 => ?_) (fun c12 => ?_)
      · have h := it_f c12 h
        refine s_iconst (pc := 63) (v := 0) d_X6_canBe_63 (by decide) ?_
        obtain rfl := Option.some.inj h
        exact s_zret0 (pc := 64) rfl d_X6_canBe_64 rfl
      · have h := it_t c12 h
        refine s_mask [true, true, true, true, false] rfl ?_
        exact t_X6_canBe_b36 h
/-! StripsOfFour.setOf -/
abbrev c_X6_setOf : Cf := (prog_1_method_36_code, 4, "StripsOfFour", "setOf", (some .int), { frames := 0, cells := 0, slots := 0, locals := 0 })
theorem d_X6_setOf_0 : decode prog_1_method_36_code 0 = .ok (.iload_n 1, 1) := by decide +kernel
theorem d_X6_setOf_1 : decode prog_1_method_36_code 1 = .ok (.iconst 1, 1) := by decide +kernel
theorem d_X6_setOf_2 : decode prog_1_method_36_code 2 = .ok (.isub, 1) := by decide +kernel
theorem d_X6_setOf_3 : decode prog_1_method_36_code 3 = .ok (.iload_n 2, 1) := by decide +kernel
theorem d_X6_setOf_4 : decode prog_1_method_36_code 4 = .ok (.isub, 1) := by decide +kernel
theorem d_X6_setOf_5 : decode prog_1_method_36_code 5 = .ok (.istore_n 3, 1) := by decide +kernel
theorem d_X6_setOf_6 : decode prog_1_method_36_code 6 = .ok (.iload_n 3, 1) := by decide +kernel
theorem d_X6_setOf_7 : decode prog_1_method_36_code 7 = .ok (.ifCond .lt 11, 3) := by decide +kernel
theorem d_X6_setOf_10 : decode prog_1_method_36_code 10 = .ok (.iload_n 3, 1) := by decide +kernel
theorem d_X6_setOf_11 : decode prog_1_method_36_code 11 = .ok (.getstatic 276, 3) := by decide +kernel
theorem d_X6_setOf_14 : decode prog_1_method_36_code 14 = .ok (.arraylength, 1) := by decide +kernel
theorem d_X6_setOf_15 : decode prog_1_method_36_code 15 = .ok (.if_icmp .lt 7, 3) := by decide +kernel
theorem d_X6_setOf_18 : decode prog_1_method_36_code 18 = .ok (.iconst 0, 1) := by decide +kernel
theorem d_X6_setOf_19 : decode prog_1_method_36_code 19 = .ok (.goto 13, 3) := by decide +kernel
theorem d_X6_setOf_22 : decode prog_1_method_36_code 22 = .ok (.iload_n 0, 1) := by decide +kernel
theorem d_X6_setOf_23 : decode prog_1_method_36_code 23 = .ok (.getstatic 276, 3) := by decide +kernel
theorem d_X6_setOf_26 : decode prog_1_method_36_code 26 = .ok (.iload_n 3, 1) := by decide +kernel
theorem d_X6_setOf_27 : decode prog_1_method_36_code 27 = .ok (.iaload, 1) := by decide +kernel
theorem d_X6_setOf_28 : decode prog_1_method_36_code 28 = .ok (.idiv, 1) := by decide +kernel
theorem d_X6_setOf_29 : decode prog_1_method_36_code 29 = .ok (.bipush 100, 2) := by decide +kernel
theorem d_X6_setOf_31 : decode prog_1_method_36_code 31 = .ok (.irem, 1) := by decide +kernel
theorem d_X6_setOf_32 : decode prog_1_method_36_code 32 = .ok (.ireturn, 1) := by decide +kernel
def m_X6_setOf_b18 (sh : Sh) (μ : Mu) : Option (Int32 × Mu) :=
  some (0, μ)
def m_X6_setOf (sh : Sh) (v0 : Int32) (v1 : Int32) (v2 : Int32) (μ : Mu) : Option (Int32 × Mu) :=
  bd ((v1 - 1) - v2) fun w1 =>
  if w1 < 0 then
    m_X6_setOf_b18 sh μ
  else
    if w1 < 5 then
      gd (ixn 5 w1) <|
      bd (hun w1.toNatClampNeg) fun w5 =>
      gd (nzI w5) <|
      gd (nzI 100) <|
      some ((v0 / w5) - (v0 / w5) / 100 * 100, μ)
    else
      m_X6_setOf_b18 sh μ
set_option maxHeartbeats 4000000 in
set_option maxRecDepth 20000 in
theorem t_X6_setOf_b18 {l : Launch} {G : Gl} {n : Nat} {sh : Sh} {x : Int32 × Mu} {μ : Mu} (h : m_X6_setOf_b18 sh μ = some x) : Sj l G (QI G n sh x) c_X6_setOf n sh 0 0 μ 18 [none, none, none, none] [] := by
  unfold m_X6_setOf_b18 at h
  refine s_iconst (pc := 18) (v := 0) d_X6_setOf_18 (by decide) ?_
  refine s_goto (pc := 19) (tgt := 32) d_X6_setOf_19 (by decide) ?_
  obtain rfl := Option.some.inj h
  exact s_iret (pc := 32) d_X6_setOf_32 rfl
set_option maxHeartbeats 4000000 in
set_option maxRecDepth 20000 in
theorem t_X6_setOf {l : Launch} {G : Gl} {n : Nat} {sh : Sh} {x : Int32 × Mu} {v0 : Int32} {v1 : Int32} {v2 : Int32} {μ : Mu} (h : m_X6_setOf sh v0 v1 v2 μ = some x) : Ct l G ⟨"StripsOfFour", "setOf", "(III)I"⟩ prog_1_method_36_code 4 (some .int) { frames := 0, cells := 0, slots := 0, locals := 0 } n sh μ [vi v0, vi v1, vi v2] (some (.int x.1)) n sh x.2 := by
  refine Ct.of (lc := [some (vi v0), some (vi v1), some (vi v2), none]) (by decide +kernel) (Nat.le_of_ble_eq_true rfl) rfl ?_
  show Sj l G (QI G n sh x) c_X6_setOf n sh 0 0 μ 0 [some (vi v0), some (vi v1), some (vi v2), none] []
  unfold m_X6_setOf at h
  refine s_iload_n (pc := 0) d_X6_setOf_0 rfl rfl ?_
  refine s_iconst (pc := 1) (v := 1) d_X6_setOf_1 (by decide) ?_
  refine s_isub (pc := 2) d_X6_setOf_2 ?_
  refine s_iload_n (pc := 3) d_X6_setOf_3 rfl rfl ?_
  refine s_isub (pc := 4) d_X6_setOf_4 ?_
  obtain ⟨w1, ew1, h⟩ := bd_1 h
  refine s_topI ew1 ?_
  refine s_istore_n (pc := 5) (lc' := [some (vi v0), some (vi v1), some (vi v2), some (vi w1)]) d_X6_setOf_5 rfl (by decide) rfl ?_
  refine s_iload_n (pc := 6) d_X6_setOf_6 rfl rfl ?_
  refine s_if_lt (pc := 7) (tgt := 18) d_X6_setOf_7 (by decide) (fun c2 => ?_) (fun c2 => ?_)
  · have h := it_t c2 h
    refine s_mask [false, false, false, false] rfl ?_
    exact t_X6_setOf_b18 h
  · have h := it_f c2 h
    refine s_iload_n (pc := 10) d_X6_setOf_10 rfl rfl ?_
    refine s_getH (pc := 11) d_X6_setOf_11 w_478 ?_
    refine s_alenH (pc := 14) d_X6_setOf_14 ?_
    refine s_icmp_lt (pc := 15) (tgt := 22) d_X6_setOf_15 (by decide) (fun c3 => ?_) (fun c3 => ?_)
    · have h := it_t c3 h
      refine s_iload_n (pc := 22) d_X6_setOf_22 rfl rfl ?_
      refine s_getH (pc := 23) d_X6_setOf_23 w_478 ?_
      refine s_iload_n (pc := 26) d_X6_setOf_26 rfl rfl ?_
      obtain ⟨g4, h⟩ := gd_1 h
      refine s_ialdH (pc := 27) d_X6_setOf_27 (ixn_eq g4) ?_
      obtain ⟨w5, ew5, h⟩ := bd_1 h
      refine s_topI ew5 ?_
      obtain ⟨g6, h⟩ := gd_1 h
      refine s_idiv (pc := 28) d_X6_setOf_28 (nzI_eq g6) ?_
      refine s_bipush (pc := 29) (v := 100) d_X6_setOf_29 (by decide) ?_
      obtain ⟨g7, h⟩ := gd_1 h
      refine s_irem (pc := 31) d_X6_setOf_31 (nzI_eq g7) ?_
      obtain rfl := Option.some.inj h
      exact s_iret (pc := 32) d_X6_setOf_32 rfl
    · have h := it_f c3 h
      refine s_mask [false, false, false, false] rfl ?_
      exact t_X6_setOf_b18 h
/-! StripsOfFour.isRow -/
abbrev c_X6_isRow : Cf := (prog_1_method_35_code, 3, "StripsOfFour", "isRow", (some .boolean), { frames := 1, cells := 0, slots := 0, locals := 23 })
theorem d_X6_isRow_0 : decode prog_1_method_35_code 0 = .ok (.iload_n 1, 1) := by decide +kernel
theorem d_X6_isRow_1 : decode prog_1_method_35_code 1 = .ok (.iconst 1, 1) := by decide +kernel
theorem d_X6_isRow_2 : decode prog_1_method_35_code 2 = .ok (.if_icmp .lt 21, 3) := by decide +kernel
theorem d_X6_isRow_5 : decode prog_1_method_35_code 5 = .ok (.iload_n 1, 1) := by decide +kernel
theorem d_X6_isRow_6 : decode prog_1_method_35_code 6 = .ok (.iconst 4, 1) := by decide +kernel
theorem d_X6_isRow_7 : decode prog_1_method_35_code 7 = .ok (.if_icmp .gt 16, 3) := by decide +kernel
theorem d_X6_isRow_10 : decode prog_1_method_35_code 10 = .ok (.iload_n 0, 1) := by decide +kernel
theorem d_X6_isRow_11 : decode prog_1_method_35_code 11 = .ok (.ifCond .lt 12, 3) := by decide +kernel
theorem d_X6_isRow_14 : decode prog_1_method_35_code 14 = .ok (.iload_n 0, 1) := by decide +kernel
theorem d_X6_isRow_15 : decode prog_1_method_35_code 15 = .ok (.getstatic 276, 3) := by decide +kernel
theorem d_X6_isRow_18 : decode prog_1_method_35_code 18 = .ok (.iload_n 1, 1) := by decide +kernel
theorem d_X6_isRow_19 : decode prog_1_method_35_code 19 = .ok (.iaload, 1) := by decide +kernel
theorem d_X6_isRow_20 : decode prog_1_method_35_code 20 = .ok (.if_icmp .lt 5, 3) := by decide +kernel
theorem d_X6_isRow_23 : decode prog_1_method_35_code 23 = .ok (.iconst 0, 1) := by decide +kernel
theorem d_X6_isRow_24 : decode prog_1_method_35_code 24 = .ok (.ireturn, 1) := by decide +kernel
theorem d_X6_isRow_25 : decode prog_1_method_35_code 25 = .ok (.iconst 0, 1) := by decide +kernel
theorem d_X6_isRow_26 : decode prog_1_method_35_code 26 = .ok (.istore_n 2, 1) := by decide +kernel
theorem d_X6_isRow_27 : decode prog_1_method_35_code 27 = .ok (.iload_n 2, 1) := by decide +kernel
theorem d_X6_isRow_28 : decode prog_1_method_35_code 28 = .ok (.iload_n 1, 1) := by decide +kernel
theorem d_X6_isRow_29 : decode prog_1_method_35_code 29 = .ok (.if_icmp .ge 22, 3) := by decide +kernel
theorem d_X6_isRow_32 : decode prog_1_method_35_code 32 = .ok (.iload_n 0, 1) := by decide +kernel
theorem d_X6_isRow_33 : decode prog_1_method_35_code 33 = .ok (.iload_n 1, 1) := by decide +kernel
theorem d_X6_isRow_34 : decode prog_1_method_35_code 34 = .ok (.iload_n 2, 1) := by decide +kernel
theorem d_X6_isRow_35 : decode prog_1_method_35_code 35 = .ok (.invokestatic 230, 3) := by decide +kernel
theorem d_X6_isRow_38 : decode prog_1_method_35_code 38 = .ok (.bipush 31, 2) := by decide +kernel
theorem d_X6_isRow_40 : decode prog_1_method_35_code 40 = .ok (.if_icmp .le 5, 3) := by decide +kernel
theorem d_X6_isRow_43 : decode prog_1_method_35_code 43 = .ok (.iconst 0, 1) := by decide +kernel
theorem d_X6_isRow_44 : decode prog_1_method_35_code 44 = .ok (.ireturn, 1) := by decide +kernel
theorem d_X6_isRow_45 : decode prog_1_method_35_code 45 = .ok (.iinc 2 1, 3) := by decide +kernel
theorem d_X6_isRow_48 : decode prog_1_method_35_code 48 = .ok (.goto (-21), 3) := by decide +kernel
theorem d_X6_isRow_51 : decode prog_1_method_35_code 51 = .ok (.iconst 1, 1) := by decide +kernel
theorem d_X6_isRow_52 : decode prog_1_method_35_code 52 = .ok (.ireturn, 1) := by decide +kernel
def m_X6_isRow_b27 (sh : Sh) (k27 : Int32 → Mu → Option (Int32 × Mu)) (v0 : Int32) (v1 : Int32) (v2 : Int32) (μ : Mu) : Option (Int32 × Mu) :=
  if v1 ≤ v2 then
    some (1, μ)
  else
    ca2 (m_X6_setOf sh v0 v1 v2 μ) fun r8 μ9 =>
    if r8 ≤ 31 then
      bd (v2 + 1) fun w11 =>
      k27 w11 μ9
    else
      some (0, μ9)
def m_X6_isRow_h27 (sh : Sh) (v0 : Int32) (v1 : Int32) : Nat → Int32 → Mu → Option (Int32 × Mu)
  | 0 => fun _ _ => none
  | f + 1 => fun v2 μ => m_X6_isRow_b27 sh (m_X6_isRow_h27 sh v0 v1 f) v0 v1 v2 μ
def m_X6_isRow (sh : Sh) (v0 : Int32) (v1 : Int32) (μ : Mu) : Option (Int32 × Mu) :=
  if v1 < 1 then
    some (0, μ)
  else
    if 4 < v1 then
      some (0, μ)
    else
      if v0 < 0 then
        some (0, μ)
      else
        gd (ixn 5 v1) <|
        bd (hun v1.toNatClampNeg) fun w5 =>
        if v0 < w5 then
          m_X6_isRow_h27 sh v0 v1 FU 0 μ
        else
          some (0, μ)
set_option maxHeartbeats 4000000 in
set_option maxRecDepth 20000 in
theorem t_X6_isRow_b27 {l : Launch} {G : Gl} {n : Nat} {sh : Sh} {x : Int32 × Mu} {k27 : Int32 → Mu → Option (Int32 × Mu)} {v0 : Int32} {v1 : Int32} {v2 : Int32} {μ : Mu} (hk27 : ∀ (v2 : Int32) (μ : Mu), k27 v2 μ = some x → Sj l G (QI G n sh x) c_X6_isRow n sh 0 0 μ 27 [some (vi v0), some (vi v1), some (vi v2)] []) (h : m_X6_isRow_b27 sh k27 v0 v1 v2 μ = some x) : Sj l G (QI G n sh x) c_X6_isRow n sh 0 0 μ 27 [some (vi v0), some (vi v1), some (vi v2)] [] := by
  unfold m_X6_isRow_b27 at h
  refine s_iload_n (pc := 27) d_X6_isRow_27 rfl rfl ?_
  refine s_iload_n (pc := 28) d_X6_isRow_28 rfl rfl ?_
  refine s_icmp_ge (pc := 29) (tgt := 51) d_X6_isRow_29 (by decide) (fun c7 => ?_) (fun c7 => ?_)
  · have h := it_t c7 h
    refine s_iconst (pc := 51) (v := 1) d_X6_isRow_51 (by decide) ?_
    obtain rfl := Option.some.inj h
    exact s_zret0 (pc := 52) rfl d_X6_isRow_52 rfl
  · have h := it_f c7 h
    refine s_iload_n (pc := 32) d_X6_isRow_32 rfl rfl ?_
    refine s_iload_n (pc := 33) d_X6_isRow_33 rfl rfl ?_
    refine s_iload_n (pc := 34) d_X6_isRow_34 rfl rfl ?_
    obtain ⟨r8, μ9, er8, h⟩ := ca2_1 h
    refine s_callS (pc := 35) (as := [vi v0, vi v1, vi v2]) (st := []) (vo := [vi r8]) (t_X6_setOf er8) d_X6_isRow_35 y_X6_setOf w_480 w_481 ⟨by decide, by decide⟩ ⟨Nat.le_of_ble_eq_true rfl, Nat.le_of_ble_eq_true rfl⟩ (Nat.le_of_ble_eq_true rfl) rfl rfl rfl ?_
    refine s_as (kc' := 0) (js' := 0) (pc' := 38) (st' := [vi r8]) ⟨rfl, rfl, rfl, rfl⟩ ?_
    refine s_bipush (pc := 38) (v := 31) d_X6_isRow_38 (by decide) ?_
    refine s_icmp_le (pc := 40) (tgt := 45) d_X6_isRow_40 (by decide) (fun c10 => ?_) (fun c10 => ?_)
    · have h := it_t c10 h
      obtain ⟨w11, ew11, h⟩ := bd_1 h
      refine s_iinc (pc := 45) (v := w11) (lc' := [some (vi v0), some (vi v1), some (vi w11)]) d_X6_isRow_45 rfl (by rw [ew11]; rfl) (by decide) rfl ?_
      refine s_goto (pc := 48) (tgt := 27) d_X6_isRow_48 (by decide) ?_
      exact hk27 _ _ h
    · have h := it_f c10 h
      refine s_iconst (pc := 43) (v := 0) d_X6_isRow_43 (by decide) ?_
      obtain rfl := Option.some.inj h
      exact s_zret0 (pc := 44) rfl d_X6_isRow_44 rfl
set_option maxHeartbeats 4000000 in
set_option maxRecDepth 20000 in
theorem t_X6_isRow_h27 {l : Launch} {G : Gl} {n : Nat} {sh : Sh} {x : Int32 × Mu} {v0 : Int32} {v1 : Int32} : ∀ (f : Nat) (v2 : Int32) (μ : Mu), m_X6_isRow_h27 sh v0 v1 f v2 μ = some x → Sj l G (QI G n sh x) c_X6_isRow n sh 0 0 μ 27 [some (vi v0), some (vi v1), some (vi v2)] [] := by
  intro f
  induction f with
  | zero =>
    intro v2 μ h
    cases h
  | succ f ih =>
    intro v2 μ h
    exact t_X6_isRow_b27 ih h
set_option maxHeartbeats 4000000 in
set_option maxRecDepth 20000 in
theorem t_X6_isRow {l : Launch} {G : Gl} {n : Nat} {sh : Sh} {x : Int32 × Mu} {v0 : Int32} {v1 : Int32} {μ : Mu} (h : m_X6_isRow sh v0 v1 μ = some x) : Ct l G ⟨"StripsOfFour", "isRow", "(II)Z"⟩ prog_1_method_35_code 3 (some .boolean) { frames := 1, cells := 0, slots := 0, locals := 23 } n sh μ [vi v0, vi v1] (some (.int x.1)) n sh x.2 := by
  refine Ct.of (lc := [some (vi v0), some (vi v1), none]) (by decide +kernel) (Nat.le_of_ble_eq_true rfl) rfl ?_
  show Sj l G (QI G n sh x) c_X6_isRow n sh 0 0 μ 0 [some (vi v0), some (vi v1), none] []
  unfold m_X6_isRow at h
  refine s_iload_n (pc := 0) d_X6_isRow_0 rfl rfl ?_
  refine s_iconst (pc := 1) (v := 1) d_X6_isRow_1 (by decide) ?_
  refine s_icmp_lt (pc := 2) (tgt := 23) d_X6_isRow_2 (by decide) (fun c1 => ?_) (fun c1 => ?_)
  · have h := it_t c1 h
    refine s_iconst (pc := 23) (v := 0) d_X6_isRow_23 (by decide) ?_
    obtain rfl := Option.some.inj h
    exact s_zret0 (pc := 24) rfl d_X6_isRow_24 rfl
  · have h := it_f c1 h
    refine s_iload_n (pc := 5) d_X6_isRow_5 rfl rfl ?_
    refine s_iconst (pc := 6) (v := 4) d_X6_isRow_6 (by decide) ?_
    refine s_icmp_gt (pc := 7) (tgt := 23) d_X6_isRow_7 (by decide) (fun c2 => ?_) (fun c2 => ?_)
    · have h := it_t c2 h
      refine s_iconst (pc := 23) (v := 0) d_X6_isRow_23 (by decide) ?_
      obtain rfl := Option.some.inj h
      exact s_zret0 (pc := 24) rfl d_X6_isRow_24 rfl
    · have h := it_f c2 h
      refine s_iload_n (pc := 10) d_X6_isRow_10 rfl rfl ?_
      refine s_if_lt (pc := 11) (tgt := 23) d_X6_isRow_11 (by decide) (fun c3 => ?_) (fun c3 => ?_)
      · have h := it_t c3 h
        refine s_iconst (pc := 23) (v := 0) d_X6_isRow_23 (by decide) ?_
        obtain rfl := Option.some.inj h
        exact s_zret0 (pc := 24) rfl d_X6_isRow_24 rfl
      · have h := it_f c3 h
        refine s_iload_n (pc := 14) d_X6_isRow_14 rfl rfl ?_
        refine s_getH (pc := 15) d_X6_isRow_15 w_478 ?_
        refine s_iload_n (pc := 18) d_X6_isRow_18 rfl rfl ?_
        obtain ⟨g4, h⟩ := gd_1 h
        refine s_ialdH (pc := 19) d_X6_isRow_19 (ixn_eq g4) ?_
        obtain ⟨w5, ew5, h⟩ := bd_1 h
        refine s_topI ew5 ?_
        refine s_icmp_lt (pc := 20) (tgt := 25) d_X6_isRow_20 (by decide) (fun c6 => ?_) (fun c6 => ?_)
        · have h := it_t c6 h
          refine s_iconst (pc := 25) (v := 0) d_X6_isRow_25 (by decide) ?_
          refine s_istore_n (pc := 26) (lc' := [some (vi v0), some (vi v1), some (vi 0)]) d_X6_isRow_26 rfl (by decide) rfl ?_
          exact t_X6_isRow_h27 FU _ _ h
        · have h := it_f c6 h
          refine s_iconst (pc := 23) (v := 0) d_X6_isRow_23 (by decide) ?_
          obtain rfl := Option.some.inj h
          exact s_zret0 (pc := 24) rfl d_X6_isRow_24 rfl
/-! StripsOfFour.forgery -/
abbrev c_X6_forgery : Cf := (prog_1_method_24_code, 5, "StripsOfFour", "forgery", (some .int), { frames := 5, cells := 0, slots := 0, locals := 111 })
theorem d_X6_forgery_0 : decode prog_1_method_24_code 0 = .ok (.aload_n 0, 1) := by decide +kernel
theorem d_X6_forgery_1 : decode prog_1_method_24_code 1 = .ok (.getfield 20, 3) := by decide +kernel
theorem d_X6_forgery_4 : decode prog_1_method_24_code 4 = .ok (.iload_n 1, 1) := by decide +kernel
theorem d_X6_forgery_5 : decode prog_1_method_24_code 5 = .ok (.invokevirtual 101, 3) := by decide +kernel
theorem d_X6_forgery_8 : decode prog_1_method_24_code 8 = .ok (.ifCond .ne 5, 3) := by decide +kernel
theorem d_X6_forgery_11 : decode prog_1_method_24_code 11 = .ok (.iconst (-1), 1) := by decide +kernel
theorem d_X6_forgery_12 : decode prog_1_method_24_code 12 = .ok (.ireturn, 1) := by decide +kernel
theorem d_X6_forgery_13 : decode prog_1_method_24_code 13 = .ok (.iload_n 2, 1) := by decide +kernel
theorem d_X6_forgery_14 : decode prog_1_method_24_code 14 = .ok (.invokestatic 227, 3) := by decide +kernel
theorem d_X6_forgery_17 : decode prog_1_method_24_code 17 = .ok (.ifCond .eq 11, 3) := by decide +kernel
theorem d_X6_forgery_20 : decode prog_1_method_24_code 20 = .ok (.iload_n 3, 1) := by decide +kernel
theorem d_X6_forgery_21 : decode prog_1_method_24_code 21 = .ok (.iconst 4, 1) := by decide +kernel
theorem d_X6_forgery_22 : decode prog_1_method_24_code 22 = .ok (.invokestatic 200, 3) := by decide +kernel
theorem d_X6_forgery_25 : decode prog_1_method_24_code 25 = .ok (.ifCond .ne 6, 3) := by decide +kernel
theorem d_X6_forgery_28 : decode prog_1_method_24_code 28 = .ok (.bipush (-2), 2) := by decide +kernel
theorem d_X6_forgery_30 : decode prog_1_method_24_code 30 = .ok (.ireturn, 1) := by decide +kernel
theorem d_X6_forgery_31 : decode prog_1_method_24_code 31 = .ok (.iconst 0, 1) := by decide +kernel
theorem d_X6_forgery_32 : decode prog_1_method_24_code 32 = .ok (.istore 4, 2) := by decide +kernel
theorem d_X6_forgery_34 : decode prog_1_method_24_code 34 = .ok (.iload 4, 2) := by decide +kernel
theorem d_X6_forgery_36 : decode prog_1_method_24_code 36 = .ok (.iconst 4, 1) := by decide +kernel
theorem d_X6_forgery_37 : decode prog_1_method_24_code 37 = .ok (.if_icmp .ge 40, 3) := by decide +kernel
theorem d_X6_forgery_40 : decode prog_1_method_24_code 40 = .ok (.aload_n 0, 1) := by decide +kernel
theorem d_X6_forgery_41 : decode prog_1_method_24_code 41 = .ok (.iload_n 1, 1) := by decide +kernel
theorem d_X6_forgery_42 : decode prog_1_method_24_code 42 = .ok (.iload_n 2, 1) := by decide +kernel
theorem d_X6_forgery_43 : decode prog_1_method_24_code 43 = .ok (.iload 4, 2) := by decide +kernel
theorem d_X6_forgery_45 : decode prog_1_method_24_code 45 = .ok (.aload_n 0, 1) := by decide +kernel
theorem d_X6_forgery_46 : decode prog_1_method_24_code 46 = .ok (.getfield 20, 3) := by decide +kernel
theorem d_X6_forgery_49 : decode prog_1_method_24_code 49 = .ok (.iload_n 1, 1) := by decide +kernel
theorem d_X6_forgery_50 : decode prog_1_method_24_code 50 = .ok (.invokevirtual 109, 3) := by decide +kernel
theorem d_X6_forgery_53 : decode prog_1_method_24_code 53 = .ok (.imul, 1) := by decide +kernel
theorem d_X6_forgery_54 : decode prog_1_method_24_code 54 = .ok (.iadd, 1) := by decide +kernel
theorem d_X6_forgery_55 : decode prog_1_method_24_code 55 = .ok (.iload_n 3, 1) := by decide +kernel
theorem d_X6_forgery_56 : decode prog_1_method_24_code 56 = .ok (.iconst 4, 1) := by decide +kernel
theorem d_X6_forgery_57 : decode prog_1_method_24_code 57 = .ok (.iload 4, 2) := by decide +kernel
theorem d_X6_forgery_59 : decode prog_1_method_24_code 59 = .ok (.invokestatic 230, 3) := by decide +kernel
theorem d_X6_forgery_62 : decode prog_1_method_24_code 62 = .ok (.invokevirtual 234, 3) := by decide +kernel
theorem d_X6_forgery_65 : decode prog_1_method_24_code 65 = .ok (.ifCond .ne 6, 3) := by decide +kernel
theorem d_X6_forgery_68 : decode prog_1_method_24_code 68 = .ok (.iload 4, 2) := by decide +kernel
theorem d_X6_forgery_70 : decode prog_1_method_24_code 70 = .ok (.ireturn, 1) := by decide +kernel
theorem d_X6_forgery_71 : decode prog_1_method_24_code 71 = .ok (.iinc 4 1, 3) := by decide +kernel
theorem d_X6_forgery_74 : decode prog_1_method_24_code 74 = .ok (.goto (-40), 3) := by decide +kernel
theorem d_X6_forgery_77 : decode prog_1_method_24_code 77 = .ok (.bipush (-9), 2) := by decide +kernel
theorem d_X6_forgery_79 : decode prog_1_method_24_code 79 = .ok (.ireturn, 1) := by decide +kernel
def m_X6_forgery_b34 (sh : Sh) (k34 : Int32 → Mu → Option (Int32 × Mu)) (v0 : Nat) (v1 : Int32) (v2 : Int32) (v3 : Int32) (v4 : Int32) (μ : Mu) : Option (Int32 × Mu) :=
  if 4 ≤ v4 then
    some ((-9), μ)
  else
    gd (iz sh 6 v0) <|
    bd (gR μ v0 2) fun a15 =>
    gd (iz sh 2 a15) <|
    ca2 (m_X2_everyOf sh a15 v1 μ) fun r17 μ18 =>
    ca2 (m_X6_setOf sh v3 4 v4 μ18) fun r19 μ20 =>
    ca2 (m_X6_canBe sh v0 v1 (v2 + (v4 * r17)) r19 μ20) fun r21 μ22 =>
    if r21 = 0 then
      some (v4, μ22)
    else
      bd (v4 + 1) fun w24 =>
      k34 w24 μ22
def m_X6_forgery_h34 (sh : Sh) (v0 : Nat) (v1 : Int32) (v2 : Int32) (v3 : Int32) : Nat → Int32 → Mu → Option (Int32 × Mu)
  | 0 => fun _ _ => none
  | f + 1 => fun v4 μ => m_X6_forgery_b34 sh (m_X6_forgery_h34 sh v0 v1 v2 v3 f) v0 v1 v2 v3 v4 μ
def m_X6_forgery (sh : Sh) (v0 : Nat) (v1 : Int32) (v2 : Int32) (v3 : Int32) (μ : Mu) : Option (Int32 × Mu) :=
  gd (iz sh 6 v0) <|
  bd (gR μ v0 2) fun a2 =>
  gd (iz sh 2 a2) <|
  ca2 (m_X2_hasBooth sh a2 v1 μ) fun r4 μ5 =>
  if r4 = 0 then
    some ((-1), μ5)
  else
    ca2 (m_X6_isAskedMinute sh v2 μ5) fun r7 μ8 =>
    if r7 = 0 then
      some ((-2), μ8)
    else
      ca2 (m_X6_isRow sh v3 4 μ8) fun r10 μ11 =>
      if r10 = 0 then
        some ((-2), μ11)
      else
        m_X6_forgery_h34 sh v0 v1 v2 v3 FU 0 μ11
set_option maxHeartbeats 4000000 in
set_option maxRecDepth 20000 in
theorem t_X6_forgery_b34 {l : Launch} {G : Gl} {n : Nat} {sh : Sh} {x : Int32 × Mu} {k34 : Int32 → Mu → Option (Int32 × Mu)} {v0 : Nat} {v1 : Int32} {v2 : Int32} {v3 : Int32} {v4 : Int32} {μ : Mu} (hk34 : ∀ (v4 : Int32) (μ : Mu), k34 v4 μ = some x → Sj l G (QI G n sh x) c_X6_forgery n sh 0 0 μ 34 [some (vr v0), some (vi v1), some (vi v2), some (vi v3), some (vi v4)] []) (h : m_X6_forgery_b34 sh k34 v0 v1 v2 v3 v4 μ = some x) : Sj l G (QI G n sh x) c_X6_forgery n sh 0 0 μ 34 [some (vr v0), some (vi v1), some (vi v2), some (vi v3), some (vi v4)] [] := by
  unfold m_X6_forgery_b34 at h
  refine s_iload (pc := 34) d_X6_forgery_34 rfl ?_
  refine s_iconst (pc := 36) (v := 4) d_X6_forgery_36 (by decide) ?_
  refine s_icmp_ge (pc := 37) (tgt := 77) d_X6_forgery_37 (by decide) (fun c13 => ?_) (fun c13 => ?_)
  · have h := it_t c13 h
    refine s_bipush (pc := 77) (v := (-9)) d_X6_forgery_77 (by decide) ?_
    obtain rfl := Option.some.inj h
    exact s_iret (pc := 79) d_X6_forgery_79 rfl
  · have h := it_f c13 h
    refine s_aload_n (pc := 40) d_X6_forgery_40 rfl rfl ?_
    refine s_iload_n (pc := 41) d_X6_forgery_41 rfl rfl ?_
    refine s_iload_n (pc := 42) d_X6_forgery_42 rfl rfl ?_
    refine s_iload (pc := 43) d_X6_forgery_43 rfl ?_
    refine s_aload_n (pc := 45) d_X6_forgery_45 rfl rfl ?_
    obtain ⟨g14, h⟩ := gd_1 h
    refine s_getR (pc := 46) (k := 2) cl_6 d_X6_forgery_46 g14 (by decide) w_198 (rt_obj _) ?_
    obtain ⟨a15, ea15, h⟩ := bd_1 h
    refine s_topR ea15 ?_
    refine s_iload_n (pc := 49) d_X6_forgery_49 rfl rfl ?_
    obtain ⟨g16, h⟩ := gd_1 h
    obtain ⟨r17, μ18, er17, h⟩ := ca2_1 h
    refine s_callV (pc := 50) (as := [vi v1]) (st := [vi v4, vi v2, vi v1, vr v0]) (vo := [vi r17]) (t_X2_everyOf er17) cl_2 g16 d_X6_forgery_50 y_X2_everyOf w_289 w_290 w_291 ⟨by decide, by decide⟩ ⟨Nat.le_of_ble_eq_true rfl, Nat.le_of_ble_eq_true rfl⟩ (Nat.le_of_ble_eq_true rfl) rfl rfl rfl ?_
    refine s_as (kc' := 0) (js' := 0) (pc' := 53) (st' := [vi r17, vi v4, vi v2, vi v1, vr v0]) ⟨rfl, rfl, rfl, rfl⟩ ?_
    refine s_imul (pc := 53) d_X6_forgery_53 ?_
    refine s_iadd (pc := 54) d_X6_forgery_54 ?_
    refine s_iload_n (pc := 55) d_X6_forgery_55 rfl rfl ?_
    refine s_iconst (pc := 56) (v := 4) d_X6_forgery_56 (by decide) ?_
    refine s_iload (pc := 57) d_X6_forgery_57 rfl ?_
    obtain ⟨r19, μ20, er19, h⟩ := ca2_1 h
    refine s_callS (pc := 59) (as := [vi v3, vi 4, vi v4]) (st := [vi (v2 + (v4 * r17)), vi v1, vr v0]) (vo := [vi r19]) (t_X6_setOf er19) d_X6_forgery_59 y_X6_setOf w_480 w_481 ⟨by decide, by decide⟩ ⟨Nat.le_of_ble_eq_true rfl, Nat.le_of_ble_eq_true rfl⟩ (Nat.le_of_ble_eq_true rfl) rfl rfl rfl ?_
    refine s_as (kc' := 0) (js' := 0) (pc' := 62) (st' := [vi r19, vi (v2 + (v4 * r17)), vi v1, vr v0]) ⟨rfl, rfl, rfl, rfl⟩ ?_
    obtain ⟨r21, μ22, er21, h⟩ := ca2_1 h
    refine s_callV (pc := 62) (as := [vi v1, vi (v2 + (v4 * r17)), vi r19]) (st := []) (vo := [vi r21]) (t_X6_canBe er21) cl_6 g14 d_X6_forgery_62 y_X6_canBe w_566 w_568 w_s7 ⟨by decide, by decide⟩ ⟨Nat.le_of_ble_eq_true rfl, Nat.le_of_ble_eq_true rfl⟩ (Nat.le_of_ble_eq_true rfl) rfl rfl rfl ?_
    refine s_as (kc' := 0) (js' := 0) (pc' := 65) (st' := [vi r21]) ⟨rfl, rfl, rfl, rfl⟩ ?_
    refine s_if_ne (pc := 65) (tgt := 71) d_X6_forgery_65 (by decide) (fun c23 => ?_) (fun c23 => ?_)
    · have h := it_f c23 h
      obtain ⟨w24, ew24, h⟩ := bd_1 h
      refine s_iinc (pc := 71) (v := w24) (lc' := [some (vr v0), some (vi v1), some (vi v2), some (vi v3), some (vi w24)]) d_X6_forgery_71 rfl (by rw [ew24]; rfl) (by decide) rfl ?_
      refine s_goto (pc := 74) (tgt := 34) d_X6_forgery_74 (by decide) ?_
      exact hk34 _ _ h
    · have h := it_t c23 h
      refine s_iload (pc := 68) d_X6_forgery_68 rfl ?_
      obtain rfl := Option.some.inj h
      exact s_iret (pc := 70) d_X6_forgery_70 rfl
set_option maxHeartbeats 4000000 in
set_option maxRecDepth 20000 in
theorem t_X6_forgery_h34 {l : Launch} {G : Gl} {n : Nat} {sh : Sh} {x : Int32 × Mu} {v0 : Nat} {v1 : Int32} {v2 : Int32} {v3 : Int32} : ∀ (f : Nat) (v4 : Int32) (μ : Mu), m_X6_forgery_h34 sh v0 v1 v2 v3 f v4 μ = some x → Sj l G (QI G n sh x) c_X6_forgery n sh 0 0 μ 34 [some (vr v0), some (vi v1), some (vi v2), some (vi v3), some (vi v4)] [] := by
  intro f
  induction f with
  | zero =>
    intro v4 μ h
    cases h
  | succ f ih =>
    intro v4 μ h
    exact t_X6_forgery_b34 ih h
set_option maxHeartbeats 4000000 in
set_option maxRecDepth 20000 in
theorem t_X6_forgery {l : Launch} {G : Gl} {n : Nat} {sh : Sh} {x : Int32 × Mu} {v0 : Nat} {v1 : Int32} {v2 : Int32} {v3 : Int32} {μ : Mu} (h : m_X6_forgery sh v0 v1 v2 v3 μ = some x) : Ct l G ⟨"StripsOfFour", "forgery", "(III)I"⟩ prog_1_method_24_code 5 (some .int) { frames := 5, cells := 0, slots := 0, locals := 111 } n sh μ [vr v0, vi v1, vi v2, vi v3] (some (.int x.1)) n sh x.2 := by
  refine Ct.of (lc := [some (vr v0), some (vi v1), some (vi v2), some (vi v3), none]) (by decide +kernel) (Nat.le_of_ble_eq_true rfl) rfl ?_
  show Sj l G (QI G n sh x) c_X6_forgery n sh 0 0 μ 0 [some (vr v0), some (vi v1), some (vi v2), some (vi v3), none] []
  unfold m_X6_forgery at h
  refine s_aload_n (pc := 0) d_X6_forgery_0 rfl rfl ?_
  obtain ⟨g1, h⟩ := gd_1 h
  refine s_getR (pc := 1) (k := 2) cl_6 d_X6_forgery_1 g1 (by decide) w_198 (rt_obj _) ?_
  obtain ⟨a2, ea2, h⟩ := bd_1 h
  refine s_topR ea2 ?_
  refine s_iload_n (pc := 4) d_X6_forgery_4 rfl rfl ?_
  obtain ⟨g3, h⟩ := gd_1 h
  obtain ⟨r4, μ5, er4, h⟩ := ca2_1 h
  refine s_callV (pc := 5) (as := [vi v1]) (st := []) (vo := [vi r4]) (t_X2_hasBooth er4) cl_2 g3 d_X6_forgery_5 y_X2_hasBooth w_284 w_256 w_257 ⟨by decide, by decide⟩ ⟨Nat.le_of_ble_eq_true rfl, Nat.le_of_ble_eq_true rfl⟩ (Nat.le_of_ble_eq_true rfl) rfl rfl rfl ?_
  refine s_as (kc' := 0) (js' := 0) (pc' := 8) (st' := [vi r4]) ⟨rfl, rfl, rfl, rfl⟩ ?_
  refine s_if_ne (pc := 8) (tgt := 13) d_X6_forgery_8 (by decide) (fun c6 => ?_) (fun c6 => ?_)
  · have h := it_f c6 h
    refine s_iload_n (pc := 13) d_X6_forgery_13 rfl rfl ?_
    obtain ⟨r7, μ8, er7, h⟩ := ca2_1 h
    refine s_callS (pc := 14) (as := [vi v2]) (st := []) (vo := [vi r7]) (t_X6_isAskedMinute er7) d_X6_forgery_14 y_X6_isAskedMinute w_563 w_564 ⟨by decide, by decide⟩ ⟨Nat.le_of_ble_eq_true rfl, Nat.le_of_ble_eq_true rfl⟩ (Nat.le_of_ble_eq_true rfl) rfl rfl rfl ?_
    refine s_as (kc' := 0) (js' := 0) (pc' := 17) (st' := [vi r7]) ⟨rfl, rfl, rfl, rfl⟩ ?_
    refine s_if_eq (pc := 17) (tgt := 28) d_X6_forgery_17 (by decide) (fun c9 => ?_) (fun c9 => ?_)
    · have h := it_t c9 h
      refine s_bipush (pc := 28) (v := (-2)) d_X6_forgery_28 (by decide) ?_
      obtain rfl := Option.some.inj h
      exact s_iret (pc := 30) d_X6_forgery_30 rfl
    · have h := it_f c9 h
      refine s_iload_n (pc := 20) d_X6_forgery_20 rfl rfl ?_
      refine s_iconst (pc := 21) (v := 4) d_X6_forgery_21 (by decide) ?_
      obtain ⟨r10, μ11, er10, h⟩ := ca2_1 h
      refine s_callS (pc := 22) (as := [vi v3, vi 4]) (st := []) (vo := [vi r10]) (t_X6_isRow er10) d_X6_forgery_22 y_X6_isRow w_475 w_476 ⟨by decide, by decide⟩ ⟨Nat.le_of_ble_eq_true rfl, Nat.le_of_ble_eq_true rfl⟩ (Nat.le_of_ble_eq_true rfl) rfl rfl rfl ?_
      refine s_as (kc' := 0) (js' := 0) (pc' := 25) (st' := [vi r10]) ⟨rfl, rfl, rfl, rfl⟩ ?_
      refine s_if_ne (pc := 25) (tgt := 31) d_X6_forgery_25 (by decide) (fun c12 => ?_) (fun c12 => ?_)
      · have h := it_f c12 h
        refine s_iconst (pc := 31) (v := 0) d_X6_forgery_31 (by decide) ?_
        refine s_istore (pc := 32) (lc' := [some (vr v0), some (vi v1), some (vi v2), some (vi v3), some (vi 0)]) d_X6_forgery_32 (by decide) rfl ?_
        exact t_X6_forgery_h34 FU _ _ h
      · have h := it_t c12 h
        refine s_bipush (pc := 28) (v := (-2)) d_X6_forgery_28 (by decide) ?_
        obtain rfl := Option.some.inj h
        exact s_iret (pc := 30) d_X6_forgery_30 rfl
  · have h := it_t c6 h
    refine s_iconst (pc := 11) (v := (-1)) d_X6_forgery_11 (by decide) ?_
    obtain rfl := Option.some.inj h
    exact s_iret (pc := 12) d_X6_forgery_12 rfl
/-! StripsOfFour.showsRow -/
abbrev c_X6_showsRow : Cf := (prog_1_method_37_code, 5, "StripsOfFour", "showsRow", (some .boolean), { frames := 1, cells := 0, slots := 0, locals := 23 })
theorem d_X6_showsRow_0 : decode prog_1_method_37_code 0 = .ok (.iconst 0, 1) := by decide +kernel
theorem d_X6_showsRow_1 : decode prog_1_method_37_code 1 = .ok (.istore 4, 2) := by decide +kernel
theorem d_X6_showsRow_3 : decode prog_1_method_37_code 3 = .ok (.iload 4, 2) := by decide +kernel
theorem d_X6_showsRow_5 : decode prog_1_method_37_code 5 = .ok (.iload_n 2, 1) := by decide +kernel
theorem d_X6_showsRow_6 : decode prog_1_method_37_code 6 = .ok (.if_icmp .ge 30, 3) := by decide +kernel
theorem d_X6_showsRow_9 : decode prog_1_method_37_code 9 = .ok (.aload_n 0, 1) := by decide +kernel
theorem d_X6_showsRow_10 : decode prog_1_method_37_code 10 = .ok (.iload_n 1, 1) := by decide +kernel
theorem d_X6_showsRow_11 : decode prog_1_method_37_code 11 = .ok (.iload 4, 2) := by decide +kernel
theorem d_X6_showsRow_13 : decode prog_1_method_37_code 13 = .ok (.iadd, 1) := by decide +kernel
theorem d_X6_showsRow_14 : decode prog_1_method_37_code 14 = .ok (.iconst 1, 1) := by decide +kernel
theorem d_X6_showsRow_15 : decode prog_1_method_37_code 15 = .ok (.invokevirtual 158, 3) := by decide +kernel
theorem d_X6_showsRow_18 : decode prog_1_method_37_code 18 = .ok (.iload_n 3, 1) := by decide +kernel
theorem d_X6_showsRow_19 : decode prog_1_method_37_code 19 = .ok (.iload_n 2, 1) := by decide +kernel
theorem d_X6_showsRow_20 : decode prog_1_method_37_code 20 = .ok (.iload 4, 2) := by decide +kernel
theorem d_X6_showsRow_22 : decode prog_1_method_37_code 22 = .ok (.invokestatic 230, 3) := by decide +kernel
theorem d_X6_showsRow_25 : decode prog_1_method_37_code 25 = .ok (.if_icmp .eq 5, 3) := by decide +kernel
theorem d_X6_showsRow_28 : decode prog_1_method_37_code 28 = .ok (.iconst 0, 1) := by decide +kernel
theorem d_X6_showsRow_29 : decode prog_1_method_37_code 29 = .ok (.ireturn, 1) := by decide +kernel
theorem d_X6_showsRow_30 : decode prog_1_method_37_code 30 = .ok (.iinc 4 1, 3) := by decide +kernel
theorem d_X6_showsRow_33 : decode prog_1_method_37_code 33 = .ok (.goto (-30), 3) := by decide +kernel
theorem d_X6_showsRow_36 : decode prog_1_method_37_code 36 = .ok (.iconst 1, 1) := by decide +kernel
theorem d_X6_showsRow_37 : decode prog_1_method_37_code 37 = .ok (.ireturn, 1) := by decide +kernel
def m_X6_showsRow_b3 (sh : Sh) (k3 : Int32 → Mu → Option (Int32 × Mu)) (v0 : Nat) (v1 : Int32) (v2 : Int32) (v3 : Int32) (v4 : Int32) (μ : Mu) : Option (Int32 × Mu) :=
  if v2 ≤ v4 then
    some (1, μ)
  else
    gd (iz sh 5 v0) <|
    ca2 (m_X5_cell sh v0 (v1 + v4) 1 μ) fun r3 μ4 =>
    ca2 (m_X6_setOf sh v3 v2 v4 μ4) fun r5 μ6 =>
    if r3 = r5 then
      bd (v4 + 1) fun w8 =>
      k3 w8 μ6
    else
      some (0, μ6)
def m_X6_showsRow_h3 (sh : Sh) (v0 : Nat) (v1 : Int32) (v2 : Int32) (v3 : Int32) : Nat → Int32 → Mu → Option (Int32 × Mu)
  | 0 => fun _ _ => none
  | f + 1 => fun v4 μ => m_X6_showsRow_b3 sh (m_X6_showsRow_h3 sh v0 v1 v2 v3 f) v0 v1 v2 v3 v4 μ
def m_X6_showsRow (sh : Sh) (v0 : Nat) (v1 : Int32) (v2 : Int32) (v3 : Int32) (μ : Mu) : Option (Int32 × Mu) :=
  m_X6_showsRow_h3 sh v0 v1 v2 v3 FU 0 μ
set_option maxHeartbeats 4000000 in
set_option maxRecDepth 20000 in
theorem t_X6_showsRow_b3 {l : Launch} {G : Gl} {n : Nat} {sh : Sh} {x : Int32 × Mu} {k3 : Int32 → Mu → Option (Int32 × Mu)} {v0 : Nat} {v1 : Int32} {v2 : Int32} {v3 : Int32} {v4 : Int32} {μ : Mu} (hk3 : ∀ (v4 : Int32) (μ : Mu), k3 v4 μ = some x → Sj l G (QI G n sh x) c_X6_showsRow n sh 0 0 μ 3 [some (vr v0), some (vi v1), some (vi v2), some (vi v3), some (vi v4)] []) (h : m_X6_showsRow_b3 sh k3 v0 v1 v2 v3 v4 μ = some x) : Sj l G (QI G n sh x) c_X6_showsRow n sh 0 0 μ 3 [some (vr v0), some (vi v1), some (vi v2), some (vi v3), some (vi v4)] [] := by
  unfold m_X6_showsRow_b3 at h
  refine s_iload (pc := 3) d_X6_showsRow_3 rfl ?_
  refine s_iload_n (pc := 5) d_X6_showsRow_5 rfl rfl ?_
  refine s_icmp_ge (pc := 6) (tgt := 36) d_X6_showsRow_6 (by decide) (fun c1 => ?_) (fun c1 => ?_)
  · have h := it_t c1 h
    refine s_iconst (pc := 36) (v := 1) d_X6_showsRow_36 (by decide) ?_
    obtain rfl := Option.some.inj h
    exact s_zret0 (pc := 37) rfl d_X6_showsRow_37 rfl
  · have h := it_f c1 h
    refine s_aload_n (pc := 9) d_X6_showsRow_9 rfl rfl ?_
    refine s_iload_n (pc := 10) d_X6_showsRow_10 rfl rfl ?_
    refine s_iload (pc := 11) d_X6_showsRow_11 rfl ?_
    refine s_iadd (pc := 13) d_X6_showsRow_13 ?_
    refine s_iconst (pc := 14) (v := 1) d_X6_showsRow_14 (by decide) ?_
    obtain ⟨g2, h⟩ := gd_1 h
    obtain ⟨r3, μ4, er3, h⟩ := ca2_1 h
    refine s_callV (pc := 15) (as := [vi (v1 + v4), vi 1]) (st := []) (vo := [vi r3]) (t_X5_cell er3) cl_5 g2 d_X6_showsRow_15 y_X5_cell w_357 w_350 w_351 ⟨by decide, by decide⟩ ⟨Nat.le_of_ble_eq_true rfl, Nat.le_of_ble_eq_true rfl⟩ (Nat.le_of_ble_eq_true rfl) rfl rfl rfl ?_
    refine s_as (kc' := 0) (js' := 0) (pc' := 18) (st' := [vi r3]) ⟨rfl, rfl, rfl, rfl⟩ ?_
    refine s_iload_n (pc := 18) d_X6_showsRow_18 rfl rfl ?_
    refine s_iload_n (pc := 19) d_X6_showsRow_19 rfl rfl ?_
    refine s_iload (pc := 20) d_X6_showsRow_20 rfl ?_
    obtain ⟨r5, μ6, er5, h⟩ := ca2_1 h
    refine s_callS (pc := 22) (as := [vi v3, vi v2, vi v4]) (st := [vi r3]) (vo := [vi r5]) (t_X6_setOf er5) d_X6_showsRow_22 y_X6_setOf w_480 w_481 ⟨by decide, by decide⟩ ⟨Nat.le_of_ble_eq_true rfl, Nat.le_of_ble_eq_true rfl⟩ (Nat.le_of_ble_eq_true rfl) rfl rfl rfl ?_
    refine s_as (kc' := 0) (js' := 0) (pc' := 25) (st' := [vi r5, vi r3]) ⟨rfl, rfl, rfl, rfl⟩ ?_
    refine s_icmp_eq (pc := 25) (tgt := 30) d_X6_showsRow_25 (by decide) (fun c7 => ?_) (fun c7 => ?_)
    · have h := it_t c7 h
      obtain ⟨w8, ew8, h⟩ := bd_1 h
      refine s_iinc (pc := 30) (v := w8) (lc' := [some (vr v0), some (vi v1), some (vi v2), some (vi v3), some (vi w8)]) d_X6_showsRow_30 rfl (by rw [ew8]; rfl) (by decide) rfl ?_
      refine s_goto (pc := 33) (tgt := 3) d_X6_showsRow_33 (by decide) ?_
      exact hk3 _ _ h
    · have h := it_f c7 h
      refine s_iconst (pc := 28) (v := 0) d_X6_showsRow_28 (by decide) ?_
      obtain rfl := Option.some.inj h
      exact s_zret0 (pc := 29) rfl d_X6_showsRow_29 rfl
set_option maxHeartbeats 4000000 in
set_option maxRecDepth 20000 in
theorem t_X6_showsRow_h3 {l : Launch} {G : Gl} {n : Nat} {sh : Sh} {x : Int32 × Mu} {v0 : Nat} {v1 : Int32} {v2 : Int32} {v3 : Int32} : ∀ (f : Nat) (v4 : Int32) (μ : Mu), m_X6_showsRow_h3 sh v0 v1 v2 v3 f v4 μ = some x → Sj l G (QI G n sh x) c_X6_showsRow n sh 0 0 μ 3 [some (vr v0), some (vi v1), some (vi v2), some (vi v3), some (vi v4)] [] := by
  intro f
  induction f with
  | zero =>
    intro v4 μ h
    cases h
  | succ f ih =>
    intro v4 μ h
    exact t_X6_showsRow_b3 ih h
set_option maxHeartbeats 4000000 in
set_option maxRecDepth 20000 in
theorem t_X6_showsRow {l : Launch} {G : Gl} {n : Nat} {sh : Sh} {x : Int32 × Mu} {v0 : Nat} {v1 : Int32} {v2 : Int32} {v3 : Int32} {μ : Mu} (h : m_X6_showsRow sh v0 v1 v2 v3 μ = some x) : Ct l G ⟨"StripsOfFour", "showsRow", "(LStripsOfFour$Strip;III)Z"⟩ prog_1_method_37_code 5 (some .boolean) { frames := 1, cells := 0, slots := 0, locals := 23 } n sh μ [vr v0, vi v1, vi v2, vi v3] (some (.int x.1)) n sh x.2 := by
  refine Ct.of (lc := [some (vr v0), some (vi v1), some (vi v2), some (vi v3), none]) (by decide +kernel) (Nat.le_of_ble_eq_true rfl) rfl ?_
  show Sj l G (QI G n sh x) c_X6_showsRow n sh 0 0 μ 0 [some (vr v0), some (vi v1), some (vi v2), some (vi v3), none] []
  unfold m_X6_showsRow at h
  refine s_iconst (pc := 0) (v := 0) d_X6_showsRow_0 (by decide) ?_
  refine s_istore (pc := 1) (lc' := [some (vr v0), some (vi v1), some (vi v2), some (vi v3), some (vi 0)]) d_X6_showsRow_1 (by decide) rfl ?_
  exact t_X6_showsRow_h3 FU _ _ h
/-! StripsOfFour.found -/
abbrev c_X6_found : Cf := (prog_1_method_20_code, 6, "StripsOfFour", "found", (some .int), { frames := 2, cells := 0, slots := 0, locals := 47 })
theorem d_X6_found_0 : decode prog_1_method_20_code 0 = .ok (.aload_n 0, 1) := by decide +kernel
theorem d_X6_found_1 : decode prog_1_method_20_code 1 = .ok (.getfield 30, 3) := by decide +kernel
theorem d_X6_found_4 : decode prog_1_method_20_code 4 = .ok (.iload_n 1, 1) := by decide +kernel
theorem d_X6_found_5 : decode prog_1_method_20_code 5 = .ok (.invokevirtual 137, 3) := by decide +kernel
theorem d_X6_found_8 : decode prog_1_method_20_code 8 = .ok (.ifCond .ne 5, 3) := by decide +kernel
theorem d_X6_found_11 : decode prog_1_method_20_code 11 = .ok (.iconst (-1), 1) := by decide +kernel
theorem d_X6_found_12 : decode prog_1_method_20_code 12 = .ok (.ireturn, 1) := by decide +kernel
theorem d_X6_found_13 : decode prog_1_method_20_code 13 = .ok (.iload_n 3, 1) := by decide +kernel
theorem d_X6_found_14 : decode prog_1_method_20_code 14 = .ok (.iload_n 2, 1) := by decide +kernel
theorem d_X6_found_15 : decode prog_1_method_20_code 15 = .ok (.invokestatic 200, 3) := by decide +kernel
theorem d_X6_found_18 : decode prog_1_method_20_code 18 = .ok (.ifCond .ne 6, 3) := by decide +kernel
theorem d_X6_found_21 : decode prog_1_method_20_code 21 = .ok (.bipush (-2), 2) := by decide +kernel
theorem d_X6_found_23 : decode prog_1_method_20_code 23 = .ok (.ireturn, 1) := by decide +kernel
theorem d_X6_found_24 : decode prog_1_method_20_code 24 = .ok (.aload_n 0, 1) := by decide +kernel
theorem d_X6_found_25 : decode prog_1_method_20_code 25 = .ok (.getfield 30, 3) := by decide +kernel
theorem d_X6_found_28 : decode prog_1_method_20_code 28 = .ok (.getfield 140, 3) := by decide +kernel
theorem d_X6_found_31 : decode prog_1_method_20_code 31 = .ok (.iload_n 1, 1) := by decide +kernel
theorem d_X6_found_32 : decode prog_1_method_20_code 32 = .ok (.aaload, 1) := by decide +kernel
theorem d_X6_found_33 : decode prog_1_method_20_code 33 = .ok (.astore 4, 2) := by decide +kernel
theorem d_X6_found_35 : decode prog_1_method_20_code 35 = .ok (.iconst 0, 1) := by decide +kernel
theorem d_X6_found_36 : decode prog_1_method_20_code 36 = .ok (.istore 5, 2) := by decide +kernel
theorem d_X6_found_38 : decode prog_1_method_20_code 38 = .ok (.iload 5, 2) := by decide +kernel
theorem d_X6_found_40 : decode prog_1_method_20_code 40 = .ok (.iload_n 2, 1) := by decide +kernel
theorem d_X6_found_41 : decode prog_1_method_20_code 41 = .ok (.iadd, 1) := by decide +kernel
theorem d_X6_found_42 : decode prog_1_method_20_code 42 = .ok (.iconst 4, 1) := by decide +kernel
theorem d_X6_found_43 : decode prog_1_method_20_code 43 = .ok (.if_icmp .gt 35, 3) := by decide +kernel
theorem d_X6_found_46 : decode prog_1_method_20_code 46 = .ok (.aload 4, 2) := by decide +kernel
theorem d_X6_found_48 : decode prog_1_method_20_code 48 = .ok (.iload 5, 2) := by decide +kernel
theorem d_X6_found_50 : decode prog_1_method_20_code 50 = .ok (.iload_n 2, 1) := by decide +kernel
theorem d_X6_found_51 : decode prog_1_method_20_code 51 = .ok (.invokevirtual 204, 3) := by decide +kernel
theorem d_X6_found_54 : decode prog_1_method_20_code 54 = .ok (.ifCond .eq 18, 3) := by decide +kernel
theorem d_X6_found_57 : decode prog_1_method_20_code 57 = .ok (.aload 4, 2) := by decide +kernel
theorem d_X6_found_59 : decode prog_1_method_20_code 59 = .ok (.iload 5, 2) := by decide +kernel
theorem d_X6_found_61 : decode prog_1_method_20_code 61 = .ok (.iload_n 2, 1) := by decide +kernel
theorem d_X6_found_62 : decode prog_1_method_20_code 62 = .ok (.iload_n 3, 1) := by decide +kernel
theorem d_X6_found_63 : decode prog_1_method_20_code 63 = .ok (.invokestatic 207, 3) := by decide +kernel
theorem d_X6_found_66 : decode prog_1_method_20_code 66 = .ok (.ifCond .eq 6, 3) := by decide +kernel
theorem d_X6_found_69 : decode prog_1_method_20_code 69 = .ok (.iload 5, 2) := by decide +kernel
theorem d_X6_found_71 : decode prog_1_method_20_code 71 = .ok (.ireturn, 1) := by decide +kernel
theorem d_X6_found_72 : decode prog_1_method_20_code 72 = .ok (.iinc 5 1, 3) := by decide +kernel
theorem d_X6_found_75 : decode prog_1_method_20_code 75 = .ok (.goto (-37), 3) := by decide +kernel
theorem d_X6_found_78 : decode prog_1_method_20_code 78 = .ok (.bipush (-9), 2) := by decide +kernel
theorem d_X6_found_80 : decode prog_1_method_20_code 80 = .ok (.ireturn, 1) := by decide +kernel
def m_X6_found_b72 (sh : Sh) (k38 : Int32 → Mu → Option (Int32 × Mu)) (v2 : Int32) (v3 : Int32) (v4 : Nat) (v5 : Int32) (μ : Mu) : Option (Int32 × Mu) :=
  bd (v5 + 1) fun w23 =>
  k38 w23 μ
def m_X6_found_b38 (sh : Sh) (k38 : Int32 → Mu → Option (Int32 × Mu)) (v2 : Int32) (v3 : Int32) (v4 : Nat) (v5 : Int32) (μ : Mu) : Option (Int32 × Mu) :=
  if 4 < (v5 + v2) then
    some ((-9), μ)
  else
    gd (iz sh 5 v4) <|
    ca2 (m_X5_isWhole sh v4 v5 v2 μ) fun r17 μ18 =>
    if r17 = 0 then
      m_X6_found_b72 sh k38 v2 v3 v4 v5 μ18
    else
      ca2 (m_X6_showsRow sh v4 v5 v2 v3 μ18) fun r20 μ21 =>
      if r20 = 0 then
        m_X6_found_b72 sh k38 v2 v3 v4 v5 μ21
      else
        some (v5, μ21)
def m_X6_found_h38 (sh : Sh) (v2 : Int32) (v3 : Int32) (v4 : Nat) : Nat → Int32 → Mu → Option (Int32 × Mu)
  | 0 => fun _ _ => none
  | f + 1 => fun v5 μ => m_X6_found_b38 sh (m_X6_found_h38 sh v2 v3 v4 f) v2 v3 v4 v5 μ
def m_X6_found (sh : Sh) (v0 : Nat) (v1 : Int32) (v2 : Int32) (v3 : Int32) (μ : Mu) : Option (Int32 × Mu) :=
  gd (iz sh 6 v0) <|
  bd (gR μ v0 4) fun a2 =>
  gd (iz sh 4 a2) <|
  ca2 (m_X4_hasStrip sh a2 v1 μ) fun r4 μ5 =>
  if r4 = 0 then
    some ((-1), μ5)
  else
    ca2 (m_X6_isRow sh v3 v2 μ5) fun r7 μ8 =>
    if r7 = 0 then
      some ((-2), μ8)
    else
      bd (gR μ8 v0 4) fun a10 =>
      gd (iz sh 4 a10) <|
      bd (gR μ8 a10 5) fun a12 =>
      gd (ix sh 11 a12 v1) <|
      bd (gR μ8 a12 v1.toNatClampNeg) fun a14 =>
      m_X6_found_h38 sh v2 v3 a14 FU 0 μ8
set_option maxHeartbeats 4000000 in
set_option maxRecDepth 20000 in
theorem t_X6_found_b72 {l : Launch} {G : Gl} {n : Nat} {sh : Sh} {x : Int32 × Mu} {k38 : Int32 → Mu → Option (Int32 × Mu)} {v2 : Int32} {v3 : Int32} {v4 : Nat} {v5 : Int32} {μ : Mu} (hk38 : ∀ (v5 : Int32) (μ : Mu), k38 v5 μ = some x → Sj l G (QI G n sh x) c_X6_found n sh 0 0 μ 38 [none, none, some (vi v2), some (vi v3), some (vr v4), some (vi v5)] []) (h : m_X6_found_b72 sh k38 v2 v3 v4 v5 μ = some x) : Sj l G (QI G n sh x) c_X6_found n sh 0 0 μ 72 [none, none, some (vi v2), some (vi v3), some (vr v4), some (vi v5)] [] := by
  unfold m_X6_found_b72 at h
  obtain ⟨w23, ew23, h⟩ := bd_1 h
  refine s_iinc (pc := 72) (v := w23) (lc' := [none, none, some (vi v2), some (vi v3), some (vr v4), some (vi w23)]) d_X6_found_72 rfl (by rw [ew23]; rfl) (by decide) rfl ?_
  refine s_goto (pc := 75) (tgt := 38) d_X6_found_75 (by decide) ?_
  exact hk38 _ _ h
set_option maxHeartbeats 4000000 in
set_option maxRecDepth 20000 in
theorem t_X6_found_b38 {l : Launch} {G : Gl} {n : Nat} {sh : Sh} {x : Int32 × Mu} {k38 : Int32 → Mu → Option (Int32 × Mu)} {v2 : Int32} {v3 : Int32} {v4 : Nat} {v5 : Int32} {μ : Mu} (hk38 : ∀ (v5 : Int32) (μ : Mu), k38 v5 μ = some x → Sj l G (QI G n sh x) c_X6_found n sh 0 0 μ 38 [none, none, some (vi v2), some (vi v3), some (vr v4), some (vi v5)] []) (h : m_X6_found_b38 sh k38 v2 v3 v4 v5 μ = some x) : Sj l G (QI G n sh x) c_X6_found n sh 0 0 μ 38 [none, none, some (vi v2), some (vi v3), some (vr v4), some (vi v5)] [] := by
  unfold m_X6_found_b38 at h
  refine s_iload (pc := 38) d_X6_found_38 rfl ?_
  refine s_iload_n (pc := 40) d_X6_found_40 rfl rfl ?_
  refine s_iadd (pc := 41) d_X6_found_41 ?_
  refine s_iconst (pc := 42) (v := 4) d_X6_found_42 (by decide) ?_
  refine s_icmp_gt (pc := 43) (tgt := 78) d_X6_found_43 (by decide) (fun c15 => ?_) (fun c15 => ?_)
  · have h := it_t c15 h
    refine s_bipush (pc := 78) (v := (-9)) d_X6_found_78 (by decide) ?_
    obtain rfl := Option.some.inj h
    exact s_iret (pc := 80) d_X6_found_80 rfl
  · have h := it_f c15 h
    refine s_aload (pc := 46) d_X6_found_46 rfl ?_
    refine s_iload (pc := 48) d_X6_found_48 rfl ?_
    refine s_iload_n (pc := 50) d_X6_found_50 rfl rfl ?_
    obtain ⟨g16, h⟩ := gd_1 h
    obtain ⟨r17, μ18, er17, h⟩ := ca2_1 h
    refine s_callV (pc := 51) (as := [vi v5, vi v2]) (st := []) (vo := [vi r17]) (t_X5_isWhole er17) cl_5 g16 d_X6_found_51 y_X5_isWhole w_483 w_484 w_485 ⟨by decide, by decide⟩ ⟨Nat.le_of_ble_eq_true rfl, Nat.le_of_ble_eq_true rfl⟩ (Nat.le_of_ble_eq_true rfl) rfl rfl rfl ?_
    refine s_as (kc' := 0) (js' := 0) (pc' := 54) (st' := [vi r17]) ⟨rfl, rfl, rfl, rfl⟩ ?_
    refine s_if_eq (pc := 54) (tgt := 72) d_X6_found_54 (by decide) (fun c19 => ?_) (fun c19 => ?_)
    · have h := it_t c19 h
      exact t_X6_found_b72 hk38 h
    · have h := it_f c19 h
      refine s_aload (pc := 57) d_X6_found_57 rfl ?_
      refine s_iload (pc := 59) d_X6_found_59 rfl ?_
      refine s_iload_n (pc := 61) d_X6_found_61 rfl rfl ?_
      refine s_iload_n (pc := 62) d_X6_found_62 rfl rfl ?_
      obtain ⟨r20, μ21, er20, h⟩ := ca2_1 h
      refine s_callS (pc := 63) (as := [vr v4, vi v5, vi v2, vi v3]) (st := []) (vo := [vi r20]) (t_X6_showsRow er20) d_X6_found_63 y_X6_showsRow w_487 w_488 ⟨by decide, by decide⟩ ⟨Nat.le_of_ble_eq_true rfl, Nat.le_of_ble_eq_true rfl⟩ (Nat.le_of_ble_eq_true rfl) rfl rfl rfl ?_
      refine s_as (kc' := 0) (js' := 0) (pc' := 66) (st' := [vi r20]) ⟨rfl, rfl, rfl, rfl⟩ ?_
      refine s_if_eq (pc := 66) (tgt := 72) d_X6_found_66 (by decide) (fun c22 => ?_) (fun c22 => ?_)
      · have h := it_t c22 h
        exact t_X6_found_b72 hk38 h
      · have h := it_f c22 h
        refine s_iload (pc := 69) d_X6_found_69 rfl ?_
        obtain rfl := Option.some.inj h
        exact s_iret (pc := 71) d_X6_found_71 rfl
set_option maxHeartbeats 4000000 in
set_option maxRecDepth 20000 in
theorem t_X6_found_h38 {l : Launch} {G : Gl} {n : Nat} {sh : Sh} {x : Int32 × Mu} {v2 : Int32} {v3 : Int32} {v4 : Nat} : ∀ (f : Nat) (v5 : Int32) (μ : Mu), m_X6_found_h38 sh v2 v3 v4 f v5 μ = some x → Sj l G (QI G n sh x) c_X6_found n sh 0 0 μ 38 [none, none, some (vi v2), some (vi v3), some (vr v4), some (vi v5)] [] := by
  intro f
  induction f with
  | zero =>
    intro v5 μ h
    cases h
  | succ f ih =>
    intro v5 μ h
    exact t_X6_found_b38 ih h
set_option maxHeartbeats 4000000 in
set_option maxRecDepth 20000 in
theorem t_X6_found {l : Launch} {G : Gl} {n : Nat} {sh : Sh} {x : Int32 × Mu} {v0 : Nat} {v1 : Int32} {v2 : Int32} {v3 : Int32} {μ : Mu} (h : m_X6_found sh v0 v1 v2 v3 μ = some x) : Ct l G ⟨"StripsOfFour", "found", "(III)I"⟩ prog_1_method_20_code 6 (some .int) { frames := 2, cells := 0, slots := 0, locals := 47 } n sh μ [vr v0, vi v1, vi v2, vi v3] (some (.int x.1)) n sh x.2 := by
  refine Ct.of (lc := [some (vr v0), some (vi v1), some (vi v2), some (vi v3), none, none]) (by decide +kernel) (Nat.le_of_ble_eq_true rfl) rfl ?_
  show Sj l G (QI G n sh x) c_X6_found n sh 0 0 μ 0 [some (vr v0), some (vi v1), some (vi v2), some (vi v3), none, none] []
  unfold m_X6_found at h
  refine s_aload_n (pc := 0) d_X6_found_0 rfl rfl ?_
  obtain ⟨g1, h⟩ := gd_1 h
  refine s_getR (pc := 1) (k := 4) cl_6 d_X6_found_1 g1 (by decide) w_200 (rt_obj _) ?_
  obtain ⟨a2, ea2, h⟩ := bd_1 h
  refine s_topR ea2 ?_
  refine s_iload_n (pc := 4) d_X6_found_4 rfl rfl ?_
  obtain ⟨g3, h⟩ := gd_1 h
  obtain ⟨r4, μ5, er4, h⟩ := ca2_1 h
  refine s_callV (pc := 5) (as := [vi v1]) (st := []) (vo := [vi r4]) (t_X4_hasStrip er4) cl_4 g3 d_X6_found_5 y_X4_hasStrip w_341 w_342 w_343 ⟨by decide, by decide⟩ ⟨Nat.le_of_ble_eq_true rfl, Nat.le_of_ble_eq_true rfl⟩ (Nat.le_of_ble_eq_true rfl) rfl rfl rfl ?_
  refine s_as (kc' := 0) (js' := 0) (pc' := 8) (st' := [vi r4]) ⟨rfl, rfl, rfl, rfl⟩ ?_
  refine s_if_ne (pc := 8) (tgt := 13) d_X6_found_8 (by decide) (fun c6 => ?_) (fun c6 => ?_)
  · have h := it_f c6 h
    refine s_iload_n (pc := 13) d_X6_found_13 rfl rfl ?_
    refine s_iload_n (pc := 14) d_X6_found_14 rfl rfl ?_
    obtain ⟨r7, μ8, er7, h⟩ := ca2_1 h
    refine s_callS (pc := 15) (as := [vi v3, vi v2]) (st := []) (vo := [vi r7]) (t_X6_isRow er7) d_X6_found_15 y_X6_isRow w_475 w_476 ⟨by decide, by decide⟩ ⟨Nat.le_of_ble_eq_true rfl, Nat.le_of_ble_eq_true rfl⟩ (Nat.le_of_ble_eq_true rfl) rfl rfl rfl ?_
    refine s_as (kc' := 0) (js' := 0) (pc' := 18) (st' := [vi r7]) ⟨rfl, rfl, rfl, rfl⟩ ?_
    refine s_if_ne (pc := 18) (tgt := 24) d_X6_found_18 (by decide) (fun c9 => ?_) (fun c9 => ?_)
    · have h := it_f c9 h
      refine s_aload_n (pc := 24) d_X6_found_24 rfl rfl ?_
      refine s_getR (pc := 25) (k := 4) cl_6 d_X6_found_25 g1 (by decide) w_200 (rt_obj _) ?_
      obtain ⟨a10, ea10, h⟩ := bd_1 h
      refine s_topR ea10 ?_
      obtain ⟨g11, h⟩ := gd_1 h
      refine s_getR (pc := 28) (k := 5) cl_4 d_X6_found_28 g11 (by decide) w_108 (rt_arr _) ?_
      obtain ⟨a12, ea12, h⟩ := bd_1 h
      refine s_topR ea12 ?_
      refine s_iload_n (pc := 31) d_X6_found_31 rfl rfl ?_
      obtain ⟨g13, h⟩ := gd_1 h
      refine s_aald11 (pc := 32) d_X6_found_32 g13 ?_
      obtain ⟨a14, ea14, h⟩ := bd_1 h
      refine s_topR ea14 ?_
      refine s_astore (pc := 33) (lc' := [some (vr v0), some (vi v1), some (vi v2), some (vi v3), some (vr a14), none]) d_X6_found_33 (by decide) rfl ?_
      refine s_iconst (pc := 35) (v := 0) d_X6_found_35 (by decide) ?_
      refine s_istore (pc := 36) (lc' := [some (vr v0), some (vi v1), some (vi v2), some (vi v3), some (vr a14), some (vi 0)]) d_X6_found_36 (by decide) rfl ?_
      refine s_mask [false, false, true, true, true, true] rfl ?_
      exact t_X6_found_h38 FU _ _ h
    · have h := it_t c9 h
      refine s_bipush (pc := 21) (v := (-2)) d_X6_found_21 (by decide) ?_
      obtain rfl := Option.some.inj h
      exact s_iret (pc := 23) d_X6_found_23 rfl
  · have h := it_t c6 h
    refine s_iconst (pc := 11) (v := (-1)) d_X6_found_11 (by decide) ?_
    obtain rfl := Option.some.inj h
    exact s_iret (pc := 12) d_X6_found_12 rfl
/-! StripsOfFour.hat -/
abbrev c_X6_hat : Cf := (prog_1_method_14_code, 4, "StripsOfFour", "hat", (some .int), { frames := 4, cells := 0, slots := 0, locals := 132 })
theorem d_X6_hat_0 : decode prog_1_method_14_code 0 = .ok (.aload_n 0, 1) := by decide +kernel
theorem d_X6_hat_1 : decode prog_1_method_14_code 1 = .ok (.getfield 20, 3) := by decide +kernel
theorem d_X6_hat_4 : decode prog_1_method_14_code 4 = .ok (.iload_n 1, 1) := by decide +kernel
theorem d_X6_hat_5 : decode prog_1_method_14_code 5 = .ok (.invokevirtual 122, 3) := by decide +kernel
theorem d_X6_hat_8 : decode prog_1_method_14_code 8 = .ok (.ifCond .ne 5, 3) := by decide +kernel
theorem d_X6_hat_11 : decode prog_1_method_14_code 11 = .ok (.iconst (-1), 1) := by decide +kernel
theorem d_X6_hat_12 : decode prog_1_method_14_code 12 = .ok (.ireturn, 1) := by decide +kernel
theorem d_X6_hat_13 : decode prog_1_method_14_code 13 = .ok (.aload_n 0, 1) := by decide +kernel
theorem d_X6_hat_14 : decode prog_1_method_14_code 14 = .ok (.getfield 30, 3) := by decide +kernel
theorem d_X6_hat_17 : decode prog_1_method_14_code 17 = .ok (.iload_n 1, 1) := by decide +kernel
theorem d_X6_hat_18 : decode prog_1_method_14_code 18 = .ok (.invokevirtual 128, 3) := by decide +kernel
theorem d_X6_hat_21 : decode prog_1_method_14_code 21 = .ok (.istore_n 2, 1) := by decide +kernel
theorem d_X6_hat_22 : decode prog_1_method_14_code 22 = .ok (.aload_n 0, 1) := by decide +kernel
theorem d_X6_hat_23 : decode prog_1_method_14_code 23 = .ok (.getfield 30, 3) := by decide +kernel
theorem d_X6_hat_26 : decode prog_1_method_14_code 26 = .ok (.getfield 91, 3) := by decide +kernel
theorem d_X6_hat_29 : decode prog_1_method_14_code 29 = .ok (.istore_n 3, 1) := by decide +kernel
theorem d_X6_hat_30 : decode prog_1_method_14_code 30 = .ok (.iload_n 2, 1) := by decide +kernel
theorem d_X6_hat_31 : decode prog_1_method_14_code 31 = .ok (.bipush (-9), 2) := by decide +kernel
theorem d_X6_hat_33 : decode prog_1_method_14_code 33 = .ok (.if_icmp .eq 26, 3) := by decide +kernel
theorem d_X6_hat_36 : decode prog_1_method_14_code 36 = .ok (.iload_n 3, 1) := by decide +kernel
theorem d_X6_hat_37 : decode prog_1_method_14_code 37 = .ok (.iload_n 1, 1) := by decide +kernel
theorem d_X6_hat_38 : decode prog_1_method_14_code 38 = .ok (.if_icmp .eq 21, 3) := by decide +kernel
theorem d_X6_hat_41 : decode prog_1_method_14_code 41 = .ok (.iload_n 3, 1) := by decide +kernel
theorem d_X6_hat_42 : decode prog_1_method_14_code 42 = .ok (.bipush (-9), 2) := by decide +kernel
theorem d_X6_hat_44 : decode prog_1_method_14_code 44 = .ok (.if_icmp .eq 18, 3) := by decide +kernel
theorem d_X6_hat_47 : decode prog_1_method_14_code 47 = .ok (.aload_n 0, 1) := by decide +kernel
theorem d_X6_hat_48 : decode prog_1_method_14_code 48 = .ok (.getfield 30, 3) := by decide +kernel
theorem d_X6_hat_51 : decode prog_1_method_14_code 51 = .ok (.iload_n 3, 1) := by decide +kernel
theorem d_X6_hat_52 : decode prog_1_method_14_code 52 = .ok (.invokevirtual 128, 3) := by decide +kernel
theorem d_X6_hat_55 : decode prog_1_method_14_code 55 = .ok (.iload_n 2, 1) := by decide +kernel
theorem d_X6_hat_56 : decode prog_1_method_14_code 56 = .ok (.if_icmp .eq 6, 3) := by decide +kernel
theorem d_X6_hat_59 : decode prog_1_method_14_code 59 = .ok (.bipush (-3), 2) := by decide +kernel
theorem d_X6_hat_61 : decode prog_1_method_14_code 61 = .ok (.ireturn, 1) := by decide +kernel
theorem d_X6_hat_62 : decode prog_1_method_14_code 62 = .ok (.aload_n 0, 1) := by decide +kernel
theorem d_X6_hat_63 : decode prog_1_method_14_code 63 = .ok (.getfield 37, 3) := by decide +kernel
theorem d_X6_hat_66 : decode prog_1_method_14_code 66 = .ok (.aload_n 0, 1) := by decide +kernel
theorem d_X6_hat_67 : decode prog_1_method_14_code 67 = .ok (.getfield 30, 3) := by decide +kernel
theorem d_X6_hat_70 : decode prog_1_method_14_code 70 = .ok (.invokevirtual 174, 3) := by decide +kernel
theorem d_X6_hat_73 : decode prog_1_method_14_code 73 = .ok (.aload_n 0, 1) := by decide +kernel
theorem d_X6_hat_74 : decode prog_1_method_14_code 74 = .ok (.getfield 30, 3) := by decide +kernel
theorem d_X6_hat_77 : decode prog_1_method_14_code 77 = .ok (.iload_n 1, 1) := by decide +kernel
theorem d_X6_hat_78 : decode prog_1_method_14_code 78 = .ok (.putfield 91, 3) := by decide +kernel
theorem d_X6_hat_81 : decode prog_1_method_14_code 81 = .ok (.iload_n 3, 1) := by decide +kernel
theorem d_X6_hat_82 : decode prog_1_method_14_code 82 = .ok (.ireturn, 1) := by decide +kernel
def m_X6_hat_b62 (sh : Sh) (v0 : Nat) (v1 : Int32) (v3 : Int32) (μ : Mu) : Option (Int32 × Mu) :=
  gd (iz sh 6 v0) <|
  bd (gR μ v0 5) fun a23 =>
  bd (gR μ v0 4) fun a24 =>
  gd (iz sh 1 a23) <|
  ca (m_X1_remember sh a23 a24 μ) fun μ26 =>
  bd (gR μ26 v0 4) fun a27 =>
  gd (iz sh 4 a27) <|
  bd (sI μ26 a27 3 v1) fun μ29 =>
  some (v3, μ29)
def m_X6_hat (sh : Sh) (v0 : Nat) (v1 : Int32) (μ : Mu) : Option (Int32 × Mu) :=
  gd (iz sh 6 v0) <|
  bd (gR μ v0 2) fun a2 =>
  gd (iz sh 2 a2) <|
  ca2 (m_X2_hasPerson sh a2 v1 μ) fun r4 μ5 =>
  if r4 = 0 then
    some ((-1), μ5)
  else
    bd (gR μ5 v0 4) fun a7 =>
    gd (iz sh 4 a7) <|
    ca2 (m_X4_placeOf sh a7 v1 μ5) fun r9 μ10 =>
    bd (gR μ10 v0 4) fun a11 =>
    gd (iz sh 4 a11) <|
    bd (gI μ10 a11 3) fun w13 =>
    if r9 = (-9) then
      some ((-3), μ10)
    else
      if w13 = v1 then
        some ((-3), μ10)
      else
        if w13 = (-9) then
          m_X6_hat_b62 sh v0 v1 w13 μ10
        else
          bd (gR μ10 v0 4) fun a17 =>
          gd (iz sh 4 a17) <|
          ca2 (m_X4_placeOf sh a17 w13 μ10) fun r19 μ20 =>
          if r19 = r9 then
            m_X6_hat_b62 sh v0 v1 w13 μ20
          else
            some ((-3), μ20)
set_option maxHeartbeats 4000000 in
set_option maxRecDepth 20000 in
theorem t_X6_hat_b62 {l : Launch} {G : Gl} {n : Nat} {sh : Sh} {x : Int32 × Mu} {v0 : Nat} {v1 : Int32} {v3 : Int32} {μ : Mu} (h : m_X6_hat_b62 sh v0 v1 v3 μ = some x) : Sj l G (QI G n sh x) c_X6_hat n sh 0 0 μ 62 [some (vr v0), some (vi v1), none, some (vi v3)] [] := by
  unfold m_X6_hat_b62 at h
  refine s_aload_n (pc := 62) d_X6_hat_62 rfl rfl ?_
  obtain ⟨g22, h⟩ := gd_1 h
  refine s_getR (pc := 63) (k := 5) cl_6 d_X6_hat_63 g22 (by decide) w_201 (rt_obj _) ?_
  obtain ⟨a23, ea23, h⟩ := bd_1 h
  refine s_topR ea23 ?_
  refine s_aload_n (pc := 66) d_X6_hat_66 rfl rfl ?_
  refine s_getR (pc := 67) (k := 4) cl_6 d_X6_hat_67 g22 (by decide) w_200 (rt_obj _) ?_
  obtain ⟨a24, ea24, h⟩ := bd_1 h
  refine s_topR ea24 ?_
  obtain ⟨g25, h⟩ := gd_1 h
  obtain ⟨μ26, eμ26, h⟩ := ca_1 h
  refine s_callV (pc := 70) (as := [vr a24]) (st := []) (vo := []) (t_X1_remember eμ26) cl_1 g25 d_X6_hat_70 y_X1_remember w_378 w_379 w_380 ⟨by decide, by decide⟩ ⟨Nat.le_of_ble_eq_true rfl, Nat.le_of_ble_eq_true rfl⟩ (Nat.le_of_ble_eq_true rfl) rfl rfl rfl ?_
  refine s_as (kc' := 0) (js' := 0) (pc' := 73) (st' := []) ⟨rfl, rfl, rfl, rfl⟩ ?_
  refine s_aload_n (pc := 73) d_X6_hat_73 rfl rfl ?_
  refine s_getR (pc := 74) (k := 4) cl_6 d_X6_hat_74 g22 (by decide) w_200 (rt_obj _) ?_
  obtain ⟨a27, ea27, h⟩ := bd_1 h
  refine s_topR ea27 ?_
  refine s_iload_n (pc := 77) d_X6_hat_77 rfl rfl ?_
  obtain ⟨g28, h⟩ := gd_1 h
  refine s_putI (pc := 78) (k := 3) cl_4 d_X6_hat_78 g28 (by decide) w_101 rfl rfl ?_
  obtain ⟨μ29, eμ29, h⟩ := bd_1 h
  refine s_mu eμ29 ?_
  refine s_iload_n (pc := 81) d_X6_hat_81 rfl rfl ?_
  obtain rfl := Option.some.inj h
  exact s_iret (pc := 82) d_X6_hat_82 rfl
set_option maxHeartbeats 4000000 in
set_option maxRecDepth 20000 in
theorem t_X6_hat {l : Launch} {G : Gl} {n : Nat} {sh : Sh} {x : Int32 × Mu} {v0 : Nat} {v1 : Int32} {μ : Mu} (h : m_X6_hat sh v0 v1 μ = some x) : Ct l G ⟨"StripsOfFour", "hat", "(I)I"⟩ prog_1_method_14_code 4 (some .int) { frames := 4, cells := 0, slots := 0, locals := 132 } n sh μ [vr v0, vi v1] (some (.int x.1)) n sh x.2 := by
  refine Ct.of (lc := [some (vr v0), some (vi v1), none, none]) (by decide +kernel) (Nat.le_of_ble_eq_true rfl) rfl ?_
  show Sj l G (QI G n sh x) c_X6_hat n sh 0 0 μ 0 [some (vr v0), some (vi v1), none, none] []
  unfold m_X6_hat at h
  refine s_aload_n (pc := 0) d_X6_hat_0 rfl rfl ?_
  obtain ⟨g1, h⟩ := gd_1 h
  refine s_getR (pc := 1) (k := 2) cl_6 d_X6_hat_1 g1 (by decide) w_198 (rt_obj _) ?_
  obtain ⟨a2, ea2, h⟩ := bd_1 h
  refine s_topR ea2 ?_
  refine s_iload_n (pc := 4) d_X6_hat_4 rfl rfl ?_
  obtain ⟨g3, h⟩ := gd_1 h
  obtain ⟨r4, μ5, er4, h⟩ := ca2_1 h
  refine s_callV (pc := 5) (as := [vi v1]) (st := []) (vo := [vi r4]) (t_X2_hasPerson er4) cl_2 g3 d_X6_hat_5 y_X2_hasPerson w_317 w_260 w_261 ⟨by decide, by decide⟩ ⟨Nat.le_of_ble_eq_true rfl, Nat.le_of_ble_eq_true rfl⟩ (Nat.le_of_ble_eq_true rfl) rfl rfl rfl ?_
  refine s_as (kc' := 0) (js' := 0) (pc' := 8) (st' := [vi r4]) ⟨rfl, rfl, rfl, rfl⟩ ?_
  refine s_if_ne (pc := 8) (tgt := 13) d_X6_hat_8 (by decide) (fun c6 => ?_) (fun c6 => ?_)
  · have h := it_f c6 h
    refine s_aload_n (pc := 13) d_X6_hat_13 rfl rfl ?_
    refine s_getR (pc := 14) (k := 4) cl_6 d_X6_hat_14 g1 (by decide) w_200 (rt_obj _) ?_
    obtain ⟨a7, ea7, h⟩ := bd_1 h
    refine s_topR ea7 ?_
    refine s_iload_n (pc := 17) d_X6_hat_17 rfl rfl ?_
    obtain ⟨g8, h⟩ := gd_1 h
    obtain ⟨r9, μ10, er9, h⟩ := ca2_1 h
    refine s_callV (pc := 18) (as := [vi v1]) (st := []) (vo := [vi r9]) (t_X4_placeOf er9) cl_4 g8 d_X6_hat_18 y_X4_placeOf w_322 w_323 w_324 ⟨by decide, by decide⟩ ⟨Nat.le_of_ble_eq_true rfl, Nat.le_of_ble_eq_true rfl⟩ (Nat.le_of_ble_eq_true rfl) rfl rfl rfl ?_
    refine s_as (kc' := 0) (js' := 0) (pc' := 21) (st' := [vi r9]) ⟨rfl, rfl, rfl, rfl⟩ ?_
    refine s_istore_n (pc := 21) (lc' := [some (vr v0), some (vi v1), some (vi r9), none]) d_X6_hat_21 rfl (by decide) rfl ?_
    refine s_aload_n (pc := 22) d_X6_hat_22 rfl rfl ?_
    refine s_getR (pc := 23) (k := 4) cl_6 d_X6_hat_23 g1 (by decide) w_200 (rt_obj _) ?_
    obtain ⟨a11, ea11, h⟩ := bd_1 h
    refine s_topR ea11 ?_
    obtain ⟨g12, h⟩ := gd_1 h
    refine s_getI (pc := 26) (k := 3) cl_4 d_X6_hat_26 g12 (by decide) w_101 rfl ?_
    obtain ⟨w13, ew13, h⟩ := bd_1 h
    refine s_topI ew13 ?_
    refine s_istore_n (pc := 29) (lc' := [some (vr v0), some (vi v1), some (vi r9), some (vi w13)]) d_X6_hat_29 rfl (by decide) rfl ?_
    refine s_iload_n (pc := 30) d_X6_hat_30 rfl rfl ?_
    refine s_bipush (pc := 31) (v := (-9)) d_X6_hat_31 (by decide) ?_
    refine s_icmp_eq (pc := 33) (tgt := 59) d_X6_hat_33 (by decide) (fun c14 => ?_) (fun c14 => ?_)
    · have h := it_t c14 h
      refine s_bipush (pc := 59) (v := (-3)) d_X6_hat_59 (by decide) ?_
      obtain rfl := Option.some.inj h
      exact s_iret (pc := 61) d_X6_hat_61 rfl
    · have h := it_f c14 h
      refine s_iload_n (pc := 36) d_X6_hat_36 rfl rfl ?_
      refine s_iload_n (pc := 37) d_X6_hat_37 rfl rfl ?_
      refine s_icmp_eq (pc := 38) (tgt := 59) d_X6_hat_38 (by decide) (fun c15 => ?_) (fun c15 => ?_)
      · have h := it_t c15 h
        refine s_bipush (pc := 59) (v := (-3)) d_X6_hat_59 (by decide) ?_
        obtain rfl := Option.some.inj h
        exact s_iret (pc := 61) d_X6_hat_61 rfl
      · have h := it_f c15 h
        refine s_iload_n (pc := 41) d_X6_hat_41 rfl rfl ?_
        refine s_bipush (pc := 42) (v := (-9)) d_X6_hat_42 (by decide) ?_
        refine s_icmp_eq (pc := 44) (tgt := 62) d_X6_hat_44 (by decide) (fun c16 => ?_) (fun c16 => ?_)
        · have h := it_t c16 h
          refine s_mask [true, true, false, true] rfl ?_
          exact t_X6_hat_b62 h
        · have h := it_f c16 h
          refine s_aload_n (pc := 47) d_X6_hat_47 rfl rfl ?_
          refine s_getR (pc := 48) (k := 4) cl_6 d_X6_hat_48 g1 (by decide) w_200 (rt_obj _) ?_
          obtain ⟨a17, ea17, h⟩ := bd_1 h
          refine s_topR ea17 ?_
          refine s_iload_n (pc := 51) d_X6_hat_51 rfl rfl ?_
          obtain ⟨g18, h⟩ := gd_1 h
          obtain ⟨r19, μ20, er19, h⟩ := ca2_1 h
          refine s_callV (pc := 52) (as := [vi w13]) (st := []) (vo := [vi r19]) (t_X4_placeOf er19) cl_4 g18 d_X6_hat_52 y_X4_placeOf w_322 w_323 w_324 ⟨by decide, by decide⟩ ⟨Nat.le_of_ble_eq_true rfl, Nat.le_of_ble_eq_true rfl⟩ (Nat.le_of_ble_eq_true rfl) rfl rfl rfl ?_
          refine s_as (kc' := 0) (js' := 0) (pc' := 55) (st' := [vi r19]) ⟨rfl, rfl, rfl, rfl⟩ ?_
          refine s_iload_n (pc := 55) d_X6_hat_55 rfl rfl ?_
          refine s_icmp_eq (pc := 56) (tgt := 62) d_X6_hat_56 (by decide) (fun c21 => ?_) (fun c21 => ?_)
          · have h := it_t c21 h
            refine s_mask [true, true, false, true] rfl ?_
            exact t_X6_hat_b62 h
          · have h := it_f c21 h
            refine s_bipush (pc := 59) (v := (-3)) d_X6_hat_59 (by decide) ?_
            obtain rfl := Option.some.inj h
            exact s_iret (pc := 61) d_X6_hat_61 rfl
  · have h := it_t c6 h
    refine s_iconst (pc := 11) (v := (-1)) d_X6_hat_11 (by decide) ?_
    obtain rfl := Option.some.inj h
    exact s_iret (pc := 12) d_X6_hat_12 rfl
/-! StripsOfFour.<init> -/
abbrev c_X6_init : Cf := (prog_1_method_1_code, 2, "StripsOfFour", "<init>", none, { frames := 4, cells := 412, slots := 4809, locals := 84 })
theorem d_X6_init_0 : decode prog_1_method_1_code 0 = .ok (.aload_n 0, 1) := by decide +kernel
theorem d_X6_init_1 : decode prog_1_method_1_code 1 = .ok (.invokespecial 1, 3) := by decide +kernel
theorem d_X6_init_4 : decode prog_1_method_1_code 4 = .ok (.aload_n 0, 1) := by decide +kernel
theorem d_X6_init_5 : decode prog_1_method_1_code 5 = .ok (.bipush 24, 2) := by decide +kernel
theorem d_X6_init_7 : decode prog_1_method_1_code 7 = .ok (.newarray .int, 2) := by decide +kernel
theorem d_X6_init_9 : decode prog_1_method_1_code 9 = .ok (.putfield 9, 3) := by decide +kernel
theorem d_X6_init_12 : decode prog_1_method_1_code 12 = .ok (.aload_n 0, 1) := by decide +kernel
theorem d_X6_init_13 : decode prog_1_method_1_code 13 = .ok (.iconst 0, 1) := by decide +kernel
theorem d_X6_init_14 : decode prog_1_method_1_code 14 = .ok (.putfield 13, 3) := by decide +kernel
theorem d_X6_init_17 : decode prog_1_method_1_code 17 = .ok (.aload_n 0, 1) := by decide +kernel
theorem d_X6_init_18 : decode prog_1_method_1_code 18 = .ok (.new 17, 3) := by decide +kernel
theorem d_X6_init_21 : decode prog_1_method_1_code 21 = .ok (.dup, 1) := by decide +kernel
theorem d_X6_init_22 : decode prog_1_method_1_code 22 = .ok (.invokespecial 19, 3) := by decide +kernel
theorem d_X6_init_25 : decode prog_1_method_1_code 25 = .ok (.putfield 20, 3) := by decide +kernel
theorem d_X6_init_28 : decode prog_1_method_1_code 28 = .ok (.aload_n 0, 1) := by decide +kernel
theorem d_X6_init_29 : decode prog_1_method_1_code 29 = .ok (.new 17, 3) := by decide +kernel
theorem d_X6_init_32 : decode prog_1_method_1_code 32 = .ok (.dup, 1) := by decide +kernel
theorem d_X6_init_33 : decode prog_1_method_1_code 33 = .ok (.invokespecial 19, 3) := by decide +kernel
theorem d_X6_init_36 : decode prog_1_method_1_code 36 = .ok (.putfield 24, 3) := by decide +kernel
theorem d_X6_init_39 : decode prog_1_method_1_code 39 = .ok (.aload_n 0, 1) := by decide +kernel
theorem d_X6_init_40 : decode prog_1_method_1_code 40 = .ok (.new 27, 3) := by decide +kernel
theorem d_X6_init_43 : decode prog_1_method_1_code 43 = .ok (.dup, 1) := by decide +kernel
theorem d_X6_init_44 : decode prog_1_method_1_code 44 = .ok (.invokespecial 29, 3) := by decide +kernel
theorem d_X6_init_47 : decode prog_1_method_1_code 47 = .ok (.putfield 30, 3) := by decide +kernel
theorem d_X6_init_50 : decode prog_1_method_1_code 50 = .ok (.aload_n 0, 1) := by decide +kernel
theorem d_X6_init_51 : decode prog_1_method_1_code 51 = .ok (.new 34, 3) := by decide +kernel
theorem d_X6_init_54 : decode prog_1_method_1_code 54 = .ok (.dup, 1) := by decide +kernel
theorem d_X6_init_55 : decode prog_1_method_1_code 55 = .ok (.invokespecial 36, 3) := by decide +kernel
theorem d_X6_init_58 : decode prog_1_method_1_code 58 = .ok (.putfield 37, 3) := by decide +kernel
theorem d_X6_init_61 : decode prog_1_method_1_code 61 = .ok (.aload_n 0, 1) := by decide +kernel
theorem d_X6_init_62 : decode prog_1_method_1_code 62 = .ok (.iconst 2, 1) := by decide +kernel
theorem d_X6_init_63 : decode prog_1_method_1_code 63 = .ok (.anewarray 27, 3) := by decide +kernel
theorem d_X6_init_66 : decode prog_1_method_1_code 66 = .ok (.putfield 41, 3) := by decide +kernel
theorem d_X6_init_69 : decode prog_1_method_1_code 69 = .ok (.aload_n 0, 1) := by decide +kernel
theorem d_X6_init_70 : decode prog_1_method_1_code 70 = .ok (.iconst 2, 1) := by decide +kernel
theorem d_X6_init_71 : decode prog_1_method_1_code 71 = .ok (.newarray .boolean, 2) := by decide +kernel
theorem d_X6_init_73 : decode prog_1_method_1_code 73 = .ok (.putfield 45, 3) := by decide +kernel
theorem d_X6_init_76 : decode prog_1_method_1_code 76 = .ok (.aload_n 0, 1) := by decide +kernel
theorem d_X6_init_77 : decode prog_1_method_1_code 77 = .ok (.new 49, 3) := by decide +kernel
theorem d_X6_init_80 : decode prog_1_method_1_code 80 = .ok (.dup, 1) := by decide +kernel
theorem d_X6_init_81 : decode prog_1_method_1_code 81 = .ok (.invokespecial 51, 3) := by decide +kernel
theorem d_X6_init_84 : decode prog_1_method_1_code 84 = .ok (.putfield 52, 3) := by decide +kernel
theorem d_X6_init_87 : decode prog_1_method_1_code 87 = .ok (.aload_n 0, 1) := by decide +kernel
theorem d_X6_init_88 : decode prog_1_method_1_code 88 = .ok (.new 56, 3) := by decide +kernel
theorem d_X6_init_91 : decode prog_1_method_1_code 91 = .ok (.dup, 1) := by decide +kernel
theorem d_X6_init_92 : decode prog_1_method_1_code 92 = .ok (.invokespecial 58, 3) := by decide +kernel
theorem d_X6_init_95 : decode prog_1_method_1_code 95 = .ok (.putfield 59, 3) := by decide +kernel
theorem d_X6_init_98 : decode prog_1_method_1_code 98 = .ok (.iconst 0, 1) := by decide +kernel
theorem d_X6_init_99 : decode prog_1_method_1_code 99 = .ok (.istore_n 1, 1) := by decide +kernel
theorem d_X6_init_100 : decode prog_1_method_1_code 100 = .ok (.iload_n 1, 1) := by decide +kernel
theorem d_X6_init_101 : decode prog_1_method_1_code 101 = .ok (.iconst 2, 1) := by decide +kernel
theorem d_X6_init_102 : decode prog_1_method_1_code 102 = .ok (.if_icmp .ge 22, 3) := by decide +kernel
theorem d_X6_init_105 : decode prog_1_method_1_code 105 = .ok (.aload_n 0, 1) := by decide +kernel
theorem d_X6_init_106 : decode prog_1_method_1_code 106 = .ok (.getfield 41, 3) := by decide +kernel
theorem d_X6_init_109 : decode prog_1_method_1_code 109 = .ok (.iload_n 1, 1) := by decide +kernel
theorem d_X6_init_110 : decode prog_1_method_1_code 110 = .ok (.new 27, 3) := by decide +kernel
theorem d_X6_init_113 : decode prog_1_method_1_code 113 = .ok (.dup, 1) := by decide +kernel
theorem d_X6_init_114 : decode prog_1_method_1_code 114 = .ok (.invokespecial 29, 3) := by decide +kernel
theorem d_X6_init_117 : decode prog_1_method_1_code 117 = .ok (.aastore, 1) := by decide +kernel
theorem d_X6_init_118 : decode prog_1_method_1_code 118 = .ok (.iinc 1 1, 3) := by decide +kernel
theorem d_X6_init_121 : decode prog_1_method_1_code 121 = .ok (.goto (-21), 3) := by decide +kernel
theorem d_X6_init_124 : decode prog_1_method_1_code 124 = .ok (.return_, 1) := by decide +kernel
def m_X6_init_b100 (k100 : Int32 → Nat → Nat → Nat → Sh → Mu → Option (Nat × Sh × Mu)) (v0 : Nat) (v1 : Int32) (n kc js : Nat) (sh : Sh) (μ : Mu) : Option (Nat × Sh × Mu) :=
  if 2 ≤ v1 then
    gd (eqB kc 412 js 4809) <|
    some (n, sh, μ)
  else
    gd (iz sh 6 v0) <|
    bd (gR μ v0 6) fun a126 =>
    gd (roomB (kc + 1) 412 (js + 10) 4809) <|
    bd (n + 1) fun n128 =>
    bd (kc + 1) fun kc129 =>
    bd (js + 10) fun js130 =>
    bd (shn sh n128 4 10) fun sh131 =>
    bd (zr μ n128) fun μ132 =>
    gd (nn0 n128) <|
    ca3 (m_X4_init n128 sh131 n128 μ132) fun n134 sh135 μ136 =>
    gd (roomB (kc129 + 25) 412 (js130 + 235) 4809) <|
    gd (eq1 n134 (n128 + 25)) <|
    bd (kc129 + 25) fun kc139 =>
    bd (js130 + 235) fun js140 =>
    gd (ix sh135 12 a126 v1) <|
    gd (iz sh135 4 n128) <|
    bd (sR μ136 a126 v1.toNatClampNeg n128) fun μ143 =>
    bd (v1 + 1) fun w144 =>
    k100 w144 n134 kc139 js140 sh135 μ143
def m_X6_init_h100 (v0 : Nat) : Nat → Int32 → Nat → Nat → Nat → Sh → Mu → Option (Nat × Sh × Mu)
  | 0 => fun _ _ _ _ _ _ => none
  | f + 1 => fun v1 n kc js sh μ => m_X6_init_b100 (m_X6_init_h100 v0 f) v0 v1 n kc js sh μ
def m_X6_init (n : Nat) (sh : Sh) (v0 : Nat) (μ : Mu) : Option (Nat × Sh × Mu) :=
  gd (nn0 v0) <|
  gd (roomB (0 + 1) 412 (0 + 24) 4809) <|
  bd (n + 1) fun n3 =>
  bd (0 + 1) fun kc4 =>
  bd (0 + 24) fun js5 =>
  bd (shn sh n3 8 24) fun sh6 =>
  bd (zr μ n3) fun μ7 =>
  gd (iz sh6 6 v0) <|
  bd (sR μ7 v0 0 n3) fun μ9 =>
  bd (sI μ9 v0 1 0) fun μ10 =>
  gd (roomB (kc4 + 1) 412 (js5 + 6) 4809) <|
  bd (n3 + 1) fun n12 =>
  bd (kc4 + 1) fun kc13 =>
  bd (js5 + 6) fun js14 =>
  bd (shn sh6 n12 2 6) fun sh15 =>
  bd (zr μ10 n12) fun μ16 =>
  gd (nn0 n12) <|
  ca3 (m_X2_init n12 sh15 n12 μ16) fun n18 sh19 μ20 =>
  gd (roomB (kc13 + 3) 412 (js14 + 9) 4809) <|
  gd (eq1 n18 (n12 + 3)) <|
  bd (kc13 + 3) fun kc23 =>
  bd (js14 + 9) fun js24 =>
  gd (iz sh19 6 v0) <|
  bd (sR μ20 v0 2 n12) fun μ26 =>
  gd (roomB (kc23 + 1) 412 (js24 + 6) 4809) <|
  bd (n18 + 1) fun n28 =>
  bd (kc23 + 1) fun kc29 =>
  bd (js24 + 6) fun js30 =>
  bd (shn sh19 n28 2 6) fun sh31 =>
  bd (zr μ26 n28) fun μ32 =>
  gd (nn0 n28) <|
  ca3 (m_X2_init n28 sh31 n28 μ32) fun n34 sh35 μ36 =>
  gd (roomB (kc29 + 3) 412 (js30 + 9) 4809) <|
  gd (eq1 n34 (n28 + 3)) <|
  bd (kc29 + 3) fun kc39 =>
  bd (js30 + 9) fun js40 =>
  gd (iz sh35 6 v0) <|
  bd (sR μ36 v0 3 n28) fun μ42 =>
  gd (roomB (kc39 + 1) 412 (js40 + 10) 4809) <|
  bd (n34 + 1) fun n44 =>
  bd (kc39 + 1) fun kc45 =>
  bd (js40 + 10) fun js46 =>
  bd (shn sh35 n44 4 10) fun sh47 =>
  bd (zr μ42 n44) fun μ48 =>
  gd (nn0 n44) <|
  ca3 (m_X4_init n44 sh47 n44 μ48) fun n50 sh51 μ52 =>
  gd (roomB (kc45 + 25) 412 (js46 + 235) 4809) <|
  gd (eq1 n50 (n44 + 25)) <|
  bd (kc45 + 25) fun kc55 =>
  bd (js46 + 235) fun js56 =>
  gd (iz sh51 6 v0) <|
  bd (sR μ52 v0 4 n44) fun μ58 =>
  gd (roomB (kc55 + 1) 412 (js56 + 3) 4809) <|
  bd (n50 + 1) fun n60 =>
  bd (kc55 + 1) fun kc61 =>
  bd (js56 + 3) fun js62 =>
  bd (shn sh51 n60 1 3) fun sh63 =>
  bd (zr μ58 n60) fun μ64 =>
  gd (nn0 n60) <|
  ca3 (m_X1_init n60 sh63 n60 μ64) fun n66 sh67 μ68 =>
  gd (roomB (kc61 + 313) 412 (js62 + 2952) 4809) <|
  gd (eq1 n66 (n60 + 313)) <|
  bd (kc61 + 313) fun kc71 =>
  bd (js62 + 2952) fun js72 =>
  gd (iz sh67 6 v0) <|
  bd (sR μ68 v0 5 n60) fun μ74 =>
  gd (roomB (kc71 + 1) 412 (js72 + 2) 4809) <|
  bd (n66 + 1) fun n76 =>
  bd (kc71 + 1) fun kc77 =>
  bd (js72 + 2) fun js78 =>
  bd (shn sh67 n76 12 2) fun sh79 =>
  bd (zr μ74 n76) fun μ80 =>
  gd (iz sh79 6 v0) <|
  bd (sR μ80 v0 6 n76) fun μ82 =>
  gd (roomB (kc77 + 1) 412 (js78 + 2) 4809) <|
  bd (n76 + 1) fun n84 =>
  bd (kc77 + 1) fun kc85 =>
  bd (js78 + 2) fun js86 =>
  bd (shn sh79 n84 10 2) fun sh87 =>
  bd (zr μ82 n84) fun μ88 =>
  gd (iz sh87 6 v0) <|
  bd (sR μ88 v0 7 n84) fun μ90 =>
  gd (roomB (kc85 + 1) 412 (js86 + 4) 4809) <|
  bd (n84 + 1) fun n92 =>
  bd (kc85 + 1) fun kc93 =>
  bd (js86 + 4) fun js94 =>
  bd (shn sh87 n92 0 4) fun sh95 =>
  bd (zr μ90 n92) fun μ96 =>
  gd (nn0 n92) <|
  ca3 (m_X0_init n92 sh95 n92 μ96) fun n98 sh99 μ100 =>
  gd (roomB (kc93 + 3) 412 (js94 + 272) 4809) <|
  gd (eq1 n98 (n92 + 3)) <|
  bd (kc93 + 3) fun kc103 =>
  bd (js94 + 272) fun js104 =>
  gd (iz sh99 6 v0) <|
  bd (sR μ100 v0 8 n92) fun μ106 =>
  gd (roomB (kc103 + 1) 412 (js104 + 5) 4809) <|
  bd (n98 + 1) fun n108 =>
  bd (kc103 + 1) fun kc109 =>
  bd (js104 + 5) fun js110 =>
  bd (shn sh99 n108 3 5) fun sh111 =>
  bd (zr μ106 n108) fun μ112 =>
  gd (nn0 n108) <|
  ca3 (m_X3_init n108 sh111 n108 μ112) fun n114 sh115 μ116 =>
  gd (roomB (kc109 + 4) 412 (js110 + 780) 4809) <|
  gd (eq1 n114 (n108 + 4)) <|
  bd (kc109 + 4) fun kc119 =>
  bd (js110 + 780) fun js120 =>
  gd (iz sh115 6 v0) <|
  bd (sR μ116 v0 9 n108) fun μ122 =>
  m_X6_init_h100 v0 FU 0 n114 kc119 js120 sh115 μ122
set_option maxHeartbeats 4000000 in
set_option maxRecDepth 20000 in
theorem t_X6_init_b100 {l : Launch} {G : Gl} {x : Nat × Sh × Mu} {k100 : Int32 → Nat → Nat → Nat → Sh → Mu → Option (Nat × Sh × Mu)} {v0 : Nat} {v1 : Int32} {n kc js : Nat} {sh : Sh} {μ : Mu} (hk100 : ∀ (v1 : Int32) (n kc js : Nat) (sh : Sh) (μ : Mu), k100 v1 n kc js sh μ = some x → Sj l G (QA G 412 4809 x) c_X6_init n sh kc js μ 100 [some (vr v0), some (vi v1)] []) (h : m_X6_init_b100 k100 v0 v1 n kc js sh μ = some x) : Sj l G (QA G 412 4809 x) c_X6_init n sh kc js μ 100 [some (vr v0), some (vi v1)] [] := by
  unfold m_X6_init_b100 at h
  refine s_iload_n (pc := 100) d_X6_init_100 rfl rfl ?_
  refine s_iconst (pc := 101) (v := 2) d_X6_init_101 (by decide) ?_
  refine s_icmp_ge (pc := 102) (tgt := 124) d_X6_init_102 (by decide) (fun c123 => ?_) (fun c123 => ?_)
  · have h := it_t c123 h
    obtain ⟨g124, h⟩ := gd_1 h
    obtain ⟨ez1, ez2⟩ := eqB_eq g124
    obtain rfl := Option.some.inj h
    refine s_as (kc' := 412) (js' := 4809) (pc' := 124) (st' := []) ⟨ez1.symm, ez2.symm, rfl, rfl⟩ ?_
    exact s_vret (pc := 124) d_X6_init_124 rfl
  · have h := it_f c123 h
    refine s_aload_n (pc := 105) d_X6_init_105 rfl rfl ?_
    obtain ⟨g125, h⟩ := gd_1 h
    refine s_getR (pc := 106) (k := 6) cl_6 d_X6_init_106 g125 (by decide) w_202 (rt_arr _) ?_
    obtain ⟨a126, ea126, h⟩ := bd_1 h
    refine s_topR ea126 ?_
    refine s_iload_n (pc := 109) d_X6_init_109 rfl rfl ?_
    obtain ⟨g127, h⟩ := gd_1 h
    refine s_new (pc := 110) cl_4 d_X6_init_110 w_49 w_50 w_3 (roomB_eq g127) ?_
    obtain ⟨n128, en128, h⟩ := bd_1 h
    obtain ⟨kc129, ekc129, h⟩ := bd_1 h
    obtain ⟨js130, ejs130, h⟩ := bd_1 h
    obtain ⟨sh131, esh131, h⟩ := bd_1 h
    obtain ⟨μ132, eμ132, h⟩ := bd_1 h
    rw [← en128]
    refine s_nsm (n' := n128) (sh' := sh131) (μ' := μ132) ⟨rfl, esh131, eμ132⟩ ?_
    refine s_as (kc' := kc129) (js' := js130) (pc' := 113) (st' := [vr n128, vi v1, vr a126]) ⟨ekc129, ejs130, rfl, rfl⟩ ?_
    refine s_dup (pc := 113) d_X6_init_113 rfl ?_
    obtain ⟨g133, h⟩ := gd_1 h
    obtain ⟨n134, sh135, μ136, ern134, h⟩ := ca3_1 h
    obtain ⟨g137, h⟩ := gd_1 h
    obtain ⟨g138, h⟩ := gd_1 h
    refine s_callI (pc := 114) (as := []) (st := [vr n128, vi v1, vr a126]) (t_X4_init ern134) (nn0_eq g133) d_X6_init_114 y_X4_init w_51 w_52 rfl ⟨by decide, by decide⟩ (roomB_eq g137) (Nat.le_of_ble_eq_true rfl) rfl (eq1_eq g138) ?_
    obtain ⟨kc139, ekc139, h⟩ := bd_1 h
    obtain ⟨js140, ejs140, h⟩ := bd_1 h
    refine s_as (kc' := kc139) (js' := js140) (pc' := 117) (st' := [vr n128, vi v1, vr a126]) ⟨ekc139, ejs140, rfl, rfl⟩ ?_
    obtain ⟨g141, h⟩ := gd_1 h
    obtain ⟨g142, h⟩ := gd_1 h
    refine s_aast12 (pc := 117) d_X6_init_117 g141 g142 ?_
    obtain ⟨μ143, eμ143, h⟩ := bd_1 h
    refine s_mu eμ143 ?_
    obtain ⟨w144, ew144, h⟩ := bd_1 h
    refine s_iinc (pc := 118) (v := w144) (lc' := [some (vr v0), some (vi w144)]) d_X6_init_118 rfl (by rw [ew144]; rfl) (by decide) rfl ?_
    refine s_goto (pc := 121) (tgt := 100) d_X6_init_121 (by decide) ?_
    exact hk100 _ _ _ _ _ _ h
set_option maxHeartbeats 4000000 in
set_option maxRecDepth 20000 in
theorem t_X6_init_h100 {l : Launch} {G : Gl} {x : Nat × Sh × Mu} {v0 : Nat} : ∀ (f : Nat) (v1 : Int32) (n kc js : Nat) (sh : Sh) (μ : Mu), m_X6_init_h100 v0 f v1 n kc js sh μ = some x → Sj l G (QA G 412 4809 x) c_X6_init n sh kc js μ 100 [some (vr v0), some (vi v1)] [] := by
  intro f
  induction f with
  | zero =>
    intro v1 n kc js sh μ h
    cases h
  | succ f ih =>
    intro v1 n kc js sh μ h
    exact t_X6_init_b100 ih h
set_option maxHeartbeats 4000000 in
set_option maxRecDepth 20000 in
theorem t_X6_init {l : Launch} {G : Gl} {n : Nat} {sh : Sh} {x : Nat × Sh × Mu} {v0 : Nat} {μ : Mu} (h : m_X6_init n sh v0 μ = some x) : Ct l G ⟨"StripsOfFour", "<init>", "()V"⟩ prog_1_method_1_code 2 none { frames := 4, cells := 412, slots := 4809, locals := 84 } n sh μ [vr v0] none x.1 x.2.1 x.2.2 := by
  refine Ct.of (lc := [some (vr v0), none]) (by decide +kernel) (Nat.le_of_ble_eq_true rfl) rfl ?_
  show Sj l G (QA G 412 4809 x) c_X6_init n sh 0 0 μ 0 [some (vr v0), none] []
  unfold m_X6_init at h
  refine s_aload_n (pc := 0) d_X6_init_0 rfl rfl ?_
  obtain ⟨g1, h⟩ := gd_1 h
  refine s_objInit (pc := 1) d_X6_init_1 (nn0_eq g1) w_17 w_18 w_19 (by decide) (Nat.le_of_ble_eq_true rfl) ?_
  refine s_aload_n (pc := 4) d_X6_init_4 rfl rfl ?_
  refine s_bipush (pc := 5) (v := 24) d_X6_init_5 (by decide) ?_
  obtain ⟨g2, h⟩ := gd_1 h
  refine s_newa (pc := 7) (kd := 8) (ty := .int) (N := 24) (Or.inl ⟨rfl, rfl⟩) d_X6_init_7 rfl w_48 (by decide) (by decide) (by decide) (roomB_eq g2) ?_
  obtain ⟨n3, en3, h⟩ := bd_1 h
  obtain ⟨kc4, ekc4, h⟩ := bd_1 h
  obtain ⟨js5, ejs5, h⟩ := bd_1 h
  obtain ⟨sh6, esh6, h⟩ := bd_1 h
  obtain ⟨μ7, eμ7, h⟩ := bd_1 h
  rw [← en3]
  refine s_nsm (n' := n3) (sh' := sh6) (μ' := μ7) ⟨rfl, esh6, eμ7⟩ ?_
  refine s_as (kc' := kc4) (js' := js5) (pc' := 9) (st' := [vr n3, vr v0]) ⟨ekc4, ejs5, rfl, rfl⟩ ?_
  obtain ⟨g8, h⟩ := gd_1 h
  refine s_putFR (pc := 9) (k := 0) cl_6 d_X6_init_9 g8 (by decide) w_196 rfl rfl rfl (rt_arr _) ?_
  obtain ⟨μ9, eμ9, h⟩ := bd_1 h
  refine s_mu eμ9 ?_
  refine s_aload_n (pc := 12) d_X6_init_12 rfl rfl ?_
  refine s_iconst (pc := 13) (v := 0) d_X6_init_13 (by decide) ?_
  refine s_putI (pc := 14) (k := 1) cl_6 d_X6_init_14 g8 (by decide) w_197 rfl rfl ?_
  obtain ⟨μ10, eμ10, h⟩ := bd_1 h
  refine s_mu eμ10 ?_
  refine s_aload_n (pc := 17) d_X6_init_17 rfl rfl ?_
  obtain ⟨g11, h⟩ := gd_1 h
  refine s_new (pc := 18) cl_2 d_X6_init_18 w_20 w_21 w_2 (roomB_eq g11) ?_
  obtain ⟨n12, en12, h⟩ := bd_1 h
  obtain ⟨kc13, ekc13, h⟩ := bd_1 h
  obtain ⟨js14, ejs14, h⟩ := bd_1 h
  obtain ⟨sh15, esh15, h⟩ := bd_1 h
  obtain ⟨μ16, eμ16, h⟩ := bd_1 h
  rw [← en12]
  refine s_nsm (n' := n12) (sh' := sh15) (μ' := μ16) ⟨rfl, esh15, eμ16⟩ ?_
  refine s_as (kc' := kc13) (js' := js14) (pc' := 21) (st' := [vr n12, vr v0]) ⟨ekc13, ejs14, rfl, rfl⟩ ?_
  refine s_dup (pc := 21) d_X6_init_21 rfl ?_
  obtain ⟨g17, h⟩ := gd_1 h
  obtain ⟨n18, sh19, μ20, ern18, h⟩ := ca3_1 h
  obtain ⟨g21, h⟩ := gd_1 h
  obtain ⟨g22, h⟩ := gd_1 h
  refine s_callIN (pc := 22) (as := []) (st := [vr n12, vr v0]) (t_X2_init ern18) (nn0_eq g17) d_X6_init_22 y_X2_init w_n22 w_23 rfl ⟨by decide, by decide⟩ (roomB_eq g21) (Nat.le_of_ble_eq_true rfl) rfl (eq1_eq g22) ?_
  obtain ⟨kc23, ekc23, h⟩ := bd_1 h
  obtain ⟨js24, ejs24, h⟩ := bd_1 h
  refine s_as (kc' := kc23) (js' := js24) (pc' := 25) (st' := [vr n12, vr v0]) ⟨ekc23, ejs24, rfl, rfl⟩ ?_
  obtain ⟨g25, h⟩ := gd_1 h
  refine s_putR (pc := 25) (k := 2) cl_6 d_X6_init_25 g25 (by decide) w_198 rfl (rt_obj _) ?_
  obtain ⟨μ26, eμ26, h⟩ := bd_1 h
  refine s_mu eμ26 ?_
  refine s_aload_n (pc := 28) d_X6_init_28 rfl rfl ?_
  obtain ⟨g27, h⟩ := gd_1 h
  refine s_new (pc := 29) cl_2 d_X6_init_29 w_20 w_21 w_2 (roomB_eq g27) ?_
  obtain ⟨n28, en28, h⟩ := bd_1 h
  obtain ⟨kc29, ekc29, h⟩ := bd_1 h
  obtain ⟨js30, ejs30, h⟩ := bd_1 h
  obtain ⟨sh31, esh31, h⟩ := bd_1 h
  obtain ⟨μ32, eμ32, h⟩ := bd_1 h
  rw [← en28]
  refine s_nsm (n' := n28) (sh' := sh31) (μ' := μ32) ⟨rfl, esh31, eμ32⟩ ?_
  refine s_as (kc' := kc29) (js' := js30) (pc' := 32) (st' := [vr n28, vr v0]) ⟨ekc29, ejs30, rfl, rfl⟩ ?_
  refine s_dup (pc := 32) d_X6_init_32 rfl ?_
  obtain ⟨g33, h⟩ := gd_1 h
  obtain ⟨n34, sh35, μ36, ern34, h⟩ := ca3_1 h
  obtain ⟨g37, h⟩ := gd_1 h
  obtain ⟨g38, h⟩ := gd_1 h
  refine s_callIN (pc := 33) (as := []) (st := [vr n28, vr v0]) (t_X2_init ern34) (nn0_eq g33) d_X6_init_33 y_X2_init w_n22 w_23 rfl ⟨by decide, by decide⟩ (roomB_eq g37) (Nat.le_of_ble_eq_true rfl) rfl (eq1_eq g38) ?_
  obtain ⟨kc39, ekc39, h⟩ := bd_1 h
  obtain ⟨js40, ejs40, h⟩ := bd_1 h
  refine s_as (kc' := kc39) (js' := js40) (pc' := 36) (st' := [vr n28, vr v0]) ⟨ekc39, ejs40, rfl, rfl⟩ ?_
  obtain ⟨g41, h⟩ := gd_1 h
  refine s_putR (pc := 36) (k := 3) cl_6 d_X6_init_36 g41 (by decide) w_199 rfl (rt_obj _) ?_
  obtain ⟨μ42, eμ42, h⟩ := bd_1 h
  refine s_mu eμ42 ?_
  refine s_aload_n (pc := 39) d_X6_init_39 rfl rfl ?_
  obtain ⟨g43, h⟩ := gd_1 h
  refine s_new (pc := 40) cl_4 d_X6_init_40 w_49 w_50 w_3 (roomB_eq g43) ?_
  obtain ⟨n44, en44, h⟩ := bd_1 h
  obtain ⟨kc45, ekc45, h⟩ := bd_1 h
  obtain ⟨js46, ejs46, h⟩ := bd_1 h
  obtain ⟨sh47, esh47, h⟩ := bd_1 h
  obtain ⟨μ48, eμ48, h⟩ := bd_1 h
  rw [← en44]
  refine s_nsm (n' := n44) (sh' := sh47) (μ' := μ48) ⟨rfl, esh47, eμ48⟩ ?_
  refine s_as (kc' := kc45) (js' := js46) (pc' := 43) (st' := [vr n44, vr v0]) ⟨ekc45, ejs46, rfl, rfl⟩ ?_
  refine s_dup (pc := 43) d_X6_init_43 rfl ?_
  obtain ⟨g49, h⟩ := gd_1 h
  obtain ⟨n50, sh51, μ52, ern50, h⟩ := ca3_1 h
  obtain ⟨g53, h⟩ := gd_1 h
  obtain ⟨g54, h⟩ := gd_1 h
  refine s_callI (pc := 44) (as := []) (st := [vr n44, vr v0]) (t_X4_init ern50) (nn0_eq g49) d_X6_init_44 y_X4_init w_51 w_52 rfl ⟨by decide, by decide⟩ (roomB_eq g53) (Nat.le_of_ble_eq_true rfl) rfl (eq1_eq g54) ?_
  obtain ⟨kc55, ekc55, h⟩ := bd_1 h
  obtain ⟨js56, ejs56, h⟩ := bd_1 h
  refine s_as (kc' := kc55) (js' := js56) (pc' := 47) (st' := [vr n44, vr v0]) ⟨ekc55, ejs56, rfl, rfl⟩ ?_
  obtain ⟨g57, h⟩ := gd_1 h
  refine s_putFR (pc := 47) (k := 4) cl_6 d_X6_init_47 g57 (by decide) w_200 rfl rfl rfl (rt_obj _) ?_
  obtain ⟨μ58, eμ58, h⟩ := bd_1 h
  refine s_mu eμ58 ?_
  refine s_aload_n (pc := 50) d_X6_init_50 rfl rfl ?_
  obtain ⟨g59, h⟩ := gd_1 h
  refine s_new (pc := 51) cl_1 d_X6_init_51 w_134 w_135 w_5 (roomB_eq g59) ?_
  obtain ⟨n60, en60, h⟩ := bd_1 h
  obtain ⟨kc61, ekc61, h⟩ := bd_1 h
  obtain ⟨js62, ejs62, h⟩ := bd_1 h
  obtain ⟨sh63, esh63, h⟩ := bd_1 h
  obtain ⟨μ64, eμ64, h⟩ := bd_1 h
  rw [← en60]
  refine s_nsm (n' := n60) (sh' := sh63) (μ' := μ64) ⟨rfl, esh63, eμ64⟩ ?_
  refine s_as (kc' := kc61) (js' := js62) (pc' := 54) (st' := [vr n60, vr v0]) ⟨ekc61, ejs62, rfl, rfl⟩ ?_
  refine s_dup (pc := 54) d_X6_init_54 rfl ?_
  obtain ⟨g65, h⟩ := gd_1 h
  obtain ⟨n66, sh67, μ68, ern66, h⟩ := ca3_1 h
  obtain ⟨g69, h⟩ := gd_1 h
  obtain ⟨g70, h⟩ := gd_1 h
  refine s_callI (pc := 55) (as := []) (st := [vr n60, vr v0]) (t_X1_init ern66) (nn0_eq g65) d_X6_init_55 y_X1_init w_136 w_137 rfl ⟨by decide, by decide⟩ (roomB_eq g69) (Nat.le_of_ble_eq_true rfl) rfl (eq1_eq g70) ?_
  obtain ⟨kc71, ekc71, h⟩ := bd_1 h
  obtain ⟨js72, ejs72, h⟩ := bd_1 h
  refine s_as (kc' := kc71) (js' := js72) (pc' := 58) (st' := [vr n60, vr v0]) ⟨ekc71, ejs72, rfl, rfl⟩ ?_
  obtain ⟨g73, h⟩ := gd_1 h
  refine s_putFR (pc := 58) (k := 5) cl_6 d_X6_init_58 g73 (by decide) w_201 rfl rfl rfl (rt_obj _) ?_
  obtain ⟨μ74, eμ74, h⟩ := bd_1 h
  refine s_mu eμ74 ?_
  refine s_aload_n (pc := 61) d_X6_init_61 rfl rfl ?_
  refine s_iconst (pc := 62) (v := 2) d_X6_init_62 (by decide) ?_
  obtain ⟨g75, h⟩ := gd_1 h
  refine s_newq (pc := 63) (kd := 12) (ti := 4) (N := 2) (Or.inr ⟨rfl, rfl, rfl⟩) d_X6_init_63 w_49 (by decide) (by decide) (by decide) (roomB_eq g75) ?_
  obtain ⟨n76, en76, h⟩ := bd_1 h
  obtain ⟨kc77, ekc77, h⟩ := bd_1 h
  obtain ⟨js78, ejs78, h⟩ := bd_1 h
  obtain ⟨sh79, esh79, h⟩ := bd_1 h
  obtain ⟨μ80, eμ80, h⟩ := bd_1 h
  rw [← en76]
  refine s_nsm (n' := n76) (sh' := sh79) (μ' := μ80) ⟨rfl, esh79, eμ80⟩ ?_
  refine s_as (kc' := kc77) (js' := js78) (pc' := 66) (st' := [vr n76, vr v0]) ⟨ekc77, ejs78, rfl, rfl⟩ ?_
  obtain ⟨g81, h⟩ := gd_1 h
  refine s_putFR (pc := 66) (k := 6) cl_6 d_X6_init_66 g81 (by decide) w_202 rfl rfl rfl (rt_arr _) ?_
  obtain ⟨μ82, eμ82, h⟩ := bd_1 h
  refine s_mu eμ82 ?_
  refine s_aload_n (pc := 69) d_X6_init_69 rfl rfl ?_
  refine s_iconst (pc := 70) (v := 2) d_X6_init_70 (by decide) ?_
  obtain ⟨g83, h⟩ := gd_1 h
  refine s_newa (pc := 71) (kd := 10) (ty := .boolean) (N := 2) (Or.inr (Or.inr ⟨rfl, rfl⟩)) d_X6_init_71 rfl w_173 (by decide) (by decide) (by decide) (roomB_eq g83) ?_
  obtain ⟨n84, en84, h⟩ := bd_1 h
  obtain ⟨kc85, ekc85, h⟩ := bd_1 h
  obtain ⟨js86, ejs86, h⟩ := bd_1 h
  obtain ⟨sh87, esh87, h⟩ := bd_1 h
  obtain ⟨μ88, eμ88, h⟩ := bd_1 h
  rw [← en84]
  refine s_nsm (n' := n84) (sh' := sh87) (μ' := μ88) ⟨rfl, esh87, eμ88⟩ ?_
  refine s_as (kc' := kc85) (js' := js86) (pc' := 73) (st' := [vr n84, vr v0]) ⟨ekc85, ejs86, rfl, rfl⟩ ?_
  obtain ⟨g89, h⟩ := gd_1 h
  refine s_putFR (pc := 73) (k := 7) cl_6 d_X6_init_73 g89 (by decide) w_203 rfl rfl rfl (rt_arr _) ?_
  obtain ⟨μ90, eμ90, h⟩ := bd_1 h
  refine s_mu eμ90 ?_
  refine s_aload_n (pc := 76) d_X6_init_76 rfl rfl ?_
  obtain ⟨g91, h⟩ := gd_1 h
  refine s_new (pc := 77) cl_0 d_X6_init_77 w_154 w_155 w_6 (roomB_eq g91) ?_
  obtain ⟨n92, en92, h⟩ := bd_1 h
  obtain ⟨kc93, ekc93, h⟩ := bd_1 h
  obtain ⟨js94, ejs94, h⟩ := bd_1 h
  obtain ⟨sh95, esh95, h⟩ := bd_1 h
  obtain ⟨μ96, eμ96, h⟩ := bd_1 h
  rw [← en92]
  refine s_nsm (n' := n92) (sh' := sh95) (μ' := μ96) ⟨rfl, esh95, eμ96⟩ ?_
  refine s_as (kc' := kc93) (js' := js94) (pc' := 80) (st' := [vr n92, vr v0]) ⟨ekc93, ejs94, rfl, rfl⟩ ?_
  refine s_dup (pc := 80) d_X6_init_80 rfl ?_
  obtain ⟨g97, h⟩ := gd_1 h
  obtain ⟨n98, sh99, μ100, ern98, h⟩ := ca3_1 h
  obtain ⟨g101, h⟩ := gd_1 h
  obtain ⟨g102, h⟩ := gd_1 h
  refine s_callIN (pc := 81) (as := []) (st := [vr n92, vr v0]) (t_X0_init ern98) (nn0_eq g97) d_X6_init_81 y_X0_init w_n156 w_157 rfl ⟨by decide, by decide⟩ (roomB_eq g101) (Nat.le_of_ble_eq_true rfl) rfl (eq1_eq g102) ?_
  obtain ⟨kc103, ekc103, h⟩ := bd_1 h
  obtain ⟨js104, ejs104, h⟩ := bd_1 h
  refine s_as (kc' := kc103) (js' := js104) (pc' := 84) (st' := [vr n92, vr v0]) ⟨ekc103, ejs104, rfl, rfl⟩ ?_
  obtain ⟨g105, h⟩ := gd_1 h
  refine s_putFR (pc := 84) (k := 8) cl_6 d_X6_init_84 g105 (by decide) w_204 rfl rfl rfl (rt_obj _) ?_
  obtain ⟨μ106, eμ106, h⟩ := bd_1 h
  refine s_mu eμ106 ?_
  refine s_aload_n (pc := 87) d_X6_init_87 rfl rfl ?_
  obtain ⟨g107, h⟩ := gd_1 h
  refine s_new (pc := 88) cl_3 d_X6_init_88 w_174 w_175 w_7 (roomB_eq g107) ?_
  obtain ⟨n108, en108, h⟩ := bd_1 h
  obtain ⟨kc109, ekc109, h⟩ := bd_1 h
  obtain ⟨js110, ejs110, h⟩ := bd_1 h
  obtain ⟨sh111, esh111, h⟩ := bd_1 h
  obtain ⟨μ112, eμ112, h⟩ := bd_1 h
  rw [← en108]
  refine s_nsm (n' := n108) (sh' := sh111) (μ' := μ112) ⟨rfl, esh111, eμ112⟩ ?_
  refine s_as (kc' := kc109) (js' := js110) (pc' := 91) (st' := [vr n108, vr v0]) ⟨ekc109, ejs110, rfl, rfl⟩ ?_
  refine s_dup (pc := 91) d_X6_init_91 rfl ?_
  obtain ⟨g113, h⟩ := gd_1 h
  obtain ⟨n114, sh115, μ116, ern114, h⟩ := ca3_1 h
  obtain ⟨g117, h⟩ := gd_1 h
  obtain ⟨g118, h⟩ := gd_1 h
  refine s_callIN (pc := 92) (as := []) (st := [vr n108, vr v0]) (t_X3_init ern114) (nn0_eq g113) d_X6_init_92 y_X3_init w_n176 w_177 rfl ⟨by decide, by decide⟩ (roomB_eq g117) (Nat.le_of_ble_eq_true rfl) rfl (eq1_eq g118) ?_
  obtain ⟨kc119, ekc119, h⟩ := bd_1 h
  obtain ⟨js120, ejs120, h⟩ := bd_1 h
  refine s_as (kc' := kc119) (js' := js120) (pc' := 95) (st' := [vr n108, vr v0]) ⟨ekc119, ejs120, rfl, rfl⟩ ?_
  obtain ⟨g121, h⟩ := gd_1 h
  refine s_putFR (pc := 95) (k := 9) cl_6 d_X6_init_95 g121 (by decide) w_205 rfl rfl rfl (rt_obj _) ?_
  obtain ⟨μ122, eμ122, h⟩ := bd_1 h
  refine s_mu eμ122 ?_
  refine s_iconst (pc := 98) (v := 0) d_X6_init_98 (by decide) ?_
  refine s_istore_n (pc := 99) (lc' := [some (vr v0), some (vi 0)]) d_X6_init_99 rfl (by decide) rfl ?_
  exact t_X6_init_h100 FU _ _ _ _ _ _ h
/-! StripsOfFour.keep -/
abbrev c_X6_keep : Cf := (prog_1_method_31_code, 2, "StripsOfFour", "keep", (some .int), { frames := 3, cells := 0, slots := 0, locals := 111 })
theorem d_X6_keep_0 : decode prog_1_method_31_code 0 = .ok (.iload_n 1, 1) := by decide +kernel
theorem d_X6_keep_1 : decode prog_1_method_31_code 1 = .ok (.ifCond .lt 8, 3) := by decide +kernel
theorem d_X6_keep_4 : decode prog_1_method_31_code 4 = .ok (.iload_n 1, 1) := by decide +kernel
theorem d_X6_keep_5 : decode prog_1_method_31_code 5 = .ok (.iconst 2, 1) := by decide +kernel
theorem d_X6_keep_6 : decode prog_1_method_31_code 6 = .ok (.if_icmp .lt 5, 3) := by decide +kernel
theorem d_X6_keep_9 : decode prog_1_method_31_code 9 = .ok (.iconst (-1), 1) := by decide +kernel
theorem d_X6_keep_10 : decode prog_1_method_31_code 10 = .ok (.ireturn, 1) := by decide +kernel
theorem d_X6_keep_11 : decode prog_1_method_31_code 11 = .ok (.aload_n 0, 1) := by decide +kernel
theorem d_X6_keep_12 : decode prog_1_method_31_code 12 = .ok (.getfield 41, 3) := by decide +kernel
theorem d_X6_keep_15 : decode prog_1_method_31_code 15 = .ok (.iload_n 1, 1) := by decide +kernel
theorem d_X6_keep_16 : decode prog_1_method_31_code 16 = .ok (.aaload, 1) := by decide +kernel
theorem d_X6_keep_17 : decode prog_1_method_31_code 17 = .ok (.aload_n 0, 1) := by decide +kernel
theorem d_X6_keep_18 : decode prog_1_method_31_code 18 = .ok (.getfield 30, 3) := by decide +kernel
theorem d_X6_keep_21 : decode prog_1_method_31_code 21 = .ok (.invokevirtual 273, 3) := by decide +kernel
theorem d_X6_keep_24 : decode prog_1_method_31_code 24 = .ok (.aload_n 0, 1) := by decide +kernel
theorem d_X6_keep_25 : decode prog_1_method_31_code 25 = .ok (.getfield 45, 3) := by decide +kernel
theorem d_X6_keep_28 : decode prog_1_method_31_code 28 = .ok (.iload_n 1, 1) := by decide +kernel
theorem d_X6_keep_29 : decode prog_1_method_31_code 29 = .ok (.iconst 1, 1) := by decide +kernel
theorem d_X6_keep_30 : decode prog_1_method_31_code 30 = .ok (.bastore, 1) := by decide +kernel
theorem d_X6_keep_31 : decode prog_1_method_31_code 31 = .ok (.aload_n 0, 1) := by decide +kernel
theorem d_X6_keep_32 : decode prog_1_method_31_code 32 = .ok (.getfield 30, 3) := by decide +kernel
theorem d_X6_keep_35 : decode prog_1_method_31_code 35 = .ok (.getfield 82, 3) := by decide +kernel
theorem d_X6_keep_38 : decode prog_1_method_31_code 38 = .ok (.ireturn, 1) := by decide +kernel
def m_X6_keep (sh : Sh) (v0 : Nat) (v1 : Int32) (μ : Mu) : Option (Int32 × Mu) :=
  if v1 < 0 then
    some ((-1), μ)
  else
    if v1 < 2 then
      gd (iz sh 6 v0) <|
      bd (gR μ v0 6) fun a4 =>
      gd (ix sh 12 a4 v1) <|
      bd (gR μ a4 v1.toNatClampNeg) fun a6 =>
      bd (gR μ v0 4) fun a7 =>
      gd (iz sh 4 a6) <|
      ca (m_X4_copyFrom sh a6 a7 μ) fun μ9 =>
      bd (gR μ9 v0 7) fun a10 =>
      gd (ix sh 10 a10 v1) <|
      bd (sI μ9 a10 v1.toNatClampNeg (1 &&& 1)) fun μ12 =>
      bd (gR μ12 v0 4) fun a13 =>
      gd (iz sh 4 a13) <|
      some (gI μ12 a13 1, μ12)
    else
      some ((-1), μ)
set_option maxHeartbeats 4000000 in
set_option maxRecDepth 20000 in
theorem t_X6_keep {l : Launch} {G : Gl} {n : Nat} {sh : Sh} {x : Int32 × Mu} {v0 : Nat} {v1 : Int32} {μ : Mu} (h : m_X6_keep sh v0 v1 μ = some x) : Ct l G ⟨"StripsOfFour", "keep", "(I)I"⟩ prog_1_method_31_code 2 (some .int) { frames := 3, cells := 0, slots := 0, locals := 111 } n sh μ [vr v0, vi v1] (some (.int x.1)) n sh x.2 := by
  refine Ct.of (lc := [some (vr v0), some (vi v1)]) (by decide +kernel) (Nat.le_of_ble_eq_true rfl) rfl ?_
  show Sj l G (QI G n sh x) c_X6_keep n sh 0 0 μ 0 [some (vr v0), some (vi v1)] []
  unfold m_X6_keep at h
  refine s_iload_n (pc := 0) d_X6_keep_0 rfl rfl ?_
  refine s_if_lt (pc := 1) (tgt := 9) d_X6_keep_1 (by decide) (fun c1 => ?_) (fun c1 => ?_)
  · have h := it_t c1 h
    refine s_iconst (pc := 9) (v := (-1)) d_X6_keep_9 (by decide) ?_
    obtain rfl := Option.some.inj h
    exact s_iret (pc := 10) d_X6_keep_10 rfl
  · have h := it_f c1 h
    refine s_iload_n (pc := 4) d_X6_keep_4 rfl rfl ?_
    refine s_iconst (pc := 5) (v := 2) d_X6_keep_5 (by decide) ?_
    refine s_icmp_lt (pc := 6) (tgt := 11) d_X6_keep_6 (by decide) (fun c2 => ?_) (fun c2 => ?_)
    · have h := it_t c2 h
      refine s_aload_n (pc := 11) d_X6_keep_11 rfl rfl ?_
      obtain ⟨g3, h⟩ := gd_1 h
      refine s_getR (pc := 12) (k := 6) cl_6 d_X6_keep_12 g3 (by decide) w_202 (rt_arr _) ?_
      obtain ⟨a4, ea4, h⟩ := bd_1 h
      refine s_topR ea4 ?_
      refine s_iload_n (pc := 15) d_X6_keep_15 rfl rfl ?_
      obtain ⟨g5, h⟩ := gd_1 h
      refine s_aald12 (pc := 16) d_X6_keep_16 g5 ?_
      obtain ⟨a6, ea6, h⟩ := bd_1 h
      refine s_topR ea6 ?_
      refine s_aload_n (pc := 17) d_X6_keep_17 rfl rfl ?_
      refine s_getR (pc := 18) (k := 4) cl_6 d_X6_keep_18 g3 (by decide) w_200 (rt_obj _) ?_
      obtain ⟨a7, ea7, h⟩ := bd_1 h
      refine s_topR ea7 ?_
      obtain ⟨g8, h⟩ := gd_1 h
      obtain ⟨μ9, eμ9, h⟩ := ca_1 h
      refine s_callV (pc := 21) (as := [vr a7]) (st := []) (vo := []) (t_X4_copyFrom eμ9) cl_4 g8 d_X6_keep_21 y_X4_copyFrom w_645 w_384 w_385 ⟨by decide, by decide⟩ ⟨Nat.le_of_ble_eq_true rfl, Nat.le_of_ble_eq_true rfl⟩ (Nat.le_of_ble_eq_true rfl) rfl rfl rfl ?_
      refine s_as (kc' := 0) (js' := 0) (pc' := 24) (st' := []) ⟨rfl, rfl, rfl, rfl⟩ ?_
      refine s_aload_n (pc := 24) d_X6_keep_24 rfl rfl ?_
      refine s_getR (pc := 25) (k := 7) cl_6 d_X6_keep_25 g3 (by decide) w_203 (rt_arr _) ?_
      obtain ⟨a10, ea10, h⟩ := bd_1 h
      refine s_topR ea10 ?_
      refine s_iload_n (pc := 28) d_X6_keep_28 rfl rfl ?_
      refine s_iconst (pc := 29) (v := 1) d_X6_keep_29 (by decide) ?_
      obtain ⟨g11, h⟩ := gd_1 h
      refine s_zast (pc := 30) d_X6_keep_30 g11 ?_
      obtain ⟨μ12, eμ12, h⟩ := bd_1 h
      refine s_mu eμ12 ?_
      refine s_aload_n (pc := 31) d_X6_keep_31 rfl rfl ?_
      refine s_getR (pc := 32) (k := 4) cl_6 d_X6_keep_32 g3 (by decide) w_200 (rt_obj _) ?_
      obtain ⟨a13, ea13, h⟩ := bd_1 h
      refine s_topR ea13 ?_
      obtain ⟨g14, h⟩ := gd_1 h
      refine s_getI (pc := 35) (k := 1) cl_4 d_X6_keep_35 g14 (by decide) w_97 rfl ?_
      obtain rfl := Option.some.inj h
      exact s_iret (pc := 38) d_X6_keep_38 rfl
    · have h := it_f c2 h
      refine s_iconst (pc := 9) (v := (-1)) d_X6_keep_9 (by decide) ?_
      obtain rfl := Option.some.inj h
      exact s_iret (pc := 10) d_X6_keep_10 rfl
/-! StripsOfFour.leave -/
abbrev c_X6_leave : Cf := (prog_1_method_13_code, 3, "StripsOfFour", "leave", (some .int), { frames := 4, cells := 0, slots := 0, locals := 132 })
theorem d_X6_leave_0 : decode prog_1_method_13_code 0 = .ok (.aload_n 0, 1) := by decide +kernel
theorem d_X6_leave_1 : decode prog_1_method_13_code 1 = .ok (.getfield 20, 3) := by decide +kernel
theorem d_X6_leave_4 : decode prog_1_method_13_code 4 = .ok (.iload_n 1, 1) := by decide +kernel
theorem d_X6_leave_5 : decode prog_1_method_13_code 5 = .ok (.invokevirtual 122, 3) := by decide +kernel
theorem d_X6_leave_8 : decode prog_1_method_13_code 8 = .ok (.ifCond .ne 5, 3) := by decide +kernel
theorem d_X6_leave_11 : decode prog_1_method_13_code 11 = .ok (.iconst (-1), 1) := by decide +kernel
theorem d_X6_leave_12 : decode prog_1_method_13_code 12 = .ok (.ireturn, 1) := by decide +kernel
theorem d_X6_leave_13 : decode prog_1_method_13_code 13 = .ok (.aload_n 0, 1) := by decide +kernel
theorem d_X6_leave_14 : decode prog_1_method_13_code 14 = .ok (.getfield 30, 3) := by decide +kernel
theorem d_X6_leave_17 : decode prog_1_method_13_code 17 = .ok (.iload_n 1, 1) := by decide +kernel
theorem d_X6_leave_18 : decode prog_1_method_13_code 18 = .ok (.invokevirtual 128, 3) := by decide +kernel
theorem d_X6_leave_21 : decode prog_1_method_13_code 21 = .ok (.istore_n 2, 1) := by decide +kernel
theorem d_X6_leave_22 : decode prog_1_method_13_code 22 = .ok (.iload_n 2, 1) := by decide +kernel
theorem d_X6_leave_23 : decode prog_1_method_13_code 23 = .ok (.bipush (-9), 2) := by decide +kernel
theorem d_X6_leave_25 : decode prog_1_method_13_code 25 = .ok (.if_icmp .ne 6, 3) := by decide +kernel
theorem d_X6_leave_28 : decode prog_1_method_13_code 28 = .ok (.bipush (-3), 2) := by decide +kernel
theorem d_X6_leave_30 : decode prog_1_method_13_code 30 = .ok (.ireturn, 1) := by decide +kernel
theorem d_X6_leave_31 : decode prog_1_method_13_code 31 = .ok (.aload_n 0, 1) := by decide +kernel
theorem d_X6_leave_32 : decode prog_1_method_13_code 32 = .ok (.getfield 37, 3) := by decide +kernel
theorem d_X6_leave_35 : decode prog_1_method_13_code 35 = .ok (.aload_n 0, 1) := by decide +kernel
theorem d_X6_leave_36 : decode prog_1_method_13_code 36 = .ok (.getfield 30, 3) := by decide +kernel
theorem d_X6_leave_39 : decode prog_1_method_13_code 39 = .ok (.invokevirtual 174, 3) := by decide +kernel
theorem d_X6_leave_42 : decode prog_1_method_13_code 42 = .ok (.aload_n 0, 1) := by decide +kernel
theorem d_X6_leave_43 : decode prog_1_method_13_code 43 = .ok (.getfield 30, 3) := by decide +kernel
theorem d_X6_leave_46 : decode prog_1_method_13_code 46 = .ok (.iload_n 1, 1) := by decide +kernel
theorem d_X6_leave_47 : decode prog_1_method_13_code 47 = .ok (.invokevirtual 182, 3) := by decide +kernel
theorem d_X6_leave_50 : decode prog_1_method_13_code 50 = .ok (.aload_n 0, 1) := by decide +kernel
theorem d_X6_leave_51 : decode prog_1_method_13_code 51 = .ok (.getfield 30, 3) := by decide +kernel
theorem d_X6_leave_54 : decode prog_1_method_13_code 54 = .ok (.iload_n 2, 1) := by decide +kernel
theorem d_X6_leave_55 : decode prog_1_method_13_code 55 = .ok (.invokevirtual 112, 3) := by decide +kernel
theorem d_X6_leave_58 : decode prog_1_method_13_code 58 = .ok (.invokestatic 169, 3) := by decide +kernel
theorem d_X6_leave_61 : decode prog_1_method_13_code 61 = .ok (.ireturn, 1) := by decide +kernel
def m_X6_leave (sh : Sh) (v0 : Nat) (v1 : Int32) (μ : Mu) : Option (Int32 × Mu) :=
  gd (iz sh 6 v0) <|
  bd (gR μ v0 2) fun a2 =>
  gd (iz sh 2 a2) <|
  ca2 (m_X2_hasPerson sh a2 v1 μ) fun r4 μ5 =>
  if r4 = 0 then
    some ((-1), μ5)
  else
    bd (gR μ5 v0 4) fun a7 =>
    gd (iz sh 4 a7) <|
    ca2 (m_X4_placeOf sh a7 v1 μ5) fun r9 μ10 =>
    if r9 = (-9) then
      some ((-3), μ10)
    else
      bd (gR μ10 v0 5) fun a12 =>
      bd (gR μ10 v0 4) fun a13 =>
      gd (iz sh 1 a12) <|
      ca (m_X1_remember sh a12 a13 μ10) fun μ15 =>
      bd (gR μ15 v0 4) fun a16 =>
      gd (iz sh 4 a16) <|
      ca (m_X4_stepOut sh a16 v1 μ15) fun μ18 =>
      bd (gR μ18 v0 4) fun a19 =>
      gd (iz sh 4 a19) <|
      ca2 (m_X4_whoIsIn sh a19 r9 μ18) fun r21 μ22 =>
      ca2 (m_J6_bitCount_0f7a4 sh r21 μ22) fun r23 μ24 =>
      some (r23, μ24)
set_option maxHeartbeats 4000000 in
set_option maxRecDepth 20000 in
theorem t_X6_leave {l : Launch} {G : Gl} {n : Nat} {sh : Sh} {x : Int32 × Mu} {v0 : Nat} {v1 : Int32} {μ : Mu} (h : m_X6_leave sh v0 v1 μ = some x) : Ct l G ⟨"StripsOfFour", "leave", "(I)I"⟩ prog_1_method_13_code 3 (some .int) { frames := 4, cells := 0, slots := 0, locals := 132 } n sh μ [vr v0, vi v1] (some (.int x.1)) n sh x.2 := by
  refine Ct.of (lc := [some (vr v0), some (vi v1), none]) (by decide +kernel) (Nat.le_of_ble_eq_true rfl) rfl ?_
  show Sj l G (QI G n sh x) c_X6_leave n sh 0 0 μ 0 [some (vr v0), some (vi v1), none] []
  unfold m_X6_leave at h
  refine s_aload_n (pc := 0) d_X6_leave_0 rfl rfl ?_
  obtain ⟨g1, h⟩ := gd_1 h
  refine s_getR (pc := 1) (k := 2) cl_6 d_X6_leave_1 g1 (by decide) w_198 (rt_obj _) ?_
  obtain ⟨a2, ea2, h⟩ := bd_1 h
  refine s_topR ea2 ?_
  refine s_iload_n (pc := 4) d_X6_leave_4 rfl rfl ?_
  obtain ⟨g3, h⟩ := gd_1 h
  obtain ⟨r4, μ5, er4, h⟩ := ca2_1 h
  refine s_callV (pc := 5) (as := [vi v1]) (st := []) (vo := [vi r4]) (t_X2_hasPerson er4) cl_2 g3 d_X6_leave_5 y_X2_hasPerson w_317 w_260 w_261 ⟨by decide, by decide⟩ ⟨Nat.le_of_ble_eq_true rfl, Nat.le_of_ble_eq_true rfl⟩ (Nat.le_of_ble_eq_true rfl) rfl rfl rfl ?_
  refine s_as (kc' := 0) (js' := 0) (pc' := 8) (st' := [vi r4]) ⟨rfl, rfl, rfl, rfl⟩ ?_
  refine s_if_ne (pc := 8) (tgt := 13) d_X6_leave_8 (by decide) (fun c6 => ?_) (fun c6 => ?_)
  · have h := it_f c6 h
    refine s_aload_n (pc := 13) d_X6_leave_13 rfl rfl ?_
    refine s_getR (pc := 14) (k := 4) cl_6 d_X6_leave_14 g1 (by decide) w_200 (rt_obj _) ?_
    obtain ⟨a7, ea7, h⟩ := bd_1 h
    refine s_topR ea7 ?_
    refine s_iload_n (pc := 17) d_X6_leave_17 rfl rfl ?_
    obtain ⟨g8, h⟩ := gd_1 h
    obtain ⟨r9, μ10, er9, h⟩ := ca2_1 h
    refine s_callV (pc := 18) (as := [vi v1]) (st := []) (vo := [vi r9]) (t_X4_placeOf er9) cl_4 g8 d_X6_leave_18 y_X4_placeOf w_322 w_323 w_324 ⟨by decide, by decide⟩ ⟨Nat.le_of_ble_eq_true rfl, Nat.le_of_ble_eq_true rfl⟩ (Nat.le_of_ble_eq_true rfl) rfl rfl rfl ?_
    refine s_as (kc' := 0) (js' := 0) (pc' := 21) (st' := [vi r9]) ⟨rfl, rfl, rfl, rfl⟩ ?_
    refine s_istore_n (pc := 21) (lc' := [some (vr v0), some (vi v1), some (vi r9)]) d_X6_leave_21 rfl (by decide) rfl ?_
    refine s_iload_n (pc := 22) d_X6_leave_22 rfl rfl ?_
    refine s_bipush (pc := 23) (v := (-9)) d_X6_leave_23 (by decide) ?_
    refine s_icmp_ne (pc := 25) (tgt := 31) d_X6_leave_25 (by decide) (fun c11 => ?_) (fun c11 => ?_)
    · have h := it_f c11 h
      refine s_aload_n (pc := 31) d_X6_leave_31 rfl rfl ?_
      refine s_getR (pc := 32) (k := 5) cl_6 d_X6_leave_32 g1 (by decide) w_201 (rt_obj _) ?_
      obtain ⟨a12, ea12, h⟩ := bd_1 h
      refine s_topR ea12 ?_
      refine s_aload_n (pc := 35) d_X6_leave_35 rfl rfl ?_
      refine s_getR (pc := 36) (k := 4) cl_6 d_X6_leave_36 g1 (by decide) w_200 (rt_obj _) ?_
      obtain ⟨a13, ea13, h⟩ := bd_1 h
      refine s_topR ea13 ?_
      obtain ⟨g14, h⟩ := gd_1 h
      obtain ⟨μ15, eμ15, h⟩ := ca_1 h
      refine s_callV (pc := 39) (as := [vr a13]) (st := []) (vo := []) (t_X1_remember eμ15) cl_1 g14 d_X6_leave_39 y_X1_remember w_378 w_379 w_380 ⟨by decide, by decide⟩ ⟨Nat.le_of_ble_eq_true rfl, Nat.le_of_ble_eq_true rfl⟩ (Nat.le_of_ble_eq_true rfl) rfl rfl rfl ?_
      refine s_as (kc' := 0) (js' := 0) (pc' := 42) (st' := []) ⟨rfl, rfl, rfl, rfl⟩ ?_
      refine s_aload_n (pc := 42) d_X6_leave_42 rfl rfl ?_
      refine s_getR (pc := 43) (k := 4) cl_6 d_X6_leave_43 g1 (by decide) w_200 (rt_obj _) ?_
      obtain ⟨a16, ea16, h⟩ := bd_1 h
      refine s_topR ea16 ?_
      refine s_iload_n (pc := 46) d_X6_leave_46 rfl rfl ?_
      obtain ⟨g17, h⟩ := gd_1 h
      obtain ⟨μ18, eμ18, h⟩ := ca_1 h
      refine s_callV (pc := 47) (as := [vi v1]) (st := []) (vo := []) (t_X4_stepOut eμ18) cl_4 g17 d_X6_leave_47 y_X4_stepOut w_403 w_404 w_405 ⟨by decide, by decide⟩ ⟨Nat.le_of_ble_eq_true rfl, Nat.le_of_ble_eq_true rfl⟩ (Nat.le_of_ble_eq_true rfl) rfl rfl rfl ?_
      refine s_as (kc' := 0) (js' := 0) (pc' := 50) (st' := []) ⟨rfl, rfl, rfl, rfl⟩ ?_
      refine s_aload_n (pc := 50) d_X6_leave_50 rfl rfl ?_
      refine s_getR (pc := 51) (k := 4) cl_6 d_X6_leave_51 g1 (by decide) w_200 (rt_obj _) ?_
      obtain ⟨a19, ea19, h⟩ := bd_1 h
      refine s_topR ea19 ?_
      refine s_iload_n (pc := 54) d_X6_leave_54 rfl rfl ?_
      obtain ⟨g20, h⟩ := gd_1 h
      obtain ⟨r21, μ22, er21, h⟩ := ca2_1 h
      refine s_callV (pc := 55) (as := [vi r9]) (st := []) (vo := [vi r21]) (t_X4_whoIsIn er21) cl_4 g20 d_X6_leave_55 y_X4_whoIsIn w_296 w_297 w_298 ⟨by decide, by decide⟩ ⟨Nat.le_of_ble_eq_true rfl, Nat.le_of_ble_eq_true rfl⟩ (Nat.le_of_ble_eq_true rfl) rfl rfl rfl ?_
      refine s_as (kc' := 0) (js' := 0) (pc' := 58) (st' := [vi r21]) ⟨rfl, rfl, rfl, rfl⟩ ?_
      obtain ⟨r23, μ24, er23, h⟩ := ca2_1 h
      refine s_callS (pc := 58) (as := [vi r21]) (st := []) (vo := [vi r23]) (t_J6_bitCount_0f7a4 er23) d_X6_leave_58 y_J6_bitCount_0f7a4 w_372 w_373 ⟨by decide, by decide⟩ ⟨Nat.le_of_ble_eq_true rfl, Nat.le_of_ble_eq_true rfl⟩ (Nat.le_of_ble_eq_true rfl) rfl rfl rfl ?_
      refine s_as (kc' := 0) (js' := 0) (pc' := 61) (st' := [vi r23]) ⟨rfl, rfl, rfl, rfl⟩ ?_
      obtain rfl := Option.some.inj h
      exact s_iret (pc := 61) d_X6_leave_61 rfl
    · have h := it_t c11 h
      refine s_bipush (pc := 28) (v := (-3)) d_X6_leave_28 (by decide) ?_
      obtain rfl := Option.some.inj h
      exact s_iret (pc := 30) d_X6_leave_30 rfl
  · have h := it_t c6 h
    refine s_iconst (pc := 11) (v := (-1)) d_X6_leave_11 (by decide) ?_
    obtain rfl := Option.some.inj h
    exact s_iret (pc := 12) d_X6_leave_12 rfl
/-! StripsOfFour.look -/
abbrev c_X6_look : Cf := (prog_1_method_10_code, 4, "StripsOfFour", "look", (some .int), { frames := 1, cells := 0, slots := 0, locals := 22 })
theorem d_X6_look_0 : decode prog_1_method_10_code 0 = .ok (.aload_n 0, 1) := by decide +kernel
theorem d_X6_look_1 : decode prog_1_method_10_code 1 = .ok (.getfield 30, 3) := by decide +kernel
theorem d_X6_look_4 : decode prog_1_method_10_code 4 = .ok (.iload_n 1, 1) := by decide +kernel
theorem d_X6_look_5 : decode prog_1_method_10_code 5 = .ok (.invokevirtual 137, 3) := by decide +kernel
theorem d_X6_look_8 : decode prog_1_method_10_code 8 = .ok (.ifCond .ne 5, 3) := by decide +kernel
theorem d_X6_look_11 : decode prog_1_method_10_code 11 = .ok (.iconst (-1), 1) := by decide +kernel
theorem d_X6_look_12 : decode prog_1_method_10_code 12 = .ok (.ireturn, 1) := by decide +kernel
theorem d_X6_look_13 : decode prog_1_method_10_code 13 = .ok (.iload_n 2, 1) := by decide +kernel
theorem d_X6_look_14 : decode prog_1_method_10_code 14 = .ok (.ifCond .lt 17, 3) := by decide +kernel
theorem d_X6_look_17 : decode prog_1_method_10_code 17 = .ok (.iload_n 2, 1) := by decide +kernel
theorem d_X6_look_18 : decode prog_1_method_10_code 18 = .ok (.iconst 4, 1) := by decide +kernel
theorem d_X6_look_19 : decode prog_1_method_10_code 19 = .ok (.if_icmp .ge 12, 3) := by decide +kernel
theorem d_X6_look_22 : decode prog_1_method_10_code 22 = .ok (.iload_n 3, 1) := by decide +kernel
theorem d_X6_look_23 : decode prog_1_method_10_code 23 = .ok (.ifCond .lt 8, 3) := by decide +kernel
theorem d_X6_look_26 : decode prog_1_method_10_code 26 = .ok (.iload_n 3, 1) := by decide +kernel
theorem d_X6_look_27 : decode prog_1_method_10_code 27 = .ok (.iconst 4, 1) := by decide +kernel
theorem d_X6_look_28 : decode prog_1_method_10_code 28 = .ok (.if_icmp .lt 6, 3) := by decide +kernel
theorem d_X6_look_31 : decode prog_1_method_10_code 31 = .ok (.bipush (-2), 2) := by decide +kernel
theorem d_X6_look_33 : decode prog_1_method_10_code 33 = .ok (.ireturn, 1) := by decide +kernel
theorem d_X6_look_34 : decode prog_1_method_10_code 34 = .ok (.aload_n 0, 1) := by decide +kernel
theorem d_X6_look_35 : decode prog_1_method_10_code 35 = .ok (.getfield 30, 3) := by decide +kernel
theorem d_X6_look_38 : decode prog_1_method_10_code 38 = .ok (.getfield 140, 3) := by decide +kernel
theorem d_X6_look_41 : decode prog_1_method_10_code 41 = .ok (.iload_n 1, 1) := by decide +kernel
theorem d_X6_look_42 : decode prog_1_method_10_code 42 = .ok (.aaload, 1) := by decide +kernel
theorem d_X6_look_43 : decode prog_1_method_10_code 43 = .ok (.iload_n 2, 1) := by decide +kernel
theorem d_X6_look_44 : decode prog_1_method_10_code 44 = .ok (.iload_n 3, 1) := by decide +kernel
theorem d_X6_look_45 : decode prog_1_method_10_code 45 = .ok (.invokevirtual 158, 3) := by decide +kernel
theorem d_X6_look_48 : decode prog_1_method_10_code 48 = .ok (.ireturn, 1) := by decide +kernel
def m_X6_look (sh : Sh) (v0 : Nat) (v1 : Int32) (v2 : Int32) (v3 : Int32) (μ : Mu) : Option (Int32 × Mu) :=
  gd (iz sh 6 v0) <|
  bd (gR μ v0 4) fun a2 =>
  gd (iz sh 4 a2) <|
  ca2 (m_X4_hasStrip sh a2 v1 μ) fun r4 μ5 =>
  if r4 = 0 then
    some ((-1), μ5)
  else
    if v2 < 0 then
      some ((-2), μ5)
    else
      if 4 ≤ v2 then
        some ((-2), μ5)
      else
        if v3 < 0 then
          some ((-2), μ5)
        else
          if v3 < 4 then
            bd (gR μ5 v0 4) fun a11 =>
            gd (iz sh 4 a11) <|
            bd (gR μ5 a11 5) fun a13 =>
            gd (ix sh 11 a13 v1) <|
            bd (gR μ5 a13 v1.toNatClampNeg) fun a15 =>
            gd (iz sh 5 a15) <|
            ca2 (m_X5_cell sh a15 v2 v3 μ5) fun r17 μ18 =>
            some (r17, μ18)
          else
            some ((-2), μ5)
set_option maxHeartbeats 4000000 in
set_option maxRecDepth 20000 in
theorem t_X6_look {l : Launch} {G : Gl} {n : Nat} {sh : Sh} {x : Int32 × Mu} {v0 : Nat} {v1 : Int32} {v2 : Int32} {v3 : Int32} {μ : Mu} (h : m_X6_look sh v0 v1 v2 v3 μ = some x) : Ct l G ⟨"StripsOfFour", "look", "(III)I"⟩ prog_1_method_10_code 4 (some .int) { frames := 1, cells := 0, slots := 0, locals := 22 } n sh μ [vr v0, vi v1, vi v2, vi v3] (some (.int x.1)) n sh x.2 := by
  refine Ct.of (lc := [some (vr v0), some (vi v1), some (vi v2), some (vi v3)]) (by decide +kernel) (Nat.le_of_ble_eq_true rfl) rfl ?_
  show Sj l G (QI G n sh x) c_X6_look n sh 0 0 μ 0 [some (vr v0), some (vi v1), some (vi v2), some (vi v3)] []
  unfold m_X6_look at h
  refine s_aload_n (pc := 0) d_X6_look_0 rfl rfl ?_
  obtain ⟨g1, h⟩ := gd_1 h
  refine s_getR (pc := 1) (k := 4) cl_6 d_X6_look_1 g1 (by decide) w_200 (rt_obj _) ?_
  obtain ⟨a2, ea2, h⟩ := bd_1 h
  refine s_topR ea2 ?_
  refine s_iload_n (pc := 4) d_X6_look_4 rfl rfl ?_
  obtain ⟨g3, h⟩ := gd_1 h
  obtain ⟨r4, μ5, er4, h⟩ := ca2_1 h
  refine s_callV (pc := 5) (as := [vi v1]) (st := []) (vo := [vi r4]) (t_X4_hasStrip er4) cl_4 g3 d_X6_look_5 y_X4_hasStrip w_341 w_342 w_343 ⟨by decide, by decide⟩ ⟨Nat.le_of_ble_eq_true rfl, Nat.le_of_ble_eq_true rfl⟩ (Nat.le_of_ble_eq_true rfl) rfl rfl rfl ?_
  refine s_as (kc' := 0) (js' := 0) (pc' := 8) (st' := [vi r4]) ⟨rfl, rfl, rfl, rfl⟩ ?_
  refine s_if_ne (pc := 8) (tgt := 13) d_X6_look_8 (by decide) (fun c6 => ?_) (fun c6 => ?_)
  · have h := it_f c6 h
    refine s_iload_n (pc := 13) d_X6_look_13 rfl rfl ?_
    refine s_if_lt (pc := 14) (tgt := 31) d_X6_look_14 (by decide) (fun c7 => ?_) (fun c7 => ?_)
    · have h := it_t c7 h
      refine s_bipush (pc := 31) (v := (-2)) d_X6_look_31 (by decide) ?_
      obtain rfl := Option.some.inj h
      exact s_iret (pc := 33) d_X6_look_33 rfl
    · have h := it_f c7 h
      refine s_iload_n (pc := 17) d_X6_look_17 rfl rfl ?_
      refine s_iconst (pc := 18) (v := 4) d_X6_look_18 (by decide) ?_
      refine s_icmp_ge (pc := 19) (tgt := 31) d_X6_look_19 (by decide) (fun c8 => ?_) (fun c8 => ?_)
      · have h := it_t c8 h
        refine s_bipush (pc := 31) (v := (-2)) d_X6_look_31 (by decide) ?_
        obtain rfl := Option.some.inj h
        exact s_iret (pc := 33) d_X6_look_33 rfl
      · have h := it_f c8 h
        refine s_iload_n (pc := 22) d_X6_look_22 rfl rfl ?_
        refine s_if_lt (pc := 23) (tgt := 31) d_X6_look_23 (by decide) (fun c9 => ?_) (fun c9 => ?_)
        · have h := it_t c9 h
          refine s_bipush (pc := 31) (v := (-2)) d_X6_look_31 (by decide) ?_
          obtain rfl := Option.some.inj h
          exact s_iret (pc := 33) d_X6_look_33 rfl
        · have h := it_f c9 h
          refine s_iload_n (pc := 26) d_X6_look_26 rfl rfl ?_
          refine s_iconst (pc := 27) (v := 4) d_X6_look_27 (by decide) ?_
          refine s_icmp_lt (pc := 28) (tgt := 34) d_X6_look_28 (by decide) (fun c10 => ?_) (fun c10 => ?_)
          · have h := it_t c10 h
            refine s_aload_n (pc := 34) d_X6_look_34 rfl rfl ?_
            refine s_getR (pc := 35) (k := 4) cl_6 d_X6_look_35 g1 (by decide) w_200 (rt_obj _) ?_
            obtain ⟨a11, ea11, h⟩ := bd_1 h
            refine s_topR ea11 ?_
            obtain ⟨g12, h⟩ := gd_1 h
            refine s_getR (pc := 38) (k := 5) cl_4 d_X6_look_38 g12 (by decide) w_108 (rt_arr _) ?_
            obtain ⟨a13, ea13, h⟩ := bd_1 h
            refine s_topR ea13 ?_
            refine s_iload_n (pc := 41) d_X6_look_41 rfl rfl ?_
            obtain ⟨g14, h⟩ := gd_1 h
            refine s_aald11 (pc := 42) d_X6_look_42 g14 ?_
            obtain ⟨a15, ea15, h⟩ := bd_1 h
            refine s_topR ea15 ?_
            refine s_iload_n (pc := 43) d_X6_look_43 rfl rfl ?_
            refine s_iload_n (pc := 44) d_X6_look_44 rfl rfl ?_
            obtain ⟨g16, h⟩ := gd_1 h
            obtain ⟨r17, μ18, er17, h⟩ := ca2_1 h
            refine s_callV (pc := 45) (as := [vi v2, vi v3]) (st := []) (vo := [vi r17]) (t_X5_cell er17) cl_5 g16 d_X6_look_45 y_X5_cell w_357 w_350 w_351 ⟨by decide, by decide⟩ ⟨Nat.le_of_ble_eq_true rfl, Nat.le_of_ble_eq_true rfl⟩ (Nat.le_of_ble_eq_true rfl) rfl rfl rfl ?_
            refine s_as (kc' := 0) (js' := 0) (pc' := 48) (st' := [vi r17]) ⟨rfl, rfl, rfl, rfl⟩ ?_
            obtain rfl := Option.some.inj h
            exact s_iret (pc := 48) d_X6_look_48 rfl
          · have h := it_f c10 h
            refine s_bipush (pc := 31) (v := (-2)) d_X6_look_31 (by decide) ?_
            obtain rfl := Option.some.inj h
            exact s_iret (pc := 33) d_X6_look_33 rfl
  · have h := it_t c6 h
    refine s_iconst (pc := 11) (v := (-1)) d_X6_look_11 (by decide) ?_
    obtain rfl := Option.some.inj h
    exact s_iret (pc := 12) d_X6_look_12 rfl
/-! StripsOfFour.minute -/
abbrev c_X6_minute : Cf := (prog_1_method_15_code, 3, "StripsOfFour", "minute", (some .int), { frames := 5, cells := 0, slots := 0, locals := 132 })
theorem d_X6_minute_0 : decode prog_1_method_15_code 0 = .ok (.aload_n 0, 1) := by decide +kernel
theorem d_X6_minute_1 : decode prog_1_method_15_code 1 = .ok (.getfield 37, 3) := by decide +kernel
theorem d_X6_minute_4 : decode prog_1_method_15_code 4 = .ok (.aload_n 0, 1) := by decide +kernel
theorem d_X6_minute_5 : decode prog_1_method_15_code 5 = .ok (.getfield 30, 3) := by decide +kernel
theorem d_X6_minute_8 : decode prog_1_method_15_code 8 = .ok (.invokevirtual 174, 3) := by decide +kernel
theorem d_X6_minute_11 : decode prog_1_method_15_code 11 = .ok (.iconst 0, 1) := by decide +kernel
theorem d_X6_minute_12 : decode prog_1_method_15_code 12 = .ok (.istore_n 1, 1) := by decide +kernel
theorem d_X6_minute_13 : decode prog_1_method_15_code 13 = .ok (.iconst 0, 1) := by decide +kernel
theorem d_X6_minute_14 : decode prog_1_method_15_code 14 = .ok (.istore_n 2, 1) := by decide +kernel
theorem d_X6_minute_15 : decode prog_1_method_15_code 15 = .ok (.iload_n 2, 1) := by decide +kernel
theorem d_X6_minute_16 : decode prog_1_method_15_code 16 = .ok (.aload_n 0, 1) := by decide +kernel
theorem d_X6_minute_17 : decode prog_1_method_15_code 17 = .ok (.getfield 20, 3) := by decide +kernel
theorem d_X6_minute_20 : decode prog_1_method_15_code 20 = .ok (.getfield 73, 3) := by decide +kernel
theorem d_X6_minute_23 : decode prog_1_method_15_code 23 = .ok (.if_icmp .ge 24, 3) := by decide +kernel
theorem d_X6_minute_26 : decode prog_1_method_15_code 26 = .ok (.iload_n 1, 1) := by decide +kernel
theorem d_X6_minute_27 : decode prog_1_method_15_code 27 = .ok (.aload_n 0, 1) := by decide +kernel
theorem d_X6_minute_28 : decode prog_1_method_15_code 28 = .ok (.getfield 30, 3) := by decide +kernel
theorem d_X6_minute_31 : decode prog_1_method_15_code 31 = .ok (.aload_n 0, 1) := by decide +kernel
theorem d_X6_minute_32 : decode prog_1_method_15_code 32 = .ok (.getfield 20, 3) := by decide +kernel
theorem d_X6_minute_35 : decode prog_1_method_15_code 35 = .ok (.iload_n 2, 1) := by decide +kernel
theorem d_X6_minute_36 : decode prog_1_method_15_code 36 = .ok (.invokevirtual 186, 3) := by decide +kernel
theorem d_X6_minute_39 : decode prog_1_method_15_code 39 = .ok (.iadd, 1) := by decide +kernel
theorem d_X6_minute_40 : decode prog_1_method_15_code 40 = .ok (.istore_n 1, 1) := by decide +kernel
theorem d_X6_minute_41 : decode prog_1_method_15_code 41 = .ok (.iinc 2 1, 3) := by decide +kernel
theorem d_X6_minute_44 : decode prog_1_method_15_code 44 = .ok (.goto (-29), 3) := by decide +kernel
theorem d_X6_minute_47 : decode prog_1_method_15_code 47 = .ok (.aload_n 0, 1) := by decide +kernel
theorem d_X6_minute_48 : decode prog_1_method_15_code 48 = .ok (.getfield 30, 3) := by decide +kernel
theorem d_X6_minute_51 : decode prog_1_method_15_code 51 = .ok (.dup, 1) := by decide +kernel
theorem d_X6_minute_52 : decode prog_1_method_15_code 52 = .ok (.getfield 82, 3) := by decide +kernel
theorem d_X6_minute_55 : decode prog_1_method_15_code 55 = .ok (.iconst 1, 1) := by decide +kernel
theorem d_X6_minute_56 : decode prog_1_method_15_code 56 = .ok (.iadd, 1) := by decide +kernel
theorem d_X6_minute_57 : decode prog_1_method_15_code 57 = .ok (.putfield 82, 3) := by decide +kernel
theorem d_X6_minute_60 : decode prog_1_method_15_code 60 = .ok (.iload_n 1, 1) := by decide +kernel
theorem d_X6_minute_61 : decode prog_1_method_15_code 61 = .ok (.ireturn, 1) := by decide +kernel
def m_X6_minute_b47 (sh : Sh) (v0 : Nat) (v1 : Int32) (μ : Mu) : Option (Int32 × Mu) :=
  gd (iz sh 6 v0) <|
  bd (gR μ v0 4) fun a18 =>
  gd (iz sh 4 a18) <|
  bd (sI μ a18 1 ((gI μ a18 1) + 1)) fun μ20 =>
  some (v1, μ20)
def m_X6_minute_b15 (sh : Sh) (k15 : Int32 → Int32 → Mu → Option (Int32 × Mu)) (v0 : Nat) (v1 : Int32) (v2 : Int32) (μ : Mu) : Option (Int32 × Mu) :=
  gd (iz sh 6 v0) <|
  bd (gR μ v0 2) fun a7 =>
  gd (iz sh 2 a7) <|
  if (gI μ a7 1) ≤ v2 then
    m_X6_minute_b47 sh v0 v1 μ
  else
    bd (gR μ v0 4) fun a10 =>
    bd (gR μ v0 2) fun a11 =>
    gd (iz sh 4 a10) <|
    ca2 (m_X4_flash sh a10 a11 v2 μ) fun r13 μ14 =>
    bd (v1 + r13) fun w15 =>
    bd (v2 + 1) fun w16 =>
    k15 w15 w16 μ14
def m_X6_minute_h15 (sh : Sh) (v0 : Nat) : Nat → Int32 → Int32 → Mu → Option (Int32 × Mu)
  | 0 => fun _ _ _ => none
  | f + 1 => fun v1 v2 μ => m_X6_minute_b15 sh (m_X6_minute_h15 sh v0 f) v0 v1 v2 μ
def m_X6_minute (sh : Sh) (v0 : Nat) (μ : Mu) : Option (Int32 × Mu) :=
  gd (iz sh 6 v0) <|
  bd (gR μ v0 5) fun a2 =>
  bd (gR μ v0 4) fun a3 =>
  gd (iz sh 1 a2) <|
  ca (m_X1_remember sh a2 a3 μ) fun μ5 =>
  m_X6_minute_h15 sh v0 FU 0 0 μ5
set_option maxHeartbeats 4000000 in
set_option maxRecDepth 20000 in
theorem t_X6_minute_b47 {l : Launch} {G : Gl} {n : Nat} {sh : Sh} {x : Int32 × Mu} {v0 : Nat} {v1 : Int32} {μ : Mu} (h : m_X6_minute_b47 sh v0 v1 μ = some x) : Sj l G (QI G n sh x) c_X6_minute n sh 0 0 μ 47 [some (vr v0), some (vi v1), none] [] := by
  unfold m_X6_minute_b47 at h
  refine s_aload_n (pc := 47) d_X6_minute_47 rfl rfl ?_
  obtain ⟨g17, h⟩ := gd_1 h
  refine s_getR (pc := 48) (k := 4) cl_6 d_X6_minute_48 g17 (by decide) w_200 (rt_obj _) ?_
  obtain ⟨a18, ea18, h⟩ := bd_1 h
  refine s_topR ea18 ?_
  refine s_dup (pc := 51) d_X6_minute_51 rfl ?_
  obtain ⟨g19, h⟩ := gd_1 h
  refine s_getI (pc := 52) (k := 1) cl_4 d_X6_minute_52 g19 (by decide) w_97 rfl ?_
  refine s_iconst (pc := 55) (v := 1) d_X6_minute_55 (by decide) ?_
  refine s_iadd (pc := 56) d_X6_minute_56 ?_
  refine s_putI (pc := 57) (k := 1) cl_4 d_X6_minute_57 g19 (by decide) w_97 rfl rfl ?_
  obtain ⟨μ20, eμ20, h⟩ := bd_1 h
  refine s_mu eμ20 ?_
  refine s_iload_n (pc := 60) d_X6_minute_60 rfl rfl ?_
  obtain rfl := Option.some.inj h
  exact s_iret (pc := 61) d_X6_minute_61 rfl
set_option maxHeartbeats 4000000 in
set_option maxRecDepth 20000 in
theorem t_X6_minute_b15 {l : Launch} {G : Gl} {n : Nat} {sh : Sh} {x : Int32 × Mu} {k15 : Int32 → Int32 → Mu → Option (Int32 × Mu)} {v0 : Nat} {v1 : Int32} {v2 : Int32} {μ : Mu} (hk15 : ∀ (v1 : Int32) (v2 : Int32) (μ : Mu), k15 v1 v2 μ = some x → Sj l G (QI G n sh x) c_X6_minute n sh 0 0 μ 15 [some (vr v0), some (vi v1), some (vi v2)] []) (h : m_X6_minute_b15 sh k15 v0 v1 v2 μ = some x) : Sj l G (QI G n sh x) c_X6_minute n sh 0 0 μ 15 [some (vr v0), some (vi v1), some (vi v2)] [] := by
  unfold m_X6_minute_b15 at h
  refine s_iload_n (pc := 15) d_X6_minute_15 rfl rfl ?_
  refine s_aload_n (pc := 16) d_X6_minute_16 rfl rfl ?_
  obtain ⟨g6, h⟩ := gd_1 h
  refine s_getR (pc := 17) (k := 2) cl_6 d_X6_minute_17 g6 (by decide) w_198 (rt_obj _) ?_
  obtain ⟨a7, ea7, h⟩ := bd_1 h
  refine s_topR ea7 ?_
  obtain ⟨g8, h⟩ := gd_1 h
  refine s_getI (pc := 20) (k := 1) cl_2 d_X6_minute_20 g8 (by decide) w_29 rfl ?_
  refine s_icmp_ge (pc := 23) (tgt := 47) d_X6_minute_23 (by decide) (fun c9 => ?_) (fun c9 => ?_)
  · have h := it_t c9 h
    refine s_mask [true, true, false] rfl ?_
    exact t_X6_minute_b47 h
  · have h := it_f c9 h
    refine s_iload_n (pc := 26) d_X6_minute_26 rfl rfl ?_
    refine s_aload_n (pc := 27) d_X6_minute_27 rfl rfl ?_
    refine s_getR (pc := 28) (k := 4) cl_6 d_X6_minute_28 g6 (by decide) w_200 (rt_obj _) ?_
    obtain ⟨a10, ea10, h⟩ := bd_1 h
    refine s_topR ea10 ?_
    refine s_aload_n (pc := 31) d_X6_minute_31 rfl rfl ?_
    refine s_getR (pc := 32) (k := 2) cl_6 d_X6_minute_32 g6 (by decide) w_198 (rt_obj _) ?_
    obtain ⟨a11, ea11, h⟩ := bd_1 h
    refine s_topR ea11 ?_
    refine s_iload_n (pc := 35) d_X6_minute_35 rfl rfl ?_
    obtain ⟨g12, h⟩ := gd_1 h
    obtain ⟨r13, μ14, er13, h⟩ := ca2_1 h
    refine s_callV (pc := 36) (as := [vr a11, vi v2]) (st := [vi v1]) (vo := [vi r13]) (t_X4_flash er13) cl_4 g12 d_X6_minute_36 y_X4_flash w_415 w_416 w_417 ⟨by decide, by decide⟩ ⟨Nat.le_of_ble_eq_true rfl, Nat.le_of_ble_eq_true rfl⟩ (Nat.le_of_ble_eq_true rfl) rfl rfl rfl ?_
    refine s_as (kc' := 0) (js' := 0) (pc' := 39) (st' := [vi r13, vi v1]) ⟨rfl, rfl, rfl, rfl⟩ ?_
    refine s_iadd (pc := 39) d_X6_minute_39 ?_
    obtain ⟨w15, ew15, h⟩ := bd_1 h
    refine s_topI ew15 ?_
    refine s_istore_n (pc := 40) (lc' := [some (vr v0), some (vi w15), some (vi v2)]) d_X6_minute_40 rfl (by decide) rfl ?_
    obtain ⟨w16, ew16, h⟩ := bd_1 h
    refine s_iinc (pc := 41) (v := w16) (lc' := [some (vr v0), some (vi w15), some (vi w16)]) d_X6_minute_41 rfl (by rw [ew16]; rfl) (by decide) rfl ?_
    refine s_goto (pc := 44) (tgt := 15) d_X6_minute_44 (by decide) ?_
    exact hk15 _ _ _ h
set_option maxHeartbeats 4000000 in
set_option maxRecDepth 20000 in
theorem t_X6_minute_h15 {l : Launch} {G : Gl} {n : Nat} {sh : Sh} {x : Int32 × Mu} {v0 : Nat} : ∀ (f : Nat) (v1 : Int32) (v2 : Int32) (μ : Mu), m_X6_minute_h15 sh v0 f v1 v2 μ = some x → Sj l G (QI G n sh x) c_X6_minute n sh 0 0 μ 15 [some (vr v0), some (vi v1), some (vi v2)] [] := by
  intro f
  induction f with
  | zero =>
    intro v1 v2 μ h
    cases h
  | succ f ih =>
    intro v1 v2 μ h
    exact t_X6_minute_b15 ih h
set_option maxHeartbeats 4000000 in
set_option maxRecDepth 20000 in
theorem t_X6_minute {l : Launch} {G : Gl} {n : Nat} {sh : Sh} {x : Int32 × Mu} {v0 : Nat} {μ : Mu} (h : m_X6_minute sh v0 μ = some x) : Ct l G ⟨"StripsOfFour", "minute", "()I"⟩ prog_1_method_15_code 3 (some .int) { frames := 5, cells := 0, slots := 0, locals := 132 } n sh μ [vr v0] (some (.int x.1)) n sh x.2 := by
  refine Ct.of (lc := [some (vr v0), none, none]) (by decide +kernel) (Nat.le_of_ble_eq_true rfl) rfl ?_
  show Sj l G (QI G n sh x) c_X6_minute n sh 0 0 μ 0 [some (vr v0), none, none] []
  unfold m_X6_minute at h
  refine s_aload_n (pc := 0) d_X6_minute_0 rfl rfl ?_
  obtain ⟨g1, h⟩ := gd_1 h
  refine s_getR (pc := 1) (k := 5) cl_6 d_X6_minute_1 g1 (by decide) w_201 (rt_obj _) ?_
  obtain ⟨a2, ea2, h⟩ := bd_1 h
  refine s_topR ea2 ?_
  refine s_aload_n (pc := 4) d_X6_minute_4 rfl rfl ?_
  refine s_getR (pc := 5) (k := 4) cl_6 d_X6_minute_5 g1 (by decide) w_200 (rt_obj _) ?_
  obtain ⟨a3, ea3, h⟩ := bd_1 h
  refine s_topR ea3 ?_
  obtain ⟨g4, h⟩ := gd_1 h
  obtain ⟨μ5, eμ5, h⟩ := ca_1 h
  refine s_callV (pc := 8) (as := [vr a3]) (st := []) (vo := []) (t_X1_remember eμ5) cl_1 g4 d_X6_minute_8 y_X1_remember w_378 w_379 w_380 ⟨by decide, by decide⟩ ⟨Nat.le_of_ble_eq_true rfl, Nat.le_of_ble_eq_true rfl⟩ (Nat.le_of_ble_eq_true rfl) rfl rfl rfl ?_
  refine s_as (kc' := 0) (js' := 0) (pc' := 11) (st' := []) ⟨rfl, rfl, rfl, rfl⟩ ?_
  refine s_iconst (pc := 11) (v := 0) d_X6_minute_11 (by decide) ?_
  refine s_istore_n (pc := 12) (lc' := [some (vr v0), some (vi 0), none]) d_X6_minute_12 rfl (by decide) rfl ?_
  refine s_iconst (pc := 13) (v := 0) d_X6_minute_13 (by decide) ?_
  refine s_istore_n (pc := 14) (lc' := [some (vr v0), some (vi 0), some (vi 0)]) d_X6_minute_14 rfl (by decide) rfl ?_
  exact t_X6_minute_h15 FU _ _ _ h
/-! StripsOfFour.most -/
abbrev c_X6_most : Cf := (prog_1_method_27_code, 3, "StripsOfFour", "most", (some .int), { frames := 4, cells := 0, slots := 0, locals := 89 })
theorem d_X6_most_0 : decode prog_1_method_27_code 0 = .ok (.aload_n 0, 1) := by decide +kernel
theorem d_X6_most_1 : decode prog_1_method_27_code 1 = .ok (.getfield 20, 3) := by decide +kernel
theorem d_X6_most_4 : decode prog_1_method_27_code 4 = .ok (.iload_n 1, 1) := by decide +kernel
theorem d_X6_most_5 : decode prog_1_method_27_code 5 = .ok (.invokevirtual 101, 3) := by decide +kernel
theorem d_X6_most_8 : decode prog_1_method_27_code 8 = .ok (.ifCond .ne 5, 3) := by decide +kernel
theorem d_X6_most_11 : decode prog_1_method_27_code 11 = .ok (.iconst (-1), 1) := by decide +kernel
theorem d_X6_most_12 : decode prog_1_method_27_code 12 = .ok (.ireturn, 1) := by decide +kernel
theorem d_X6_most_13 : decode prog_1_method_27_code 13 = .ok (.iload_n 2, 1) := by decide +kernel
theorem d_X6_most_14 : decode prog_1_method_27_code 14 = .ok (.invokestatic 227, 3) := by decide +kernel
theorem d_X6_most_17 : decode prog_1_method_27_code 17 = .ok (.ifCond .ne 6, 3) := by decide +kernel
theorem d_X6_most_20 : decode prog_1_method_27_code 20 = .ok (.bipush (-2), 2) := by decide +kernel
theorem d_X6_most_22 : decode prog_1_method_27_code 22 = .ok (.ireturn, 1) := by decide +kernel
theorem d_X6_most_23 : decode prog_1_method_27_code 23 = .ok (.aload_n 0, 1) := by decide +kernel
theorem d_X6_most_24 : decode prog_1_method_27_code 24 = .ok (.getfield 30, 3) := by decide +kernel
theorem d_X6_most_27 : decode prog_1_method_27_code 27 = .ok (.iload_n 1, 1) := by decide +kernel
theorem d_X6_most_28 : decode prog_1_method_27_code 28 = .ok (.invokevirtual 115, 3) := by decide +kernel
theorem d_X6_most_31 : decode prog_1_method_27_code 31 = .ok (.aload_n 0, 1) := by decide +kernel
theorem d_X6_most_32 : decode prog_1_method_27_code 32 = .ok (.getfield 20, 3) := by decide +kernel
theorem d_X6_most_35 : decode prog_1_method_27_code 35 = .ok (.iload_n 1, 1) := by decide +kernel
theorem d_X6_most_36 : decode prog_1_method_27_code 36 = .ok (.aload_n 0, 1) := by decide +kernel
theorem d_X6_most_37 : decode prog_1_method_27_code 37 = .ok (.getfield 30, 3) := by decide +kernel
theorem d_X6_most_40 : decode prog_1_method_27_code 40 = .ok (.getfield 82, 3) := by decide +kernel
theorem d_X6_most_43 : decode prog_1_method_27_code 43 = .ok (.iload_n 2, 1) := by decide +kernel
theorem d_X6_most_44 : decode prog_1_method_27_code 44 = .ok (.invokevirtual 249, 3) := by decide +kernel
theorem d_X6_most_47 : decode prog_1_method_27_code 47 = .ok (.iadd, 1) := by decide +kernel
theorem d_X6_most_48 : decode prog_1_method_27_code 48 = .ok (.iconst 4, 1) := by decide +kernel
theorem d_X6_most_49 : decode prog_1_method_27_code 49 = .ok (.idiv, 1) := by decide +kernel
theorem d_X6_most_50 : decode prog_1_method_27_code 50 = .ok (.ireturn, 1) := by decide +kernel
def m_X6_most (sh : Sh) (v0 : Nat) (v1 : Int32) (v2 : Int32) (μ : Mu) : Option (Int32 × Mu) :=
  gd (iz sh 6 v0) <|
  bd (gR μ v0 2) fun a2 =>
  gd (iz sh 2 a2) <|
  ca2 (m_X2_hasBooth sh a2 v1 μ) fun r4 μ5 =>
  if r4 = 0 then
    some ((-1), μ5)
  else
    ca2 (m_X6_isAskedMinute sh v2 μ5) fun r7 μ8 =>
    if r7 = 0 then
      some ((-2), μ8)
    else
      bd (gR μ8 v0 4) fun a10 =>
      gd (iz sh 4 a10) <|
      ca2 (m_X4_begunLooks sh a10 v1 μ8) fun r12 μ13 =>
      bd (gR μ13 v0 2) fun a14 =>
      bd (gR μ13 v0 4) fun a15 =>
      gd (iz sh 4 a15) <|
      gd (iz sh 2 a14) <|
      ca2 (m_X2_flashesBetween sh a14 v1 (gI μ13 a15 1) v2 μ13) fun r18 μ19 =>
      gd (nzI 4) <|
      some ((r12 + r18) / 4, μ19)
set_option maxHeartbeats 4000000 in
set_option maxRecDepth 20000 in
theorem t_X6_most {l : Launch} {G : Gl} {n : Nat} {sh : Sh} {x : Int32 × Mu} {v0 : Nat} {v1 : Int32} {v2 : Int32} {μ : Mu} (h : m_X6_most sh v0 v1 v2 μ = some x) : Ct l G ⟨"StripsOfFour", "most", "(II)I"⟩ prog_1_method_27_code 3 (some .int) { frames := 4, cells := 0, slots := 0, locals := 89 } n sh μ [vr v0, vi v1, vi v2] (some (.int x.1)) n sh x.2 := by
  refine Ct.of (lc := [some (vr v0), some (vi v1), some (vi v2)]) (by decide +kernel) (Nat.le_of_ble_eq_true rfl) rfl ?_
  show Sj l G (QI G n sh x) c_X6_most n sh 0 0 μ 0 [some (vr v0), some (vi v1), some (vi v2)] []
  unfold m_X6_most at h
  refine s_aload_n (pc := 0) d_X6_most_0 rfl rfl ?_
  obtain ⟨g1, h⟩ := gd_1 h
  refine s_getR (pc := 1) (k := 2) cl_6 d_X6_most_1 g1 (by decide) w_198 (rt_obj _) ?_
  obtain ⟨a2, ea2, h⟩ := bd_1 h
  refine s_topR ea2 ?_
  refine s_iload_n (pc := 4) d_X6_most_4 rfl rfl ?_
  obtain ⟨g3, h⟩ := gd_1 h
  obtain ⟨r4, μ5, er4, h⟩ := ca2_1 h
  refine s_callV (pc := 5) (as := [vi v1]) (st := []) (vo := [vi r4]) (t_X2_hasBooth er4) cl_2 g3 d_X6_most_5 y_X2_hasBooth w_284 w_256 w_257 ⟨by decide, by decide⟩ ⟨Nat.le_of_ble_eq_true rfl, Nat.le_of_ble_eq_true rfl⟩ (Nat.le_of_ble_eq_true rfl) rfl rfl rfl ?_
  refine s_as (kc' := 0) (js' := 0) (pc' := 8) (st' := [vi r4]) ⟨rfl, rfl, rfl, rfl⟩ ?_
  refine s_if_ne (pc := 8) (tgt := 13) d_X6_most_8 (by decide) (fun c6 => ?_) (fun c6 => ?_)
  · have h := it_f c6 h
    refine s_iload_n (pc := 13) d_X6_most_13 rfl rfl ?_
    obtain ⟨r7, μ8, er7, h⟩ := ca2_1 h
    refine s_callS (pc := 14) (as := [vi v2]) (st := []) (vo := [vi r7]) (t_X6_isAskedMinute er7) d_X6_most_14 y_X6_isAskedMinute w_563 w_564 ⟨by decide, by decide⟩ ⟨Nat.le_of_ble_eq_true rfl, Nat.le_of_ble_eq_true rfl⟩ (Nat.le_of_ble_eq_true rfl) rfl rfl rfl ?_
    refine s_as (kc' := 0) (js' := 0) (pc' := 17) (st' := [vi r7]) ⟨rfl, rfl, rfl, rfl⟩ ?_
    refine s_if_ne (pc := 17) (tgt := 23) d_X6_most_17 (by decide) (fun c9 => ?_) (fun c9 => ?_)
    · have h := it_f c9 h
      refine s_aload_n (pc := 23) d_X6_most_23 rfl rfl ?_
      refine s_getR (pc := 24) (k := 4) cl_6 d_X6_most_24 g1 (by decide) w_200 (rt_obj _) ?_
      obtain ⟨a10, ea10, h⟩ := bd_1 h
      refine s_topR ea10 ?_
      refine s_iload_n (pc := 27) d_X6_most_27 rfl rfl ?_
      obtain ⟨g11, h⟩ := gd_1 h
      obtain ⟨r12, μ13, er12, h⟩ := ca2_1 h
      refine s_callV (pc := 28) (as := [vi v1]) (st := []) (vo := [vi r12]) (t_X4_begunLooks er12) cl_4 g11 d_X6_most_28 y_X4_begunLooks w_300 w_301 w_302 ⟨by decide, by decide⟩ ⟨Nat.le_of_ble_eq_true rfl, Nat.le_of_ble_eq_true rfl⟩ (Nat.le_of_ble_eq_true rfl) rfl rfl rfl ?_
      refine s_as (kc' := 0) (js' := 0) (pc' := 31) (st' := [vi r12]) ⟨rfl, rfl, rfl, rfl⟩ ?_
      refine s_aload_n (pc := 31) d_X6_most_31 rfl rfl ?_
      refine s_getR (pc := 32) (k := 2) cl_6 d_X6_most_32 g1 (by decide) w_198 (rt_obj _) ?_
      obtain ⟨a14, ea14, h⟩ := bd_1 h
      refine s_topR ea14 ?_
      refine s_iload_n (pc := 35) d_X6_most_35 rfl rfl ?_
      refine s_aload_n (pc := 36) d_X6_most_36 rfl rfl ?_
      refine s_getR (pc := 37) (k := 4) cl_6 d_X6_most_37 g1 (by decide) w_200 (rt_obj _) ?_
      obtain ⟨a15, ea15, h⟩ := bd_1 h
      refine s_topR ea15 ?_
      obtain ⟨g16, h⟩ := gd_1 h
      refine s_getI (pc := 40) (k := 1) cl_4 d_X6_most_40 g16 (by decide) w_97 rfl ?_
      refine s_iload_n (pc := 43) d_X6_most_43 rfl rfl ?_
      obtain ⟨g17, h⟩ := gd_1 h
      obtain ⟨r18, μ19, er18, h⟩ := ca2_1 h
      refine s_callV (pc := 44) (as := [vi v1, vi (gI μ13 a15 1), vi v2]) (st := [vi r12]) (vo := [vi r18]) (t_X2_flashesBetween er18) cl_2 g17 d_X6_most_44 y_X2_flashesBetween w_605 w_606 w_607 ⟨by decide, by decide⟩ ⟨Nat.le_of_ble_eq_true rfl, Nat.le_of_ble_eq_true rfl⟩ (Nat.le_of_ble_eq_true rfl) rfl rfl rfl ?_
      refine s_as (kc' := 0) (js' := 0) (pc' := 47) (st' := [vi r18, vi r12]) ⟨rfl, rfl, rfl, rfl⟩ ?_
      refine s_iadd (pc := 47) d_X6_most_47 ?_
      refine s_iconst (pc := 48) (v := 4) d_X6_most_48 (by decide) ?_
      obtain ⟨g20, h⟩ := gd_1 h
      refine s_idiv (pc := 49) d_X6_most_49 (nzI_eq g20) ?_
      obtain rfl := Option.some.inj h
      exact s_iret (pc := 50) d_X6_most_50 rfl
    · have h := it_t c9 h
      refine s_bipush (pc := 20) (v := (-2)) d_X6_most_20 (by decide) ?_
      obtain rfl := Option.some.inj h
      exact s_iret (pc := 22) d_X6_most_22 rfl
  · have h := it_t c6 h
    refine s_iconst (pc := 11) (v := (-1)) d_X6_most_11 (by decide) ?_
    obtain rfl := Option.some.inj h
    exact s_iret (pc := 12) d_X6_most_12 rfl
/-! StripsOfFour.inLeastTerms -/
abbrev c_X6_inLeastTerms : Cf := (prog_1_method_42_code, 12, "StripsOfFour", "inLeastTerms", (some .long), { frames := 0, cells := 0, slots := 0, locals := 0 })
theorem d_X6_inLeastTerms_0 : decode prog_1_method_42_code 0 = .ok (.lload_n 0, 1) := by decide +kernel
theorem d_X6_inLeastTerms_1 : decode prog_1_method_42_code 1 = .ok (.lstore 5, 2) := by decide +kernel
theorem d_X6_inLeastTerms_3 : decode prog_1_method_42_code 3 = .ok (.lload_n 2, 1) := by decide +kernel
theorem d_X6_inLeastTerms_4 : decode prog_1_method_42_code 4 = .ok (.lstore 7, 2) := by decide +kernel
theorem d_X6_inLeastTerms_6 : decode prog_1_method_42_code 6 = .ok (.iconst 0, 1) := by decide +kernel
theorem d_X6_inLeastTerms_7 : decode prog_1_method_42_code 7 = .ok (.istore 9, 2) := by decide +kernel
theorem d_X6_inLeastTerms_9 : decode prog_1_method_42_code 9 = .ok (.iload 9, 2) := by decide +kernel
theorem d_X6_inLeastTerms_11 : decode prog_1_method_42_code 11 = .ok (.bipush 100, 2) := by decide +kernel
theorem d_X6_inLeastTerms_13 : decode prog_1_method_42_code 13 = .ok (.if_icmp .ge 31, 3) := by decide +kernel
theorem d_X6_inLeastTerms_16 : decode prog_1_method_42_code 16 = .ok (.lload 7, 2) := by decide +kernel
theorem d_X6_inLeastTerms_18 : decode prog_1_method_42_code 18 = .ok (.lconst 0, 1) := by decide +kernel
theorem d_X6_inLeastTerms_19 : decode prog_1_method_42_code 19 = .ok (.lcmp, 1) := by decide +kernel
theorem d_X6_inLeastTerms_20 : decode prog_1_method_42_code 20 = .ok (.ifCond .eq 24, 3) := by decide +kernel
theorem d_X6_inLeastTerms_23 : decode prog_1_method_42_code 23 = .ok (.lload 5, 2) := by decide +kernel
theorem d_X6_inLeastTerms_25 : decode prog_1_method_42_code 25 = .ok (.lload 7, 2) := by decide +kernel
theorem d_X6_inLeastTerms_27 : decode prog_1_method_42_code 27 = .ok (.lrem, 1) := by decide +kernel
theorem d_X6_inLeastTerms_28 : decode prog_1_method_42_code 28 = .ok (.lstore 10, 2) := by decide +kernel
theorem d_X6_inLeastTerms_30 : decode prog_1_method_42_code 30 = .ok (.lload 7, 2) := by decide +kernel
theorem d_X6_inLeastTerms_32 : decode prog_1_method_42_code 32 = .ok (.lstore 5, 2) := by decide +kernel
theorem d_X6_inLeastTerms_34 : decode prog_1_method_42_code 34 = .ok (.lload 10, 2) := by decide +kernel
theorem d_X6_inLeastTerms_36 : decode prog_1_method_42_code 36 = .ok (.lstore 7, 2) := by decide +kernel
theorem d_X6_inLeastTerms_38 : decode prog_1_method_42_code 38 = .ok (.iinc 9 1, 3) := by decide +kernel
theorem d_X6_inLeastTerms_41 : decode prog_1_method_42_code 41 = .ok (.goto (-32), 3) := by decide +kernel
theorem d_X6_inLeastTerms_44 : decode prog_1_method_42_code 44 = .ok (.lload 5, 2) := by decide +kernel
theorem d_X6_inLeastTerms_46 : decode prog_1_method_42_code 46 = .ok (.lconst 0, 1) := by decide +kernel
theorem d_X6_inLeastTerms_47 : decode prog_1_method_42_code 47 = .ok (.lcmp, 1) := by decide +kernel
theorem d_X6_inLeastTerms_48 : decode prog_1_method_42_code 48 = .ok (.ifCond .ne 5, 3) := by decide +kernel
theorem d_X6_inLeastTerms_51 : decode prog_1_method_42_code 51 = .ok (.lconst 0, 1) := by decide +kernel
theorem d_X6_inLeastTerms_52 : decode prog_1_method_42_code 52 = .ok (.lreturn, 1) := by decide +kernel
theorem d_X6_inLeastTerms_53 : decode prog_1_method_42_code 53 = .ok (.iload 4, 2) := by decide +kernel
theorem d_X6_inLeastTerms_55 : decode prog_1_method_42_code 55 = .ok (.ifCond .eq 7, 3) := by decide +kernel
theorem d_X6_inLeastTerms_58 : decode prog_1_method_42_code 58 = .ok (.lload_n 0, 1) := by decide +kernel
theorem d_X6_inLeastTerms_59 : decode prog_1_method_42_code 59 = .ok (.goto 4, 3) := by decide +kernel
theorem d_X6_inLeastTerms_62 : decode prog_1_method_42_code 62 = .ok (.lload_n 2, 1) := by decide +kernel
theorem d_X6_inLeastTerms_63 : decode prog_1_method_42_code 63 = .ok (.lload 5, 2) := by decide +kernel
theorem d_X6_inLeastTerms_65 : decode prog_1_method_42_code 65 = .ok (.ldiv, 1) := by decide +kernel
theorem d_X6_inLeastTerms_66 : decode prog_1_method_42_code 66 = .ok (.lreturn, 1) := by decide +kernel
def m_X6_inLeastTerms_b44 (sh : Sh) (v0 : Int64) (v2 : Int64) (v4 : Int32) (v5 : Int64) (μ : Mu) : Option (Int64 × Mu) :=
  if (lg_cmp v5 0) = 0 then
    some (0, μ)
  else
    if v4 = 0 then
      gd (nzJ v5) <|
      some (v2 / v5, μ)
    else
      gd (nzJ v5) <|
      some (v0 / v5, μ)
def m_X6_inLeastTerms_b9 (sh : Sh) (k9 : Int64 → Int64 → Int32 → Mu → Option (Int64 × Mu)) (v0 : Int64) (v2 : Int64) (v4 : Int32) (v5 : Int64) (v7 : Int64) (v9 : Int32) (μ : Mu) : Option (Int64 × Mu) :=
  if 100 ≤ v9 then
    m_X6_inLeastTerms_b44 sh v0 v2 v4 v5 μ
  else
    if (lg_cmp v7 0) = 0 then
      m_X6_inLeastTerms_b44 sh v0 v2 v4 v5 μ
    else
      gd (nzJ v7) <|
      bd (v5 - v5 / v7 * v7) fun w4 =>
      bd (v9 + 1) fun w5 =>
      k9 v7 w4 w5 μ
def m_X6_inLeastTerms_h9 (sh : Sh) (v0 : Int64) (v2 : Int64) (v4 : Int32) : Nat → Int64 → Int64 → Int32 → Mu → Option (Int64 × Mu)
  | 0 => fun _ _ _ _ => none
  | f + 1 => fun v5 v7 v9 μ => m_X6_inLeastTerms_b9 sh (m_X6_inLeastTerms_h9 sh v0 v2 v4 f) v0 v2 v4 v5 v7 v9 μ
def m_X6_inLeastTerms (sh : Sh) (v0 : Int64) (v2 : Int64) (v4 : Int32) (μ : Mu) : Option (Int64 × Mu) :=
  m_X6_inLeastTerms_h9 sh v0 v2 v4 FU v0 v2 0 μ
set_option maxHeartbeats 4000000 in
set_option maxRecDepth 20000 in
theorem t_X6_inLeastTerms_b44 {l : Launch} {G : Gl} {n : Nat} {sh : Sh} {x : Int64 × Mu} {v0 : Int64} {v2 : Int64} {v4 : Int32} {v5 : Int64} {μ : Mu} (h : m_X6_inLeastTerms_b44 sh v0 v2 v4 v5 μ = some x) : Sj l G (QJ G n sh x) c_X6_inLeastTerms n sh 0 0 μ 44 [some (vl v0), none, some (vl v2), none, some (vi v4), some (vl v5), none, none, none, none, none, none] [] := by
  unfold m_X6_inLeastTerms_b44 at h
  refine s_lload (pc := 44) d_X6_inLeastTerms_44 rfl ?_
  refine s_lconst (pc := 46) (v := 0) d_X6_inLeastTerms_46 (by decide) ?_
  refine s_lcmp (pc := 47) d_X6_inLeastTerms_47 ?_
  refine s_if_ne (pc := 48) (tgt := 53) d_X6_inLeastTerms_48 (by decide) (fun c6 => ?_) (fun c6 => ?_)
  · have h := it_f c6 h
    refine s_iload (pc := 53) d_X6_inLeastTerms_53 rfl ?_
    refine s_if_eq (pc := 55) (tgt := 62) d_X6_inLeastTerms_55 (by decide) (fun c7 => ?_) (fun c7 => ?_)
    · have h := it_t c7 h
      refine s_lload_n (pc := 62) d_X6_inLeastTerms_62 rfl rfl ?_
      refine s_lload (pc := 63) d_X6_inLeastTerms_63 rfl ?_
      obtain ⟨g8, h⟩ := gd_1 h
      refine s_ldiv (pc := 65) d_X6_inLeastTerms_65 (nzJ_eq g8) ?_
      obtain rfl := Option.some.inj h
      exact s_lret (pc := 66) d_X6_inLeastTerms_66 rfl
    · have h := it_f c7 h
      refine s_lload_n (pc := 58) d_X6_inLeastTerms_58 rfl rfl ?_
      refine s_goto (pc := 59) (tgt := 63) d_X6_inLeastTerms_59 (by decide) ?_
      refine s_lload (pc := 63) d_X6_inLeastTerms_63 rfl ?_
      obtain ⟨g9, h⟩ := gd_1 h
      refine s_ldiv (pc := 65) d_X6_inLeastTerms_65 (nzJ_eq g9) ?_
      obtain rfl := Option.some.inj h
      exact s_lret (pc := 66) d_X6_inLeastTerms_66 rfl
  · have h := it_t c6 h
    refine s_lconst (pc := 51) (v := 0) d_X6_inLeastTerms_51 (by decide) ?_
    obtain rfl := Option.some.inj h
    exact s_lret (pc := 52) d_X6_inLeastTerms_52 rfl
set_option maxHeartbeats 4000000 in
set_option maxRecDepth 20000 in
theorem t_X6_inLeastTerms_b9 {l : Launch} {G : Gl} {n : Nat} {sh : Sh} {x : Int64 × Mu} {k9 : Int64 → Int64 → Int32 → Mu → Option (Int64 × Mu)} {v0 : Int64} {v2 : Int64} {v4 : Int32} {v5 : Int64} {v7 : Int64} {v9 : Int32} {μ : Mu} (hk9 : ∀ (v5 : Int64) (v7 : Int64) (v9 : Int32) (μ : Mu), k9 v5 v7 v9 μ = some x → Sj l G (QJ G n sh x) c_X6_inLeastTerms n sh 0 0 μ 9 [some (vl v0), none, some (vl v2), none, some (vi v4), some (vl v5), none, some (vl v7), none, some (vi v9), none, none] []) (h : m_X6_inLeastTerms_b9 sh k9 v0 v2 v4 v5 v7 v9 μ = some x) : Sj l G (QJ G n sh x) c_X6_inLeastTerms n sh 0 0 μ 9 [some (vl v0), none, some (vl v2), none, some (vi v4), some (vl v5), none, some (vl v7), none, some (vi v9), none, none] [] := by
  unfold m_X6_inLeastTerms_b9 at h
  refine s_iload (pc := 9) d_X6_inLeastTerms_9 rfl ?_
  refine s_bipush (pc := 11) (v := 100) d_X6_inLeastTerms_11 (by decide) ?_
  refine s_icmp_ge (pc := 13) (tgt := 44) d_X6_inLeastTerms_13 (by decide) (fun c1 => ?_) (fun c1 => ?_)
  · have h := it_t c1 h
    refine s_mask [true, true, true, true, true, true, true, false, true, false, true, true] rfl ?_
    exact t_X6_inLeastTerms_b44 h
  · have h := it_f c1 h
    refine s_lload (pc := 16) d_X6_inLeastTerms_16 rfl ?_
    refine s_lconst (pc := 18) (v := 0) d_X6_inLeastTerms_18 (by decide) ?_
    refine s_lcmp (pc := 19) d_X6_inLeastTerms_19 ?_
    refine s_if_eq (pc := 20) (tgt := 44) d_X6_inLeastTerms_20 (by decide) (fun c2 => ?_) (fun c2 => ?_)
    · have h := it_t c2 h
      refine s_mask [true, true, true, true, true, true, true, false, true, false, true, true] rfl ?_
      exact t_X6_inLeastTerms_b44 h
    · have h := it_f c2 h
      refine s_lload (pc := 23) d_X6_inLeastTerms_23 rfl ?_
      refine s_lload (pc := 25) d_X6_inLeastTerms_25 rfl ?_
      obtain ⟨g3, h⟩ := gd_1 h
      refine s_lrem (pc := 27) d_X6_inLeastTerms_27 (nzJ_eq g3) ?_
      obtain ⟨w4, ew4, h⟩ := bd_1 h
      refine s_topJ ew4 ?_
      refine s_lstore (pc := 28) (lc' := [some (vl v0), none, some (vl v2), none, some (vi v4), some (vl v5), none, some (vl v7), none, some (vi v9), some (vl w4), none]) d_X6_inLeastTerms_28 (by decide) rfl ?_
      refine s_lload (pc := 30) d_X6_inLeastTerms_30 rfl ?_
      refine s_lstore (pc := 32) (lc' := [some (vl v0), none, some (vl v2), none, some (vi v4), some (vl v7), none, some (vl v7), none, some (vi v9), some (vl w4), none]) d_X6_inLeastTerms_32 (by decide) rfl ?_
      refine s_lload (pc := 34) d_X6_inLeastTerms_34 rfl ?_
      refine s_lstore (pc := 36) (lc' := [some (vl v0), none, some (vl v2), none, some (vi v4), some (vl v7), none, some (vl w4), none, some (vi v9), some (vl w4), none]) d_X6_inLeastTerms_36 (by decide) rfl ?_
      obtain ⟨w5, ew5, h⟩ := bd_1 h
      refine s_iinc (pc := 38) (v := w5) (lc' := [some (vl v0), none, some (vl v2), none, some (vi v4), some (vl v7), none, some (vl w4), none, some (vi w5), some (vl w4), none]) d_X6_inLeastTerms_38 rfl (by rw [ew5]; rfl) (by decide) rfl ?_
      refine s_goto (pc := 41) (tgt := 9) d_X6_inLeastTerms_41 (by decide) ?_
      refine s_mask [true, true, true, true, true, true, true, true, true, true, false, true] rfl ?_
      exact hk9 _ _ _ _ h
set_option maxHeartbeats 4000000 in
set_option maxRecDepth 20000 in
theorem t_X6_inLeastTerms_h9 {l : Launch} {G : Gl} {n : Nat} {sh : Sh} {x : Int64 × Mu} {v0 : Int64} {v2 : Int64} {v4 : Int32} : ∀ (f : Nat) (v5 : Int64) (v7 : Int64) (v9 : Int32) (μ : Mu), m_X6_inLeastTerms_h9 sh v0 v2 v4 f v5 v7 v9 μ = some x → Sj l G (QJ G n sh x) c_X6_inLeastTerms n sh 0 0 μ 9 [some (vl v0), none, some (vl v2), none, some (vi v4), some (vl v5), none, some (vl v7), none, some (vi v9), none, none] [] := by
  intro f
  induction f with
  | zero =>
    intro v5 v7 v9 μ h
    cases h
  | succ f ih =>
    intro v5 v7 v9 μ h
    exact t_X6_inLeastTerms_b9 ih h
set_option maxHeartbeats 4000000 in
set_option maxRecDepth 20000 in
theorem t_X6_inLeastTerms {l : Launch} {G : Gl} {n : Nat} {sh : Sh} {x : Int64 × Mu} {v0 : Int64} {v2 : Int64} {v4 : Int32} {μ : Mu} (h : m_X6_inLeastTerms sh v0 v2 v4 μ = some x) : Ct l G ⟨"StripsOfFour", "inLeastTerms", "(JJZ)J"⟩ prog_1_method_42_code 12 (some .long) { frames := 0, cells := 0, slots := 0, locals := 0 } n sh μ [vl v0, vl v2, vi v4] (some (.long x.1)) n sh x.2 := by
  refine Ct.of (lc := [some (vl v0), none, some (vl v2), none, some (vi v4), none, none, none, none, none, none, none]) (by decide +kernel) (Nat.le_of_ble_eq_true rfl) rfl ?_
  show Sj l G (QJ G n sh x) c_X6_inLeastTerms n sh 0 0 μ 0 [some (vl v0), none, some (vl v2), none, some (vi v4), none, none, none, none, none, none, none] []
  unfold m_X6_inLeastTerms at h
  refine s_lload_n (pc := 0) d_X6_inLeastTerms_0 rfl rfl ?_
  refine s_lstore (pc := 1) (lc' := [some (vl v0), none, some (vl v2), none, some (vi v4), some (vl v0), none, none, none, none, none, none]) d_X6_inLeastTerms_1 (by decide) rfl ?_
  refine s_lload_n (pc := 3) d_X6_inLeastTerms_3 rfl rfl ?_
  refine s_lstore (pc := 4) (lc' := [some (vl v0), none, some (vl v2), none, some (vi v4), some (vl v0), none, some (vl v2), none, none, none, none]) d_X6_inLeastTerms_4 (by decide) rfl ?_
  refine s_iconst (pc := 6) (v := 0) d_X6_inLeastTerms_6 (by decide) ?_
  refine s_istore (pc := 7) (lc' := [some (vl v0), none, some (vl v2), none, some (vi v4), some (vl v0), none, some (vl v2), none, some (vi 0), none, none]) d_X6_inLeastTerms_7 (by decide) rfl ?_
  exact t_X6_inLeastTerms_h9 FU _ _ _ _ h
/-! StripsOfFour.open -/
abbrev c_X6_open : Cf := (prog_1_method_30_code, 12, "StripsOfFour", "open", (some .int), { frames := 3, cells := 0, slots := 0, locals := 67 })
theorem d_X6_open_0 : decode prog_1_method_30_code 0 = .ok (.aload_n 0, 1) := by decide +kernel
theorem d_X6_open_1 : decode prog_1_method_30_code 1 = .ok (.getfield 20, 3) := by decide +kernel
theorem d_X6_open_4 : decode prog_1_method_30_code 4 = .ok (.iload_n 1, 1) := by decide +kernel
theorem d_X6_open_5 : decode prog_1_method_30_code 5 = .ok (.invokevirtual 101, 3) := by decide +kernel
theorem d_X6_open_8 : decode prog_1_method_30_code 8 = .ok (.ifCond .ne 5, 3) := by decide +kernel
theorem d_X6_open_11 : decode prog_1_method_30_code 11 = .ok (.iconst (-1), 1) := by decide +kernel
theorem d_X6_open_12 : decode prog_1_method_30_code 12 = .ok (.ireturn, 1) := by decide +kernel
theorem d_X6_open_13 : decode prog_1_method_30_code 13 = .ok (.iload_n 2, 1) := by decide +kernel
theorem d_X6_open_14 : decode prog_1_method_30_code 14 = .ok (.ifCond .lt 8, 3) := by decide +kernel
theorem d_X6_open_17 : decode prog_1_method_30_code 17 = .ok (.iload_n 2, 1) := by decide +kernel
theorem d_X6_open_18 : decode prog_1_method_30_code 18 = .ok (.iconst 5, 1) := by decide +kernel
theorem d_X6_open_19 : decode prog_1_method_30_code 19 = .ok (.if_icmp .le 6, 3) := by decide +kernel
theorem d_X6_open_22 : decode prog_1_method_30_code 22 = .ok (.bipush (-2), 2) := by decide +kernel
theorem d_X6_open_24 : decode prog_1_method_30_code 24 = .ok (.ireturn, 1) := by decide +kernel
theorem d_X6_open_25 : decode prog_1_method_30_code 25 = .ok (.aload_n 0, 1) := by decide +kernel
theorem d_X6_open_26 : decode prog_1_method_30_code 26 = .ok (.getfield 30, 3) := by decide +kernel
theorem d_X6_open_29 : decode prog_1_method_30_code 29 = .ok (.iload_n 1, 1) := by decide +kernel
theorem d_X6_open_30 : decode prog_1_method_30_code 30 = .ok (.invokevirtual 112, 3) := by decide +kernel
theorem d_X6_open_33 : decode prog_1_method_30_code 33 = .ok (.istore 4, 2) := by decide +kernel
theorem d_X6_open_35 : decode prog_1_method_30_code 35 = .ok (.lconst 0, 1) := by decide +kernel
theorem d_X6_open_36 : decode prog_1_method_30_code 36 = .ok (.lstore 5, 2) := by decide +kernel
theorem d_X6_open_38 : decode prog_1_method_30_code 38 = .ok (.lconst 0, 1) := by decide +kernel
theorem d_X6_open_39 : decode prog_1_method_30_code 39 = .ok (.lstore 7, 2) := by decide +kernel
theorem d_X6_open_41 : decode prog_1_method_30_code 41 = .ok (.iconst 0, 1) := by decide +kernel
theorem d_X6_open_42 : decode prog_1_method_30_code 42 = .ok (.istore 9, 2) := by decide +kernel
theorem d_X6_open_44 : decode prog_1_method_30_code 44 = .ok (.iload 9, 2) := by decide +kernel
theorem d_X6_open_46 : decode prog_1_method_30_code 46 = .ok (.bipush 31, 2) := by decide +kernel
theorem d_X6_open_48 : decode prog_1_method_30_code 48 = .ok (.if_icmp .gt 59, 3) := by decide +kernel
theorem d_X6_open_51 : decode prog_1_method_30_code 51 = .ok (.iload 9, 2) := by decide +kernel
theorem d_X6_open_53 : decode prog_1_method_30_code 53 = .ok (.iload 4, 2) := by decide +kernel
theorem d_X6_open_55 : decode prog_1_method_30_code 55 = .ok (.iconst (-1), 1) := by decide +kernel
theorem d_X6_open_56 : decode prog_1_method_30_code 56 = .ok (.ixor, 1) := by decide +kernel
theorem d_X6_open_57 : decode prog_1_method_30_code 57 = .ok (.iand, 1) := by decide +kernel
theorem d_X6_open_58 : decode prog_1_method_30_code 58 = .ok (.ifCond .ne 43, 3) := by decide +kernel
theorem d_X6_open_61 : decode prog_1_method_30_code 61 = .ok (.aload_n 0, 1) := by decide +kernel
theorem d_X6_open_62 : decode prog_1_method_30_code 62 = .ok (.getfield 20, 3) := by decide +kernel
theorem d_X6_open_65 : decode prog_1_method_30_code 65 = .ok (.iload 4, 2) := by decide +kernel
theorem d_X6_open_67 : decode prog_1_method_30_code 67 = .ok (.iload 9, 2) := by decide +kernel
theorem d_X6_open_69 : decode prog_1_method_30_code 69 = .ok (.invokevirtual 269, 3) := by decide +kernel
theorem d_X6_open_72 : decode prog_1_method_30_code 72 = .ok (.lstore 10, 2) := by decide +kernel
theorem d_X6_open_74 : decode prog_1_method_30_code 74 = .ok (.lload 7, 2) := by decide +kernel
theorem d_X6_open_76 : decode prog_1_method_30_code 76 = .ok (.lload 10, 2) := by decide +kernel
theorem d_X6_open_78 : decode prog_1_method_30_code 78 = .ok (.ladd, 1) := by decide +kernel
theorem d_X6_open_79 : decode prog_1_method_30_code 79 = .ok (.lstore 7, 2) := by decide +kernel
theorem d_X6_open_81 : decode prog_1_method_30_code 81 = .ok (.lload 5, 2) := by decide +kernel
theorem d_X6_open_83 : decode prog_1_method_30_code 83 = .ok (.iload 9, 2) := by decide +kernel
theorem d_X6_open_85 : decode prog_1_method_30_code 85 = .ok (.invokestatic 169, 3) := by decide +kernel
theorem d_X6_open_88 : decode prog_1_method_30_code 88 = .ok (.iload_n 2, 1) := by decide +kernel
theorem d_X6_open_89 : decode prog_1_method_30_code 89 = .ok (.if_icmp .lt 8, 3) := by decide +kernel
theorem d_X6_open_92 : decode prog_1_method_30_code 92 = .ok (.lload 10, 2) := by decide +kernel
theorem d_X6_open_94 : decode prog_1_method_30_code 94 = .ok (.goto 4, 3) := by decide +kernel
theorem d_X6_open_97 : decode prog_1_method_30_code 97 = .ok (.lconst 0, 1) := by decide +kernel
theorem d_X6_open_98 : decode prog_1_method_30_code 98 = .ok (.ladd, 1) := by decide +kernel
theorem d_X6_open_99 : decode prog_1_method_30_code 99 = .ok (.lstore 5, 2) := by decide +kernel
theorem d_X6_open_101 : decode prog_1_method_30_code 101 = .ok (.iinc 9 1, 3) := by decide +kernel
theorem d_X6_open_104 : decode prog_1_method_30_code 104 = .ok (.goto (-60), 3) := by decide +kernel
theorem d_X6_open_107 : decode prog_1_method_30_code 107 = .ok (.lload 5, 2) := by decide +kernel
theorem d_X6_open_109 : decode prog_1_method_30_code 109 = .ok (.lload 7, 2) := by decide +kernel
theorem d_X6_open_111 : decode prog_1_method_30_code 111 = .ok (.iload_n 3, 1) := by decide +kernel
theorem d_X6_open_112 : decode prog_1_method_30_code 112 = .ok (.invokestatic 265, 3) := by decide +kernel
theorem d_X6_open_115 : decode prog_1_method_30_code 115 = .ok (.l2i, 1) := by decide +kernel
theorem d_X6_open_116 : decode prog_1_method_30_code 116 = .ok (.ireturn, 1) := by decide +kernel
def m_X6_open_b101 (sh : Sh) (k44 : Int64 → Int64 → Int32 → Mu → Option (Int32 × Mu)) (v0 : Nat) (v2 : Int32) (v3 : Int32) (v4 : Int32) (v5 : Int64) (v7 : Int64) (v9 : Int32) (μ : Mu) : Option (Int32 × Mu) :=
  bd (v9 + 1) fun w26 =>
  k44 v5 v7 w26 μ
def m_X6_open_b98 (sh : Sh) (k44 : Int64 → Int64 → Int32 → Mu → Option (Int32 × Mu)) (v0 : Nat) (v2 : Int32) (v3 : Int32) (v4 : Int32) (v7 : Int64) (v9 : Int32) (s0 : Int64) (s1 : Int64) (μ : Mu) : Option (Int32 × Mu) :=
  bd (s1 + s0) fun w27 =>
  m_X6_open_b101 sh k44 v0 v2 v3 v4 w27 v7 v9 μ
def m_X6_open_b107 (sh : Sh) (v3 : Int32) (v5 : Int64) (v7 : Int64) (μ : Mu) : Option (Int32 × Mu) :=
  ca2 (m_X6_inLeastTerms sh v5 v7 v3 μ) fun r24 μ25 =>
  some (r24.toInt32, μ25)
def m_X6_open_b44 (sh : Sh) (k44 : Int64 → Int64 → Int32 → Mu → Option (Int32 × Mu)) (v0 : Nat) (v2 : Int32) (v3 : Int32) (v4 : Int32) (v5 : Int64) (v7 : Int64) (v9 : Int32) (μ : Mu) : Option (Int32 × Mu) :=
  if 31 < v9 then
    m_X6_open_b107 sh v3 v5 v7 μ
  else
    if (v9 &&& (v4 ^^^ (-1))) = 0 then
      gd (iz sh 6 v0) <|
      bd (gR μ v0 2) fun a16 =>
      gd (iz sh 2 a16) <|
      ca2 (m_X2_openWeight sh a16 v4 v9 μ) fun r18 μ19 =>
      bd (v7 + r18) fun w20 =>
      ca2 (m_J6_bitCount_0f7a4 sh v9 μ19) fun r21 μ22 =>
      if r21 < v2 then
        m_X6_open_b98 sh k44 v0 v2 v3 v4 w20 v9 0 v5 μ22
      else
        m_X6_open_b98 sh k44 v0 v2 v3 v4 w20 v9 r18 v5 μ22
    else
      m_X6_open_b101 sh k44 v0 v2 v3 v4 v5 v7 v9 μ
def m_X6_open_h44 (sh : Sh) (v0 : Nat) (v2 : Int32) (v3 : Int32) (v4 : Int32) : Nat → Int64 → Int64 → Int32 → Mu → Option (Int32 × Mu)
  | 0 => fun _ _ _ _ => none
  | f + 1 => fun v5 v7 v9 μ => m_X6_open_b44 sh (m_X6_open_h44 sh v0 v2 v3 v4 f) v0 v2 v3 v4 v5 v7 v9 μ
def m_X6_open (sh : Sh) (v0 : Nat) (v1 : Int32) (v2 : Int32) (v3 : Int32) (μ : Mu) : Option (Int32 × Mu) :=
  gd (iz sh 6 v0) <|
  bd (gR μ v0 2) fun a2 =>
  gd (iz sh 2 a2) <|
  ca2 (m_X2_hasBooth sh a2 v1 μ) fun r4 μ5 =>
  if r4 = 0 then
    some ((-1), μ5)
  else
    if v2 < 0 then
      some ((-2), μ5)
    else
      if v2 ≤ 5 then
        bd (gR μ5 v0 4) fun a9 =>
        gd (iz sh 4 a9) <|
        ca2 (m_X4_whoIsIn sh a9 v1 μ5) fun r11 μ12 =>
        m_X6_open_h44 sh v0 v2 v3 r11 FU 0 0 0 μ12
      else
        some ((-2), μ5)
set_option maxHeartbeats 4000000 in
set_option maxRecDepth 20000 in
theorem t_X6_open_b101 {l : Launch} {G : Gl} {n : Nat} {sh : Sh} {x : Int32 × Mu} {k44 : Int64 → Int64 → Int32 → Mu → Option (Int32 × Mu)} {v0 : Nat} {v2 : Int32} {v3 : Int32} {v4 : Int32} {v5 : Int64} {v7 : Int64} {v9 : Int32} {μ : Mu} (hk44 : ∀ (v5 : Int64) (v7 : Int64) (v9 : Int32) (μ : Mu), k44 v5 v7 v9 μ = some x → Sj l G (QI G n sh x) c_X6_open n sh 0 0 μ 44 [some (vr v0), none, some (vi v2), some (vi v3), some (vi v4), some (vl v5), none, some (vl v7), none, some (vi v9), none, none] []) (h : m_X6_open_b101 sh k44 v0 v2 v3 v4 v5 v7 v9 μ = some x) : Sj l G (QI G n sh x) c_X6_open n sh 0 0 μ 101 [some (vr v0), none, some (vi v2), some (vi v3), some (vi v4), some (vl v5), none, some (vl v7), none, some (vi v9), none, none] [] := by
  unfold m_X6_open_b101 at h
  obtain ⟨w26, ew26, h⟩ := bd_1 h
  refine s_iinc (pc := 101) (v := w26) (lc' := [some (vr v0), none, some (vi v2), some (vi v3), some (vi v4), some (vl v5), none, some (vl v7), none, some (vi w26), none, none]) d_X6_open_101 rfl (by rw [ew26]; rfl) (by decide) rfl ?_
  refine s_goto (pc := 104) (tgt := 44) d_X6_open_104 (by decide) ?_
  exact hk44 _ _ _ _ h
set_option maxHeartbeats 4000000 in
set_option maxRecDepth 20000 in
theorem t_X6_open_b98 {l : Launch} {G : Gl} {n : Nat} {sh : Sh} {x : Int32 × Mu} {k44 : Int64 → Int64 → Int32 → Mu → Option (Int32 × Mu)} {v0 : Nat} {v2 : Int32} {v3 : Int32} {v4 : Int32} {v7 : Int64} {v9 : Int32} {s0 : Int64} {s1 : Int64} {μ : Mu} (hk44 : ∀ (v5 : Int64) (v7 : Int64) (v9 : Int32) (μ : Mu), k44 v5 v7 v9 μ = some x → Sj l G (QI G n sh x) c_X6_open n sh 0 0 μ 44 [some (vr v0), none, some (vi v2), some (vi v3), some (vi v4), some (vl v5), none, some (vl v7), none, some (vi v9), none, none] []) (h : m_X6_open_b98 sh k44 v0 v2 v3 v4 v7 v9 s0 s1 μ = some x) : Sj l G (QI G n sh x) c_X6_open n sh 0 0 μ 98 [some (vr v0), none, some (vi v2), some (vi v3), some (vi v4), none, none, some (vl v7), none, some (vi v9), none, none] [vl s0, vl s1] := by
  unfold m_X6_open_b98 at h
  refine s_ladd (pc := 98) d_X6_open_98 ?_
  obtain ⟨w27, ew27, h⟩ := bd_1 h
  refine s_topJ ew27 ?_
  refine s_lstore (pc := 99) (lc' := [some (vr v0), none, some (vi v2), some (vi v3), some (vi v4), some (vl w27), none, some (vl v7), none, some (vi v9), none, none]) d_X6_open_99 (by decide) rfl ?_
  exact t_X6_open_b101 hk44 h
set_option maxHeartbeats 4000000 in
set_option maxRecDepth 20000 in
theorem t_X6_open_b107 {l : Launch} {G : Gl} {n : Nat} {sh : Sh} {x : Int32 × Mu} {v3 : Int32} {v5 : Int64} {v7 : Int64} {μ : Mu} (h : m_X6_open_b107 sh v3 v5 v7 μ = some x) : Sj l G (QI G n sh x) c_X6_open n sh 0 0 μ 107 [none, none, none, some (vi v3), none, some (vl v5), none, some (vl v7), none, none, none, none] [] := by
  unfold m_X6_open_b107 at h
  refine s_lload (pc := 107) d_X6_open_107 rfl ?_
  refine s_lload (pc := 109) d_X6_open_109 rfl ?_
  refine s_iload_n (pc := 111) d_X6_open_111 rfl rfl ?_
  obtain ⟨r24, μ25, er24, h⟩ := ca2_1 h
  refine s_callS (pc := 112) (as := [vl v5, vl v7, vi v3]) (st := []) (vo := [vl r24]) (t_X6_inLeastTerms er24) d_X6_open_112 y_X6_inLeastTerms w_629 w_630 ⟨by decide, by decide⟩ ⟨Nat.le_of_ble_eq_true rfl, Nat.le_of_ble_eq_true rfl⟩ (Nat.le_of_ble_eq_true rfl) rfl rfl rfl ?_
  refine s_as (kc' := 0) (js' := 0) (pc' := 115) (st' := [vl r24]) ⟨rfl, rfl, rfl, rfl⟩ ?_
  refine s_l2i (pc := 115) d_X6_open_115 ?_
  obtain rfl := Option.some.inj h
  exact s_iret (pc := 116) d_X6_open_116 rfl
set_option maxHeartbeats 4000000 in
set_option maxRecDepth 20000 in
theorem t_X6_open_b44 {l : Launch} {G : Gl} {n : Nat} {sh : Sh} {x : Int32 × Mu} {k44 : Int64 → Int64 → Int32 → Mu → Option (Int32 × Mu)} {v0 : Nat} {v2 : Int32} {v3 : Int32} {v4 : Int32} {v5 : Int64} {v7 : Int64} {v9 : Int32} {μ : Mu} (hk44 : ∀ (v5 : Int64) (v7 : Int64) (v9 : Int32) (μ : Mu), k44 v5 v7 v9 μ = some x → Sj l G (QI G n sh x) c_X6_open n sh 0 0 μ 44 [some (vr v0), none, some (vi v2), some (vi v3), some (vi v4), some (vl v5), none, some (vl v7), none, some (vi v9), none, none] []) (h : m_X6_open_b44 sh k44 v0 v2 v3 v4 v5 v7 v9 μ = some x) : Sj l G (QI G n sh x) c_X6_open n sh 0 0 μ 44 [some (vr v0), none, some (vi v2), some (vi v3), some (vi v4), some (vl v5), none, some (vl v7), none, some (vi v9), none, none] [] := by
  unfold m_X6_open_b44 at h
  refine s_iload (pc := 44) d_X6_open_44 rfl ?_
  refine s_bipush (pc := 46) (v := 31) d_X6_open_46 (by decide) ?_
  refine s_icmp_gt (pc := 48) (tgt := 107) d_X6_open_48 (by decide) (fun c13 => ?_) (fun c13 => ?_)
  · have h := it_t c13 h
    refine s_mask [false, true, false, true, false, true, true, true, true, false, true, true] rfl ?_
    exact t_X6_open_b107 h
  · have h := it_f c13 h
    refine s_iload (pc := 51) d_X6_open_51 rfl ?_
    refine s_iload (pc := 53) d_X6_open_53 rfl ?_
    refine s_iconst (pc := 55) (v := (-1)) d_X6_open_55 (by decide) ?_
    refine s_ixor (pc := 56) d_X6_open_56 ?_
    refine s_iand (pc := 57) d_X6_open_57 ?_
    refine s_if_ne (pc := 58) (tgt := 101) d_X6_open_58 (by decide) (fun c14 => ?_) (fun c14 => ?_)
    · have h := it_f c14 h
      exact t_X6_open_b101 hk44 h
    · have h := it_t c14 h
      refine s_aload_n (pc := 61) d_X6_open_61 rfl rfl ?_
      obtain ⟨g15, h⟩ := gd_1 h
      refine s_getR (pc := 62) (k := 2) cl_6 d_X6_open_62 g15 (by decide) w_198 (rt_obj _) ?_
      obtain ⟨a16, ea16, h⟩ := bd_1 h
      refine s_topR ea16 ?_
      refine s_iload (pc := 65) d_X6_open_65 rfl ?_
      refine s_iload (pc := 67) d_X6_open_67 rfl ?_
      obtain ⟨g17, h⟩ := gd_1 h
      obtain ⟨r18, μ19, er18, h⟩ := ca2_1 h
      refine s_callV (pc := 69) (as := [vi v4, vi v9]) (st := []) (vo := [vl r18]) (t_X2_openWeight er18) cl_2 g17 d_X6_open_69 y_X2_openWeight w_636 w_637 w_638 ⟨by decide, by decide⟩ ⟨Nat.le_of_ble_eq_true rfl, Nat.le_of_ble_eq_true rfl⟩ (Nat.le_of_ble_eq_true rfl) rfl rfl rfl ?_
      refine s_as (kc' := 0) (js' := 0) (pc' := 72) (st' := [vl r18]) ⟨rfl, rfl, rfl, rfl⟩ ?_
      refine s_lstore (pc := 72) (lc' := [some (vr v0), none, some (vi v2), some (vi v3), some (vi v4), some (vl v5), none, some (vl v7), none, some (vi v9), some (vl r18), none]) d_X6_open_72 (by decide) rfl ?_
      refine s_lload (pc := 74) d_X6_open_74 rfl ?_
      refine s_lload (pc := 76) d_X6_open_76 rfl ?_
      refine s_ladd (pc := 78) d_X6_open_78 ?_
      obtain ⟨w20, ew20, h⟩ := bd_1 h
      refine s_topJ ew20 ?_
      refine s_lstore (pc := 79) (lc' := [some (vr v0), none, some (vi v2), some (vi v3), some (vi v4), some (vl v5), none, some (vl w20), none, some (vi v9), some (vl r18), none]) d_X6_open_79 (by decide) rfl ?_
      refine s_lload (pc := 81) d_X6_open_81 rfl ?_
      refine s_iload (pc := 83) d_X6_open_83 rfl ?_
      obtain ⟨r21, μ22, er21, h⟩ := ca2_1 h
      refine s_callS (pc := 85) (as := [vi v9]) (st := [vl v5]) (vo := [vi r21]) (t_J6_bitCount_0f7a4 er21) d_X6_open_85 y_J6_bitCount_0f7a4 w_372 w_373 ⟨by decide, by decide⟩ ⟨Nat.le_of_ble_eq_true rfl, Nat.le_of_ble_eq_true rfl⟩ (Nat.le_of_ble_eq_true rfl) rfl rfl rfl ?_
      refine s_as (kc' := 0) (js' := 0) (pc' := 88) (st' := [vi r21, vl v5]) ⟨rfl, rfl, rfl, rfl⟩ ?_
      refine s_iload_n (pc := 88) d_X6_open_88 rfl rfl ?_
      refine s_icmp_lt (pc := 89) (tgt := 97) d_X6_open_89 (by decide) (fun c23 => ?_) (fun c23 => ?_)
      · have h := it_t c23 h
        refine s_lconst (pc := 97) (v := 0) d_X6_open_97 (by decide) ?_
        refine s_mask [true, true, true, true, true, false, true, true, true, true, false, true] rfl ?_
        exact t_X6_open_b98 hk44 h
      · have h := it_f c23 h
        refine s_lload (pc := 92) d_X6_open_92 rfl ?_
        refine s_goto (pc := 94) (tgt := 98) d_X6_open_94 (by decide) ?_
        refine s_mask [true, true, true, true, true, false, true, true, true, true, false, true] rfl ?_
        exact t_X6_open_b98 hk44 h
set_option maxHeartbeats 4000000 in
set_option maxRecDepth 20000 in
theorem t_X6_open_h44 {l : Launch} {G : Gl} {n : Nat} {sh : Sh} {x : Int32 × Mu} {v0 : Nat} {v2 : Int32} {v3 : Int32} {v4 : Int32} : ∀ (f : Nat) (v5 : Int64) (v7 : Int64) (v9 : Int32) (μ : Mu), m_X6_open_h44 sh v0 v2 v3 v4 f v5 v7 v9 μ = some x → Sj l G (QI G n sh x) c_X6_open n sh 0 0 μ 44 [some (vr v0), none, some (vi v2), some (vi v3), some (vi v4), some (vl v5), none, some (vl v7), none, some (vi v9), none, none] [] := by
  intro f
  induction f with
  | zero =>
    intro v5 v7 v9 μ h
    cases h
  | succ f ih =>
    intro v5 v7 v9 μ h
    exact t_X6_open_b44 ih h
set_option maxHeartbeats 4000000 in
set_option maxRecDepth 20000 in
theorem t_X6_open {l : Launch} {G : Gl} {n : Nat} {sh : Sh} {x : Int32 × Mu} {v0 : Nat} {v1 : Int32} {v2 : Int32} {v3 : Int32} {μ : Mu} (h : m_X6_open sh v0 v1 v2 v3 μ = some x) : Ct l G ⟨"StripsOfFour", "open", "(IIZ)I"⟩ prog_1_method_30_code 12 (some .int) { frames := 3, cells := 0, slots := 0, locals := 67 } n sh μ [vr v0, vi v1, vi v2, vi v3] (some (.int x.1)) n sh x.2 := by
  refine Ct.of (lc := [some (vr v0), some (vi v1), some (vi v2), some (vi v3), none, none, none, none, none, none, none, none]) (by decide +kernel) (Nat.le_of_ble_eq_true rfl) rfl ?_
  show Sj l G (QI G n sh x) c_X6_open n sh 0 0 μ 0 [some (vr v0), some (vi v1), some (vi v2), some (vi v3), none, none, none, none, none, none, none, none] []
  unfold m_X6_open at h
  refine s_aload_n (pc := 0) d_X6_open_0 rfl rfl ?_
  obtain ⟨g1, h⟩ := gd_1 h
  refine s_getR (pc := 1) (k := 2) cl_6 d_X6_open_1 g1 (by decide) w_198 (rt_obj _) ?_
  obtain ⟨a2, ea2, h⟩ := bd_1 h
  refine s_topR ea2 ?_
  refine s_iload_n (pc := 4) d_X6_open_4 rfl rfl ?_
  obtain ⟨g3, h⟩ := gd_1 h
  obtain ⟨r4, μ5, er4, h⟩ := ca2_1 h
  refine s_callV (pc := 5) (as := [vi v1]) (st := []) (vo := [vi r4]) (t_X2_hasBooth er4) cl_2 g3 d_X6_open_5 y_X2_hasBooth w_284 w_256 w_257 ⟨by decide, by decide⟩ ⟨Nat.le_of_ble_eq_true rfl, Nat.le_of_ble_eq_true rfl⟩ (Nat.le_of_ble_eq_true rfl) rfl rfl rfl ?_
  refine s_as (kc' := 0) (js' := 0) (pc' := 8) (st' := [vi r4]) ⟨rfl, rfl, rfl, rfl⟩ ?_
  refine s_if_ne (pc := 8) (tgt := 13) d_X6_open_8 (by decide) (fun c6 => ?_) (fun c6 => ?_)
  · have h := it_f c6 h
    refine s_iload_n (pc := 13) d_X6_open_13 rfl rfl ?_
    refine s_if_lt (pc := 14) (tgt := 22) d_X6_open_14 (by decide) (fun c7 => ?_) (fun c7 => ?_)
    · have h := it_t c7 h
      refine s_bipush (pc := 22) (v := (-2)) d_X6_open_22 (by decide) ?_
      obtain rfl := Option.some.inj h
      exact s_iret (pc := 24) d_X6_open_24 rfl
    · have h := it_f c7 h
      refine s_iload_n (pc := 17) d_X6_open_17 rfl rfl ?_
      refine s_iconst (pc := 18) (v := 5) d_X6_open_18 (by decide) ?_
      refine s_icmp_le (pc := 19) (tgt := 25) d_X6_open_19 (by decide) (fun c8 => ?_) (fun c8 => ?_)
      · have h := it_t c8 h
        refine s_aload_n (pc := 25) d_X6_open_25 rfl rfl ?_
        refine s_getR (pc := 26) (k := 4) cl_6 d_X6_open_26 g1 (by decide) w_200 (rt_obj _) ?_
        obtain ⟨a9, ea9, h⟩ := bd_1 h
        refine s_topR ea9 ?_
        refine s_iload_n (pc := 29) d_X6_open_29 rfl rfl ?_
        obtain ⟨g10, h⟩ := gd_1 h
        obtain ⟨r11, μ12, er11, h⟩ := ca2_1 h
        refine s_callV (pc := 30) (as := [vi v1]) (st := []) (vo := [vi r11]) (t_X4_whoIsIn er11) cl_4 g10 d_X6_open_30 y_X4_whoIsIn w_296 w_297 w_298 ⟨by decide, by decide⟩ ⟨Nat.le_of_ble_eq_true rfl, Nat.le_of_ble_eq_true rfl⟩ (Nat.le_of_ble_eq_true rfl) rfl rfl rfl ?_
        refine s_as (kc' := 0) (js' := 0) (pc' := 33) (st' := [vi r11]) ⟨rfl, rfl, rfl, rfl⟩ ?_
        refine s_istore (pc := 33) (lc' := [some (vr v0), some (vi v1), some (vi v2), some (vi v3), some (vi r11), none, none, none, none, none, none, none]) d_X6_open_33 (by decide) rfl ?_
        refine s_lconst (pc := 35) (v := 0) d_X6_open_35 (by decide) ?_
        refine s_lstore (pc := 36) (lc' := [some (vr v0), some (vi v1), some (vi v2), some (vi v3), some (vi r11), some (vl 0), none, none, none, none, none, none]) d_X6_open_36 (by decide) rfl ?_
        refine s_lconst (pc := 38) (v := 0) d_X6_open_38 (by decide) ?_
        refine s_lstore (pc := 39) (lc' := [some (vr v0), some (vi v1), some (vi v2), some (vi v3), some (vi r11), some (vl 0), none, some (vl 0), none, none, none, none]) d_X6_open_39 (by decide) rfl ?_
        refine s_iconst (pc := 41) (v := 0) d_X6_open_41 (by decide) ?_
        refine s_istore (pc := 42) (lc' := [some (vr v0), some (vi v1), some (vi v2), some (vi v3), some (vi r11), some (vl 0), none, some (vl 0), none, some (vi 0), none, none]) d_X6_open_42 (by decide) rfl ?_
        refine s_mask [true, false, true, true, true, true, true, true, true, true, true, true] rfl ?_
        exact t_X6_open_h44 FU _ _ _ _ h
      · have h := it_f c8 h
        refine s_bipush (pc := 22) (v := (-2)) d_X6_open_22 (by decide) ?_
        obtain rfl := Option.some.inj h
        exact s_iret (pc := 24) d_X6_open_24 rfl
  · have h := it_t c6 h
    refine s_iconst (pc := 11) (v := (-1)) d_X6_open_11 (by decide) ?_
    obtain rfl := Option.some.inj h
    exact s_iret (pc := 12) d_X6_open_12 rfl
/-! StripsOfFour.orderAt -/
abbrev c_X6_orderAt : Cf := (prog_1_method_23_code, 2, "StripsOfFour", "orderAt", (some .int), { frames := 3, cells := 0, slots := 0, locals := 75 })
theorem d_X6_orderAt_0 : decode prog_1_method_23_code 0 = .ok (.aload_n 0, 1) := by decide +kernel
theorem d_X6_orderAt_1 : decode prog_1_method_23_code 1 = .ok (.getfield 30, 3) := by decide +kernel
theorem d_X6_orderAt_4 : decode prog_1_method_23_code 4 = .ok (.iload_n 1, 1) := by decide +kernel
theorem d_X6_orderAt_5 : decode prog_1_method_23_code 5 = .ok (.invokevirtual 137, 3) := by decide +kernel
theorem d_X6_orderAt_8 : decode prog_1_method_23_code 8 = .ok (.ifCond .ne 5, 3) := by decide +kernel
theorem d_X6_orderAt_11 : decode prog_1_method_23_code 11 = .ok (.iconst (-1), 1) := by decide +kernel
theorem d_X6_orderAt_12 : decode prog_1_method_23_code 12 = .ok (.ireturn, 1) := by decide +kernel
theorem d_X6_orderAt_13 : decode prog_1_method_23_code 13 = .ok (.aload_n 0, 1) := by decide +kernel
theorem d_X6_orderAt_14 : decode prog_1_method_23_code 14 = .ok (.getfield 30, 3) := by decide +kernel
theorem d_X6_orderAt_17 : decode prog_1_method_23_code 17 = .ok (.getfield 88, 3) := by decide +kernel
theorem d_X6_orderAt_20 : decode prog_1_method_23_code 20 = .ok (.bipush 6, 2) := by decide +kernel
theorem d_X6_orderAt_22 : decode prog_1_method_23_code 22 = .ok (.if_icmp .le 6, 3) := by decide +kernel
theorem d_X6_orderAt_25 : decode prog_1_method_23_code 25 = .ok (.bipush (-3), 2) := by decide +kernel
theorem d_X6_orderAt_27 : decode prog_1_method_23_code 27 = .ok (.ireturn, 1) := by decide +kernel
theorem d_X6_orderAt_28 : decode prog_1_method_23_code 28 = .ok (.aload_n 0, 1) := by decide +kernel
theorem d_X6_orderAt_29 : decode prog_1_method_23_code 29 = .ok (.getfield 59, 3) := by decide +kernel
theorem d_X6_orderAt_32 : decode prog_1_method_23_code 32 = .ok (.aload_n 0, 1) := by decide +kernel
theorem d_X6_orderAt_33 : decode prog_1_method_23_code 33 = .ok (.getfield 30, 3) := by decide +kernel
theorem d_X6_orderAt_36 : decode prog_1_method_23_code 36 = .ok (.invokevirtual 220, 3) := by decide +kernel
theorem d_X6_orderAt_39 : decode prog_1_method_23_code 39 = .ok (.aload_n 0, 1) := by decide +kernel
theorem d_X6_orderAt_40 : decode prog_1_method_23_code 40 = .ok (.getfield 59, 3) := by decide +kernel
theorem d_X6_orderAt_43 : decode prog_1_method_23_code 43 = .ok (.iload_n 1, 1) := by decide +kernel
theorem d_X6_orderAt_44 : decode prog_1_method_23_code 44 = .ok (.invokevirtual 224, 3) := by decide +kernel
theorem d_X6_orderAt_47 : decode prog_1_method_23_code 47 = .ok (.ireturn, 1) := by decide +kernel
def m_X6_orderAt (sh : Sh) (v0 : Nat) (v1 : Int32) (μ : Mu) : Option (Int32 × Mu) :=
  gd (iz sh 6 v0) <|
  bd (gR μ v0 4) fun a2 =>
  gd (iz sh 4 a2) <|
  ca2 (m_X4_hasStrip sh a2 v1 μ) fun r4 μ5 =>
  if r4 = 0 then
    some ((-1), μ5)
  else
    bd (gR μ5 v0 4) fun a7 =>
    gd (iz sh 4 a7) <|
    if (gI μ5 a7 4) ≤ 6 then
      bd (gR μ5 v0 9) fun a10 =>
      bd (gR μ5 v0 4) fun a11 =>
      gd (iz sh 3 a10) <|
      ca (m_X3_gather sh a10 a11 μ5) fun μ13 =>
      bd (gR μ13 v0 9) fun a14 =>
      gd (iz sh 3 a14) <|
      ca2 (m_X3_placesOf sh a14 v1 μ13) fun r16 μ17 =>
      some (r16, μ17)
    else
      some ((-3), μ5)
set_option maxHeartbeats 4000000 in
set_option maxRecDepth 20000 in
theorem t_X6_orderAt {l : Launch} {G : Gl} {n : Nat} {sh : Sh} {x : Int32 × Mu} {v0 : Nat} {v1 : Int32} {μ : Mu} (h : m_X6_orderAt sh v0 v1 μ = some x) : Ct l G ⟨"StripsOfFour", "orderAt", "(I)I"⟩ prog_1_method_23_code 2 (some .int) { frames := 3, cells := 0, slots := 0, locals := 75 } n sh μ [vr v0, vi v1] (some (.int x.1)) n sh x.2 := by
  refine Ct.of (lc := [some (vr v0), some (vi v1)]) (by decide +kernel) (Nat.le_of_ble_eq_true rfl) rfl ?_
  show Sj l G (QI G n sh x) c_X6_orderAt n sh 0 0 μ 0 [some (vr v0), some (vi v1)] []
  unfold m_X6_orderAt at h
  refine s_aload_n (pc := 0) d_X6_orderAt_0 rfl rfl ?_
  obtain ⟨g1, h⟩ := gd_1 h
  refine s_getR (pc := 1) (k := 4) cl_6 d_X6_orderAt_1 g1 (by decide) w_200 (rt_obj _) ?_
  obtain ⟨a2, ea2, h⟩ := bd_1 h
  refine s_topR ea2 ?_
  refine s_iload_n (pc := 4) d_X6_orderAt_4 rfl rfl ?_
  obtain ⟨g3, h⟩ := gd_1 h
  obtain ⟨r4, μ5, er4, h⟩ := ca2_1 h
  refine s_callV (pc := 5) (as := [vi v1]) (st := []) (vo := [vi r4]) (t_X4_hasStrip er4) cl_4 g3 d_X6_orderAt_5 y_X4_hasStrip w_341 w_342 w_343 ⟨by decide, by decide⟩ ⟨Nat.le_of_ble_eq_true rfl, Nat.le_of_ble_eq_true rfl⟩ (Nat.le_of_ble_eq_true rfl) rfl rfl rfl ?_
  refine s_as (kc' := 0) (js' := 0) (pc' := 8) (st' := [vi r4]) ⟨rfl, rfl, rfl, rfl⟩ ?_
  refine s_if_ne (pc := 8) (tgt := 13) d_X6_orderAt_8 (by decide) (fun c6 => ?_) (fun c6 => ?_)
  · have h := it_f c6 h
    refine s_aload_n (pc := 13) d_X6_orderAt_13 rfl rfl ?_
    refine s_getR (pc := 14) (k := 4) cl_6 d_X6_orderAt_14 g1 (by decide) w_200 (rt_obj _) ?_
    obtain ⟨a7, ea7, h⟩ := bd_1 h
    refine s_topR ea7 ?_
    obtain ⟨g8, h⟩ := gd_1 h
    refine s_getI (pc := 17) (k := 4) cl_4 d_X6_orderAt_17 g8 (by decide) w_104 rfl ?_
    refine s_bipush (pc := 20) (v := 6) d_X6_orderAt_20 (by decide) ?_
    refine s_icmp_le (pc := 22) (tgt := 28) d_X6_orderAt_22 (by decide) (fun c9 => ?_) (fun c9 => ?_)
    · have h := it_t c9 h
      refine s_aload_n (pc := 28) d_X6_orderAt_28 rfl rfl ?_
      refine s_getR (pc := 29) (k := 9) cl_6 d_X6_orderAt_29 g1 (by decide) w_205 (rt_obj _) ?_
      obtain ⟨a10, ea10, h⟩ := bd_1 h
      refine s_topR ea10 ?_
      refine s_aload_n (pc := 32) d_X6_orderAt_32 rfl rfl ?_
      refine s_getR (pc := 33) (k := 4) cl_6 d_X6_orderAt_33 g1 (by decide) w_200 (rt_obj _) ?_
      obtain ⟨a11, ea11, h⟩ := bd_1 h
      refine s_topR ea11 ?_
      obtain ⟨g12, h⟩ := gd_1 h
      obtain ⟨μ13, eμ13, h⟩ := ca_1 h
      refine s_callV (pc := 36) (as := [vr a11]) (st := []) (vo := []) (t_X3_gather eμ13) cl_3 g12 d_X6_orderAt_36 y_X3_gather w_528 w_529 w_530 ⟨by decide, by decide⟩ ⟨Nat.le_of_ble_eq_true rfl, Nat.le_of_ble_eq_true rfl⟩ (Nat.le_of_ble_eq_true rfl) rfl rfl rfl ?_
      refine s_as (kc' := 0) (js' := 0) (pc' := 39) (st' := []) ⟨rfl, rfl, rfl, rfl⟩ ?_
      refine s_aload_n (pc := 39) d_X6_orderAt_39 rfl rfl ?_
      refine s_getR (pc := 40) (k := 9) cl_6 d_X6_orderAt_40 g1 (by decide) w_205 (rt_obj _) ?_
      obtain ⟨a14, ea14, h⟩ := bd_1 h
      refine s_topR ea14 ?_
      refine s_iload_n (pc := 43) d_X6_orderAt_43 rfl rfl ?_
      obtain ⟨g15, h⟩ := gd_1 h
      obtain ⟨r16, μ17, er16, h⟩ := ca2_1 h
      refine s_callV (pc := 44) (as := [vi v1]) (st := []) (vo := [vi r16]) (t_X3_placesOf er16) cl_3 g15 d_X6_orderAt_44 y_X3_placesOf w_554 w_555 w_556 ⟨by decide, by decide⟩ ⟨Nat.le_of_ble_eq_true rfl, Nat.le_of_ble_eq_true rfl⟩ (Nat.le_of_ble_eq_true rfl) rfl rfl rfl ?_
      refine s_as (kc' := 0) (js' := 0) (pc' := 47) (st' := [vi r16]) ⟨rfl, rfl, rfl, rfl⟩ ?_
      obtain rfl := Option.some.inj h
      exact s_iret (pc := 47) d_X6_orderAt_47 rfl
    · have h := it_f c9 h
      refine s_bipush (pc := 25) (v := (-3)) d_X6_orderAt_25 (by decide) ?_
      obtain rfl := Option.some.inj h
      exact s_iret (pc := 27) d_X6_orderAt_27 rfl
  · have h := it_t c6 h
    refine s_iconst (pc := 11) (v := (-1)) d_X6_orderAt_11 (by decide) ?_
    obtain rfl := Option.some.inj h
    exact s_iret (pc := 12) d_X6_orderAt_12 rfl
/-! StripsOfFour.orders -/
abbrev c_X6_orders : Cf := (prog_1_method_22_code, 1, "StripsOfFour", "orders", (some .int), { frames := 3, cells := 0, slots := 0, locals := 75 })
theorem d_X6_orders_0 : decode prog_1_method_22_code 0 = .ok (.aload_n 0, 1) := by decide +kernel
theorem d_X6_orders_1 : decode prog_1_method_22_code 1 = .ok (.getfield 30, 3) := by decide +kernel
theorem d_X6_orders_4 : decode prog_1_method_22_code 4 = .ok (.getfield 88, 3) := by decide +kernel
theorem d_X6_orders_7 : decode prog_1_method_22_code 7 = .ok (.bipush 6, 2) := by decide +kernel
theorem d_X6_orders_9 : decode prog_1_method_22_code 9 = .ok (.if_icmp .le 6, 3) := by decide +kernel
theorem d_X6_orders_12 : decode prog_1_method_22_code 12 = .ok (.bipush (-3), 2) := by decide +kernel
theorem d_X6_orders_14 : decode prog_1_method_22_code 14 = .ok (.ireturn, 1) := by decide +kernel
theorem d_X6_orders_15 : decode prog_1_method_22_code 15 = .ok (.aload_n 0, 1) := by decide +kernel
theorem d_X6_orders_16 : decode prog_1_method_22_code 16 = .ok (.getfield 59, 3) := by decide +kernel
theorem d_X6_orders_19 : decode prog_1_method_22_code 19 = .ok (.aload_n 0, 1) := by decide +kernel
theorem d_X6_orders_20 : decode prog_1_method_22_code 20 = .ok (.getfield 30, 3) := by decide +kernel
theorem d_X6_orders_23 : decode prog_1_method_22_code 23 = .ok (.invokevirtual 220, 3) := by decide +kernel
theorem d_X6_orders_26 : decode prog_1_method_22_code 26 = .ok (.aload_n 0, 1) := by decide +kernel
theorem d_X6_orders_27 : decode prog_1_method_22_code 27 = .ok (.getfield 59, 3) := by decide +kernel
theorem d_X6_orders_30 : decode prog_1_method_22_code 30 = .ok (.invokevirtual 221, 3) := by decide +kernel
theorem d_X6_orders_33 : decode prog_1_method_22_code 33 = .ok (.ireturn, 1) := by decide +kernel
def m_X6_orders (sh : Sh) (v0 : Nat) (μ : Mu) : Option (Int32 × Mu) :=
  gd (iz sh 6 v0) <|
  bd (gR μ v0 4) fun a2 =>
  gd (iz sh 4 a2) <|
  if (gI μ a2 4) ≤ 6 then
    bd (gR μ v0 9) fun a5 =>
    bd (gR μ v0 4) fun a6 =>
    gd (iz sh 3 a5) <|
    ca (m_X3_gather sh a5 a6 μ) fun μ8 =>
    bd (gR μ8 v0 9) fun a9 =>
    gd (iz sh 3 a9) <|
    ca2 (m_X3_howMany sh a9 μ8) fun r11 μ12 =>
    some (r11, μ12)
  else
    some ((-3), μ)
set_option maxHeartbeats 4000000 in
set_option maxRecDepth 20000 in
theorem t_X6_orders {l : Launch} {G : Gl} {n : Nat} {sh : Sh} {x : Int32 × Mu} {v0 : Nat} {μ : Mu} (h : m_X6_orders sh v0 μ = some x) : Ct l G ⟨"StripsOfFour", "orders", "()I"⟩ prog_1_method_22_code 1 (some .int) { frames := 3, cells := 0, slots := 0, locals := 75 } n sh μ [vr v0] (some (.int x.1)) n sh x.2 := by
  refine Ct.of (lc := [some (vr v0)]) (by decide +kernel) (Nat.le_of_ble_eq_true rfl) rfl ?_
  show Sj l G (QI G n sh x) c_X6_orders n sh 0 0 μ 0 [some (vr v0)] []
  unfold m_X6_orders at h
  refine s_aload_n (pc := 0) d_X6_orders_0 rfl rfl ?_
  obtain ⟨g1, h⟩ := gd_1 h
  refine s_getR (pc := 1) (k := 4) cl_6 d_X6_orders_1 g1 (by decide) w_200 (rt_obj _) ?_
  obtain ⟨a2, ea2, h⟩ := bd_1 h
  refine s_topR ea2 ?_
  obtain ⟨g3, h⟩ := gd_1 h
  refine s_getI (pc := 4) (k := 4) cl_4 d_X6_orders_4 g3 (by decide) w_104 rfl ?_
  refine s_bipush (pc := 7) (v := 6) d_X6_orders_7 (by decide) ?_
  refine s_icmp_le (pc := 9) (tgt := 15) d_X6_orders_9 (by decide) (fun c4 => ?_) (fun c4 => ?_)
  · have h := it_t c4 h
    refine s_aload_n (pc := 15) d_X6_orders_15 rfl rfl ?_
    refine s_getR (pc := 16) (k := 9) cl_6 d_X6_orders_16 g1 (by decide) w_205 (rt_obj _) ?_
    obtain ⟨a5, ea5, h⟩ := bd_1 h
    refine s_topR ea5 ?_
    refine s_aload_n (pc := 19) d_X6_orders_19 rfl rfl ?_
    refine s_getR (pc := 20) (k := 4) cl_6 d_X6_orders_20 g1 (by decide) w_200 (rt_obj _) ?_
    obtain ⟨a6, ea6, h⟩ := bd_1 h
    refine s_topR ea6 ?_
    obtain ⟨g7, h⟩ := gd_1 h
    obtain ⟨μ8, eμ8, h⟩ := ca_1 h
    refine s_callV (pc := 23) (as := [vr a6]) (st := []) (vo := []) (t_X3_gather eμ8) cl_3 g7 d_X6_orders_23 y_X3_gather w_528 w_529 w_530 ⟨by decide, by decide⟩ ⟨Nat.le_of_ble_eq_true rfl, Nat.le_of_ble_eq_true rfl⟩ (Nat.le_of_ble_eq_true rfl) rfl rfl rfl ?_
    refine s_as (kc' := 0) (js' := 0) (pc' := 26) (st' := []) ⟨rfl, rfl, rfl, rfl⟩ ?_
    refine s_aload_n (pc := 26) d_X6_orders_26 rfl rfl ?_
    refine s_getR (pc := 27) (k := 9) cl_6 d_X6_orders_27 g1 (by decide) w_205 (rt_obj _) ?_
    obtain ⟨a9, ea9, h⟩ := bd_1 h
    refine s_topR ea9 ?_
    obtain ⟨g10, h⟩ := gd_1 h
    obtain ⟨r11, μ12, er11, h⟩ := ca2_1 h
    refine s_callV (pc := 30) (as := []) (st := []) (vo := [vi r11]) (t_X3_howMany er11) cl_3 g10 d_X6_orders_30 y_X3_howMany w_546 w_547 w_548 ⟨by decide, by decide⟩ ⟨Nat.le_of_ble_eq_true rfl, Nat.le_of_ble_eq_true rfl⟩ (Nat.le_of_ble_eq_true rfl) rfl rfl rfl ?_
    refine s_as (kc' := 0) (js' := 0) (pc' := 33) (st' := [vi r11]) ⟨rfl, rfl, rfl, rfl⟩ ?_
    obtain rfl := Option.some.inj h
    exact s_iret (pc := 33) d_X6_orders_33 rfl
  · have h := it_f c4 h
    refine s_bipush (pc := 12) (v := (-3)) d_X6_orders_12 (by decide) ?_
    obtain rfl := Option.some.inj h
    exact s_iret (pc := 14) d_X6_orders_14 rfl
/-! StripsOfFour.person -/
abbrev c_X6_person : Cf := (prog_1_method_8_code, 3, "StripsOfFour", "person", (some .int), { frames := 2, cells := 0, slots := 0, locals := 42 })
theorem d_X6_person_0 : decode prog_1_method_8_code 0 = .ok (.aload_n 0, 1) := by decide +kernel
theorem d_X6_person_1 : decode prog_1_method_8_code 1 = .ok (.getfield 20, 3) := by decide +kernel
theorem d_X6_person_4 : decode prog_1_method_8_code 4 = .ok (.iload_n 1, 1) := by decide +kernel
theorem d_X6_person_5 : decode prog_1_method_8_code 5 = .ok (.invokevirtual 122, 3) := by decide +kernel
theorem d_X6_person_8 : decode prog_1_method_8_code 8 = .ok (.ifCond .ne 5, 3) := by decide +kernel
theorem d_X6_person_11 : decode prog_1_method_8_code 11 = .ok (.iconst (-1), 1) := by decide +kernel
theorem d_X6_person_12 : decode prog_1_method_8_code 12 = .ok (.ireturn, 1) := by decide +kernel
theorem d_X6_person_13 : decode prog_1_method_8_code 13 = .ok (.iload_n 2, 1) := by decide +kernel
theorem d_X6_person_14 : decode prog_1_method_8_code 14 = .ok (.tableswitch 66 0 3 #[30, 39, 48, 57], 30) := by decide +kernel
theorem d_X6_person_44 : decode prog_1_method_8_code 44 = .ok (.aload_n 0, 1) := by decide +kernel
theorem d_X6_person_45 : decode prog_1_method_8_code 45 = .ok (.getfield 20, 3) := by decide +kernel
theorem d_X6_person_48 : decode prog_1_method_8_code 48 = .ok (.iload_n 1, 1) := by decide +kernel
theorem d_X6_person_49 : decode prog_1_method_8_code 49 = .ok (.invokevirtual 125, 3) := by decide +kernel
theorem d_X6_person_52 : decode prog_1_method_8_code 52 = .ok (.ireturn, 1) := by decide +kernel
theorem d_X6_person_53 : decode prog_1_method_8_code 53 = .ok (.aload_n 0, 1) := by decide +kernel
theorem d_X6_person_54 : decode prog_1_method_8_code 54 = .ok (.getfield 30, 3) := by decide +kernel
theorem d_X6_person_57 : decode prog_1_method_8_code 57 = .ok (.iload_n 1, 1) := by decide +kernel
theorem d_X6_person_58 : decode prog_1_method_8_code 58 = .ok (.invokevirtual 128, 3) := by decide +kernel
theorem d_X6_person_61 : decode prog_1_method_8_code 61 = .ok (.ireturn, 1) := by decide +kernel
theorem d_X6_person_62 : decode prog_1_method_8_code 62 = .ok (.aload_n 0, 1) := by decide +kernel
theorem d_X6_person_63 : decode prog_1_method_8_code 63 = .ok (.getfield 30, 3) := by decide +kernel
theorem d_X6_person_66 : decode prog_1_method_8_code 66 = .ok (.iload_n 1, 1) := by decide +kernel
theorem d_X6_person_67 : decode prog_1_method_8_code 67 = .ok (.invokevirtual 131, 3) := by decide +kernel
theorem d_X6_person_70 : decode prog_1_method_8_code 70 = .ok (.ireturn, 1) := by decide +kernel
theorem d_X6_person_71 : decode prog_1_method_8_code 71 = .ok (.aload_n 0, 1) := by decide +kernel
theorem d_X6_person_72 : decode prog_1_method_8_code 72 = .ok (.getfield 30, 3) := by decide +kernel
theorem d_X6_person_75 : decode prog_1_method_8_code 75 = .ok (.iload_n 1, 1) := by decide +kernel
theorem d_X6_person_76 : decode prog_1_method_8_code 76 = .ok (.invokevirtual 134, 3) := by decide +kernel
theorem d_X6_person_79 : decode prog_1_method_8_code 79 = .ok (.ireturn, 1) := by decide +kernel
theorem d_X6_person_80 : decode prog_1_method_8_code 80 = .ok (.bipush (-2), 2) := by decide +kernel
theorem d_X6_person_82 : decode prog_1_method_8_code 82 = .ok (.ireturn, 1) := by decide +kernel
def m_X6_person (sh : Sh) (v0 : Nat) (v1 : Int32) (v2 : Int32) (μ : Mu) : Option (Int32 × Mu) :=
  gd (iz sh 6 v0) <|
  bd (gR μ v0 2) fun a2 =>
  gd (iz sh 2 a2) <|
  ca2 (m_X2_hasPerson sh a2 v1 μ) fun r4 μ5 =>
  if r4 = 0 then
    some ((-1), μ5)
  else
    if v2 = 0 then
      bd (gR μ5 v0 2) fun a8 =>
      gd (iz sh 2 a8) <|
      ca2 (m_X2_tenthsOf sh a8 v1 μ5) fun r10 μ11 =>
      some (r10, μ11)
    else
      if v2 = 1 then
        bd (gR μ5 v0 4) fun a13 =>
        gd (iz sh 4 a13) <|
        ca2 (m_X4_placeOf sh a13 v1 μ5) fun r15 μ16 =>
        some (r15, μ16)
      else
        if v2 = 2 then
          bd (gR μ5 v0 4) fun a18 =>
          gd (iz sh 4 a18) <|
          ca2 (m_X4_leftOf sh a18 v1 μ5) fun r20 μ21 =>
          some (r20, μ21)
        else
          if v2 = 3 then
            bd (gR μ5 v0 4) fun a23 =>
            gd (iz sh 4 a23) <|
            ca2 (m_X4_leftAt sh a23 v1 μ5) fun r25 μ26 =>
            some (r25, μ26)
          else
            some ((-2), μ5)
set_option maxHeartbeats 4000000 in
set_option maxRecDepth 20000 in
theorem t_X6_person {l : Launch} {G : Gl} {n : Nat} {sh : Sh} {x : Int32 × Mu} {v0 : Nat} {v1 : Int32} {v2 : Int32} {μ : Mu} (h : m_X6_person sh v0 v1 v2 μ = some x) : Ct l G ⟨"StripsOfFour", "person", "(II)I"⟩ prog_1_method_8_code 3 (some .int) { frames := 2, cells := 0, slots := 0, locals := 42 } n sh μ [vr v0, vi v1, vi v2] (some (.int x.1)) n sh x.2 := by
  refine Ct.of (lc := [some (vr v0), some (vi v1), some (vi v2)]) (by decide +kernel) (Nat.le_of_ble_eq_true rfl) rfl ?_
  show Sj l G (QI G n sh x) c_X6_person n sh 0 0 μ 0 [some (vr v0), some (vi v1), some (vi v2)] []
  unfold m_X6_person at h
  refine s_aload_n (pc := 0) d_X6_person_0 rfl rfl ?_
  obtain ⟨g1, h⟩ := gd_1 h
  refine s_getR (pc := 1) (k := 2) cl_6 d_X6_person_1 g1 (by decide) w_198 (rt_obj _) ?_
  obtain ⟨a2, ea2, h⟩ := bd_1 h
  refine s_topR ea2 ?_
  refine s_iload_n (pc := 4) d_X6_person_4 rfl rfl ?_
  obtain ⟨g3, h⟩ := gd_1 h
  obtain ⟨r4, μ5, er4, h⟩ := ca2_1 h
  refine s_callV (pc := 5) (as := [vi v1]) (st := []) (vo := [vi r4]) (t_X2_hasPerson er4) cl_2 g3 d_X6_person_5 y_X2_hasPerson w_317 w_260 w_261 ⟨by decide, by decide⟩ ⟨Nat.le_of_ble_eq_true rfl, Nat.le_of_ble_eq_true rfl⟩ (Nat.le_of_ble_eq_true rfl) rfl rfl rfl ?_
  refine s_as (kc' := 0) (js' := 0) (pc' := 8) (st' := [vi r4]) ⟨rfl, rfl, rfl, rfl⟩ ?_
  refine s_if_ne (pc := 8) (tgt := 13) d_X6_person_8 (by decide) (fun c6 => ?_) (fun c6 => ?_)
  · have h := it_f c6 h
    refine s_iload_n (pc := 13) d_X6_person_13 rfl rfl ?_
    by_cases c7 : v2 = 0
    · have h := it_t c7 h
      refine s_tab (pc := 14) (tgt := 44) 0 c7 d_X6_person_14 (by decide) (by decide) rfl (by decide) ?_
      refine s_aload_n (pc := 44) d_X6_person_44 rfl rfl ?_
      refine s_getR (pc := 45) (k := 2) cl_6 d_X6_person_45 g1 (by decide) w_198 (rt_obj _) ?_
      obtain ⟨a8, ea8, h⟩ := bd_1 h
      refine s_topR ea8 ?_
      refine s_iload_n (pc := 48) d_X6_person_48 rfl rfl ?_
      obtain ⟨g9, h⟩ := gd_1 h
      obtain ⟨r10, μ11, er10, h⟩ := ca2_1 h
      refine s_callV (pc := 49) (as := [vi v1]) (st := []) (vo := [vi r10]) (t_X2_tenthsOf er10) cl_2 g9 d_X6_person_49 y_X2_tenthsOf w_318 w_319 w_320 ⟨by decide, by decide⟩ ⟨Nat.le_of_ble_eq_true rfl, Nat.le_of_ble_eq_true rfl⟩ (Nat.le_of_ble_eq_true rfl) rfl rfl rfl ?_
      refine s_as (kc' := 0) (js' := 0) (pc' := 52) (st' := [vi r10]) ⟨rfl, rfl, rfl, rfl⟩ ?_
      obtain rfl := Option.some.inj h
      exact s_iret (pc := 52) d_X6_person_52 rfl
    have h := it_f c7 h
    by_cases c12 : v2 = 1
    · have h := it_t c12 h
      refine s_tab (pc := 14) (tgt := 53) 1 c12 d_X6_person_14 (by decide) (by decide) rfl (by decide) ?_
      refine s_aload_n (pc := 53) d_X6_person_53 rfl rfl ?_
      refine s_getR (pc := 54) (k := 4) cl_6 d_X6_person_54 g1 (by decide) w_200 (rt_obj _) ?_
      obtain ⟨a13, ea13, h⟩ := bd_1 h
      refine s_topR ea13 ?_
      refine s_iload_n (pc := 57) d_X6_person_57 rfl rfl ?_
      obtain ⟨g14, h⟩ := gd_1 h
      obtain ⟨r15, μ16, er15, h⟩ := ca2_1 h
      refine s_callV (pc := 58) (as := [vi v1]) (st := []) (vo := [vi r15]) (t_X4_placeOf er15) cl_4 g14 d_X6_person_58 y_X4_placeOf w_322 w_323 w_324 ⟨by decide, by decide⟩ ⟨Nat.le_of_ble_eq_true rfl, Nat.le_of_ble_eq_true rfl⟩ (Nat.le_of_ble_eq_true rfl) rfl rfl rfl ?_
      refine s_as (kc' := 0) (js' := 0) (pc' := 61) (st' := [vi r15]) ⟨rfl, rfl, rfl, rfl⟩ ?_
      obtain rfl := Option.some.inj h
      exact s_iret (pc := 61) d_X6_person_61 rfl
    have h := it_f c12 h
    by_cases c17 : v2 = 2
    · have h := it_t c17 h
      refine s_tab (pc := 14) (tgt := 62) 2 c17 d_X6_person_14 (by decide) (by decide) rfl (by decide) ?_
      refine s_aload_n (pc := 62) d_X6_person_62 rfl rfl ?_
      refine s_getR (pc := 63) (k := 4) cl_6 d_X6_person_63 g1 (by decide) w_200 (rt_obj _) ?_
      obtain ⟨a18, ea18, h⟩ := bd_1 h
      refine s_topR ea18 ?_
      refine s_iload_n (pc := 66) d_X6_person_66 rfl rfl ?_
      obtain ⟨g19, h⟩ := gd_1 h
      obtain ⟨r20, μ21, er20, h⟩ := ca2_1 h
      refine s_callV (pc := 67) (as := [vi v1]) (st := []) (vo := [vi r20]) (t_X4_leftOf er20) cl_4 g19 d_X6_person_67 y_X4_leftOf w_329 w_330 w_331 ⟨by decide, by decide⟩ ⟨Nat.le_of_ble_eq_true rfl, Nat.le_of_ble_eq_true rfl⟩ (Nat.le_of_ble_eq_true rfl) rfl rfl rfl ?_
      refine s_as (kc' := 0) (js' := 0) (pc' := 70) (st' := [vi r20]) ⟨rfl, rfl, rfl, rfl⟩ ?_
      obtain rfl := Option.some.inj h
      exact s_iret (pc := 70) d_X6_person_70 rfl
    have h := it_f c17 h
    by_cases c22 : v2 = 3
    · have h := it_t c22 h
      refine s_tab (pc := 14) (tgt := 71) 3 c22 d_X6_person_14 (by decide) (by decide) rfl (by decide) ?_
      refine s_aload_n (pc := 71) d_X6_person_71 rfl rfl ?_
      refine s_getR (pc := 72) (k := 4) cl_6 d_X6_person_72 g1 (by decide) w_200 (rt_obj _) ?_
      obtain ⟨a23, ea23, h⟩ := bd_1 h
      refine s_topR ea23 ?_
      refine s_iload_n (pc := 75) d_X6_person_75 rfl rfl ?_
      obtain ⟨g24, h⟩ := gd_1 h
      obtain ⟨r25, μ26, er25, h⟩ := ca2_1 h
      refine s_callV (pc := 76) (as := [vi v1]) (st := []) (vo := [vi r25]) (t_X4_leftAt er25) cl_4 g24 d_X6_person_76 y_X4_leftAt w_333 w_334 w_335 ⟨by decide, by decide⟩ ⟨Nat.le_of_ble_eq_true rfl, Nat.le_of_ble_eq_true rfl⟩ (Nat.le_of_ble_eq_true rfl) rfl rfl rfl ?_
      refine s_as (kc' := 0) (js' := 0) (pc' := 79) (st' := [vi r25]) ⟨rfl, rfl, rfl, rfl⟩ ?_
      obtain rfl := Option.some.inj h
      exact s_iret (pc := 79) d_X6_person_79 rfl
    have h := it_f c22 h
    have qc7 := lv_neT (a := 0) c7 (by decide)
    have qc12 := lv_neT (a := 1) c12 (by decide)
    have qc17 := lv_neT (a := 2) c17 (by decide)
    have qc22 := lv_neT (a := 3) c22 (by decide)
    refine s_tabOut (pc := 14) (tgt := 80) d_X6_person_14 (by omega) (by decide) ?_
    refine s_bipush (pc := 80) (v := (-2)) d_X6_person_80 (by decide) ?_
    obtain rfl := Option.some.inj h
    exact s_iret (pc := 82) d_X6_person_82 rfl
  · have h := it_t c6 h
    refine s_iconst (pc := 11) (v := (-1)) d_X6_person_11 (by decide) ?_
    obtain rfl := Option.some.inj h
    exact s_iret (pc := 12) d_X6_person_12 rfl
/-! StripsOfFour.seed -/
abbrev c_X6_seed : Cf := (prog_1_method_11_code, 5, "StripsOfFour", "seed", (some .long), { frames := 0, cells := 0, slots := 0, locals := 0 })
theorem d_X6_seed_0 : decode prog_1_method_11_code 0 = .ok (.aload_n 0, 1) := by decide +kernel
theorem d_X6_seed_1 : decode prog_1_method_11_code 1 = .ok (.getfield 30, 3) := by decide +kernel
theorem d_X6_seed_4 : decode prog_1_method_11_code 4 = .ok (.getfield 161, 3) := by decide +kernel
theorem d_X6_seed_7 : decode prog_1_method_11_code 7 = .ok (.lstore_n 3, 1) := by decide +kernel
theorem d_X6_seed_8 : decode prog_1_method_11_code 8 = .ok (.aload_n 0, 1) := by decide +kernel
theorem d_X6_seed_9 : decode prog_1_method_11_code 9 = .ok (.getfield 30, 3) := by decide +kernel
theorem d_X6_seed_12 : decode prog_1_method_11_code 12 = .ok (.lload_n 1, 1) := by decide +kernel
theorem d_X6_seed_13 : decode prog_1_method_11_code 13 = .ok (.putfield 161, 3) := by decide +kernel
theorem d_X6_seed_16 : decode prog_1_method_11_code 16 = .ok (.lload_n 3, 1) := by decide +kernel
theorem d_X6_seed_17 : decode prog_1_method_11_code 17 = .ok (.lreturn, 1) := by decide +kernel
def m_X6_seed (sh : Sh) (v0 : Nat) (v1 : Int64) (μ : Mu) : Option (Int64 × Mu) :=
  gd (iz sh 6 v0) <|
  bd (gR μ v0 4) fun a2 =>
  gd (iz sh 4 a2) <|
  bd (gJ μ a2 0) fun w4 =>
  bd (gR μ v0 4) fun a5 =>
  gd (iz sh 4 a5) <|
  bd (sJ μ a5 0 v1) fun μ7 =>
  some (w4, μ7)
set_option maxHeartbeats 4000000 in
set_option maxRecDepth 20000 in
theorem t_X6_seed {l : Launch} {G : Gl} {n : Nat} {sh : Sh} {x : Int64 × Mu} {v0 : Nat} {v1 : Int64} {μ : Mu} (h : m_X6_seed sh v0 v1 μ = some x) : Ct l G ⟨"StripsOfFour", "seed", "(J)J"⟩ prog_1_method_11_code 5 (some .long) { frames := 0, cells := 0, slots := 0, locals := 0 } n sh μ [vr v0, vl v1] (some (.long x.1)) n sh x.2 := by
  refine Ct.of (lc := [some (vr v0), some (vl v1), none, none, none]) (by decide +kernel) (Nat.le_of_ble_eq_true rfl) rfl ?_
  show Sj l G (QJ G n sh x) c_X6_seed n sh 0 0 μ 0 [some (vr v0), some (vl v1), none, none, none] []
  unfold m_X6_seed at h
  refine s_aload_n (pc := 0) d_X6_seed_0 rfl rfl ?_
  obtain ⟨g1, h⟩ := gd_1 h
  refine s_getR (pc := 1) (k := 4) cl_6 d_X6_seed_1 g1 (by decide) w_200 (rt_obj _) ?_
  obtain ⟨a2, ea2, h⟩ := bd_1 h
  refine s_topR ea2 ?_
  obtain ⟨g3, h⟩ := gd_1 h
  refine s_getJ (pc := 4) (k := 0) cl_4 d_X6_seed_4 g3 (by decide) w_95 rfl ?_
  obtain ⟨w4, ew4, h⟩ := bd_1 h
  refine s_topJ ew4 ?_
  refine s_lstore_n (pc := 7) (lc' := [some (vr v0), some (vl v1), none, some (vl w4), none]) d_X6_seed_7 rfl (by decide) rfl ?_
  refine s_aload_n (pc := 8) d_X6_seed_8 rfl rfl ?_
  refine s_getR (pc := 9) (k := 4) cl_6 d_X6_seed_9 g1 (by decide) w_200 (rt_obj _) ?_
  obtain ⟨a5, ea5, h⟩ := bd_1 h
  refine s_topR ea5 ?_
  refine s_lload_n (pc := 12) d_X6_seed_12 rfl rfl ?_
  obtain ⟨g6, h⟩ := gd_1 h
  refine s_putJ (pc := 13) (k := 0) cl_4 d_X6_seed_13 g6 (by decide) w_95 rfl rfl ?_
  obtain ⟨μ7, eμ7, h⟩ := bd_1 h
  refine s_mu eμ7 ?_
  refine s_lload_n (pc := 16) d_X6_seed_16 rfl rfl ?_
  obtain rfl := Option.some.inj h
  exact s_lret (pc := 17) d_X6_seed_17 rfl
/-! StripsOfFour.strip -/
abbrev c_X6_strip : Cf := (prog_1_method_9_code, 4, "StripsOfFour", "strip", (some .int), { frames := 2, cells := 0, slots := 0, locals := 44 })
theorem d_X6_strip_0 : decode prog_1_method_9_code 0 = .ok (.aload_n 0, 1) := by decide +kernel
theorem d_X6_strip_1 : decode prog_1_method_9_code 1 = .ok (.getfield 30, 3) := by decide +kernel
theorem d_X6_strip_4 : decode prog_1_method_9_code 4 = .ok (.iload_n 1, 1) := by decide +kernel
theorem d_X6_strip_5 : decode prog_1_method_9_code 5 = .ok (.invokevirtual 137, 3) := by decide +kernel
theorem d_X6_strip_8 : decode prog_1_method_9_code 8 = .ok (.ifCond .ne 5, 3) := by decide +kernel
theorem d_X6_strip_11 : decode prog_1_method_9_code 11 = .ok (.iconst (-1), 1) := by decide +kernel
theorem d_X6_strip_12 : decode prog_1_method_9_code 12 = .ok (.ireturn, 1) := by decide +kernel
theorem d_X6_strip_13 : decode prog_1_method_9_code 13 = .ok (.aload_n 0, 1) := by decide +kernel
theorem d_X6_strip_14 : decode prog_1_method_9_code 14 = .ok (.getfield 30, 3) := by decide +kernel
theorem d_X6_strip_17 : decode prog_1_method_9_code 17 = .ok (.getfield 140, 3) := by decide +kernel
theorem d_X6_strip_20 : decode prog_1_method_9_code 20 = .ok (.iload_n 1, 1) := by decide +kernel
theorem d_X6_strip_21 : decode prog_1_method_9_code 21 = .ok (.aaload, 1) := by decide +kernel
theorem d_X6_strip_22 : decode prog_1_method_9_code 22 = .ok (.astore_n 3, 1) := by decide +kernel
theorem d_X6_strip_23 : decode prog_1_method_9_code 23 = .ok (.iload_n 2, 1) := by decide +kernel
theorem d_X6_strip_24 : decode prog_1_method_9_code 24 = .ok (.tableswitch 52 0 3 #[32, 37, 42, 47], 32) := by decide +kernel
theorem d_X6_strip_56 : decode prog_1_method_9_code 56 = .ok (.aload_n 3, 1) := by decide +kernel
theorem d_X6_strip_57 : decode prog_1_method_9_code 57 = .ok (.getfield 144, 3) := by decide +kernel
theorem d_X6_strip_60 : decode prog_1_method_9_code 60 = .ok (.ireturn, 1) := by decide +kernel
theorem d_X6_strip_61 : decode prog_1_method_9_code 61 = .ok (.aload_n 3, 1) := by decide +kernel
theorem d_X6_strip_62 : decode prog_1_method_9_code 62 = .ok (.getfield 149, 3) := by decide +kernel
theorem d_X6_strip_65 : decode prog_1_method_9_code 65 = .ok (.ireturn, 1) := by decide +kernel
theorem d_X6_strip_66 : decode prog_1_method_9_code 66 = .ok (.aload_n 3, 1) := by decide +kernel
theorem d_X6_strip_67 : decode prog_1_method_9_code 67 = .ok (.getfield 152, 3) := by decide +kernel
theorem d_X6_strip_70 : decode prog_1_method_9_code 70 = .ok (.ireturn, 1) := by decide +kernel
theorem d_X6_strip_71 : decode prog_1_method_9_code 71 = .ok (.aload_n 3, 1) := by decide +kernel
theorem d_X6_strip_72 : decode prog_1_method_9_code 72 = .ok (.invokevirtual 155, 3) := by decide +kernel
theorem d_X6_strip_75 : decode prog_1_method_9_code 75 = .ok (.ireturn, 1) := by decide +kernel
theorem d_X6_strip_76 : decode prog_1_method_9_code 76 = .ok (.bipush (-2), 2) := by decide +kernel
theorem d_X6_strip_78 : decode prog_1_method_9_code 78 = .ok (.ireturn, 1) := by decide +kernel
def m_X6_strip (sh : Sh) (v0 : Nat) (v1 : Int32) (v2 : Int32) (μ : Mu) : Option (Int32 × Mu) :=
  gd (iz sh 6 v0) <|
  bd (gR μ v0 4) fun a2 =>
  gd (iz sh 4 a2) <|
  ca2 (m_X4_hasStrip sh a2 v1 μ) fun r4 μ5 =>
  if r4 = 0 then
    some ((-1), μ5)
  else
    bd (gR μ5 v0 4) fun a7 =>
    gd (iz sh 4 a7) <|
    bd (gR μ5 a7 5) fun a9 =>
    gd (ix sh 11 a9 v1) <|
    bd (gR μ5 a9 v1.toNatClampNeg) fun a11 =>
    if v2 = 0 then
      gd (iz sh 5 a11) <|
      some (gI μ5 a11 0, μ5)
    else
      if v2 = 1 then
        gd (iz sh 5 a11) <|
        some (gI μ5 a11 2, μ5)
      else
        if v2 = 2 then
          gd (iz sh 5 a11) <|
          some (gI μ5 a11 3, μ5)
        else
          if v2 = 3 then
            gd (iz sh 5 a11) <|
            ca2 (m_X5_allOnIt sh a11 μ5) fun r20 μ21 =>
            some (r20, μ21)
          else
            some ((-2), μ5)
set_option maxHeartbeats 4000000 in
set_option maxRecDepth 20000 in
theorem t_X6_strip {l : Launch} {G : Gl} {n : Nat} {sh : Sh} {x : Int32 × Mu} {v0 : Nat} {v1 : Int32} {v2 : Int32} {μ : Mu} (h : m_X6_strip sh v0 v1 v2 μ = some x) : Ct l G ⟨"StripsOfFour", "strip", "(II)I"⟩ prog_1_method_9_code 4 (some .int) { frames := 2, cells := 0, slots := 0, locals := 44 } n sh μ [vr v0, vi v1, vi v2] (some (.int x.1)) n sh x.2 := by
  refine Ct.of (lc := [some (vr v0), some (vi v1), some (vi v2), none]) (by decide +kernel) (Nat.le_of_ble_eq_true rfl) rfl ?_
  show Sj l G (QI G n sh x) c_X6_strip n sh 0 0 μ 0 [some (vr v0), some (vi v1), some (vi v2), none] []
  unfold m_X6_strip at h
  refine s_aload_n (pc := 0) d_X6_strip_0 rfl rfl ?_
  obtain ⟨g1, h⟩ := gd_1 h
  refine s_getR (pc := 1) (k := 4) cl_6 d_X6_strip_1 g1 (by decide) w_200 (rt_obj _) ?_
  obtain ⟨a2, ea2, h⟩ := bd_1 h
  refine s_topR ea2 ?_
  refine s_iload_n (pc := 4) d_X6_strip_4 rfl rfl ?_
  obtain ⟨g3, h⟩ := gd_1 h
  obtain ⟨r4, μ5, er4, h⟩ := ca2_1 h
  refine s_callV (pc := 5) (as := [vi v1]) (st := []) (vo := [vi r4]) (t_X4_hasStrip er4) cl_4 g3 d_X6_strip_5 y_X4_hasStrip w_341 w_342 w_343 ⟨by decide, by decide⟩ ⟨Nat.le_of_ble_eq_true rfl, Nat.le_of_ble_eq_true rfl⟩ (Nat.le_of_ble_eq_true rfl) rfl rfl rfl ?_
  refine s_as (kc' := 0) (js' := 0) (pc' := 8) (st' := [vi r4]) ⟨rfl, rfl, rfl, rfl⟩ ?_
  refine s_if_ne (pc := 8) (tgt := 13) d_X6_strip_8 (by decide) (fun c6 => ?_) (fun c6 => ?_)
  · have h := it_f c6 h
    refine s_aload_n (pc := 13) d_X6_strip_13 rfl rfl ?_
    refine s_getR (pc := 14) (k := 4) cl_6 d_X6_strip_14 g1 (by decide) w_200 (rt_obj _) ?_
    obtain ⟨a7, ea7, h⟩ := bd_1 h
    refine s_topR ea7 ?_
    obtain ⟨g8, h⟩ := gd_1 h
    refine s_getR (pc := 17) (k := 5) cl_4 d_X6_strip_17 g8 (by decide) w_108 (rt_arr _) ?_
    obtain ⟨a9, ea9, h⟩ := bd_1 h
    refine s_topR ea9 ?_
    refine s_iload_n (pc := 20) d_X6_strip_20 rfl rfl ?_
    obtain ⟨g10, h⟩ := gd_1 h
    refine s_aald11 (pc := 21) d_X6_strip_21 g10 ?_
    obtain ⟨a11, ea11, h⟩ := bd_1 h
    refine s_topR ea11 ?_
    refine s_astore_n (pc := 22) (lc' := [some (vr v0), some (vi v1), some (vi v2), some (vr a11)]) d_X6_strip_22 rfl (by decide) rfl ?_
    refine s_iload_n (pc := 23) d_X6_strip_23 rfl rfl ?_
    by_cases c12 : v2 = 0
    · have h := it_t c12 h
      refine s_tab (pc := 24) (tgt := 56) 0 c12 d_X6_strip_24 (by decide) (by decide) rfl (by decide) ?_
      refine s_aload_n (pc := 56) d_X6_strip_56 rfl rfl ?_
      obtain ⟨g13, h⟩ := gd_1 h
      refine s_getI (pc := 57) (k := 0) cl_5 d_X6_strip_57 g13 (by decide) w_63 rfl ?_
      obtain rfl := Option.some.inj h
      exact s_iret (pc := 60) d_X6_strip_60 rfl
    have h := it_f c12 h
    by_cases c14 : v2 = 1
    · have h := it_t c14 h
      refine s_tab (pc := 24) (tgt := 61) 1 c14 d_X6_strip_24 (by decide) (by decide) rfl (by decide) ?_
      refine s_aload_n (pc := 61) d_X6_strip_61 rfl rfl ?_
      obtain ⟨g15, h⟩ := gd_1 h
      refine s_getI (pc := 62) (k := 2) cl_5 d_X6_strip_62 g15 (by decide) w_69 rfl ?_
      obtain rfl := Option.some.inj h
      exact s_iret (pc := 65) d_X6_strip_65 rfl
    have h := it_f c14 h
    by_cases c16 : v2 = 2
    · have h := it_t c16 h
      refine s_tab (pc := 24) (tgt := 66) 2 c16 d_X6_strip_24 (by decide) (by decide) rfl (by decide) ?_
      refine s_aload_n (pc := 66) d_X6_strip_66 rfl rfl ?_
      obtain ⟨g17, h⟩ := gd_1 h
      refine s_getI (pc := 67) (k := 3) cl_5 d_X6_strip_67 g17 (by decide) w_72 rfl ?_
      obtain rfl := Option.some.inj h
      exact s_iret (pc := 70) d_X6_strip_70 rfl
    have h := it_f c16 h
    by_cases c18 : v2 = 3
    · have h := it_t c18 h
      refine s_tab (pc := 24) (tgt := 71) 3 c18 d_X6_strip_24 (by decide) (by decide) rfl (by decide) ?_
      refine s_aload_n (pc := 71) d_X6_strip_71 rfl rfl ?_
      obtain ⟨g19, h⟩ := gd_1 h
      obtain ⟨r20, μ21, er20, h⟩ := ca2_1 h
      refine s_callV (pc := 72) (as := []) (st := []) (vo := [vi r20]) (t_X5_allOnIt er20) cl_5 g19 d_X6_strip_72 y_X5_allOnIt w_345 w_346 w_347 ⟨by decide, by decide⟩ ⟨Nat.le_of_ble_eq_true rfl, Nat.le_of_ble_eq_true rfl⟩ (Nat.le_of_ble_eq_true rfl) rfl rfl rfl ?_
      refine s_as (kc' := 0) (js' := 0) (pc' := 75) (st' := [vi r20]) ⟨rfl, rfl, rfl, rfl⟩ ?_
      obtain rfl := Option.some.inj h
      exact s_iret (pc := 75) d_X6_strip_75 rfl
    have h := it_f c18 h
    have qc12 := lv_neT (a := 0) c12 (by decide)
    have qc14 := lv_neT (a := 1) c14 (by decide)
    have qc16 := lv_neT (a := 2) c16 (by decide)
    have qc18 := lv_neT (a := 3) c18 (by decide)
    refine s_tabOut (pc := 24) (tgt := 76) d_X6_strip_24 (by omega) (by decide) ?_
    refine s_bipush (pc := 76) (v := (-2)) d_X6_strip_76 (by decide) ?_
    obtain rfl := Option.some.inj h
    exact s_iret (pc := 78) d_X6_strip_78 rfl
  · have h := it_t c6 h
    refine s_iconst (pc := 11) (v := (-1)) d_X6_strip_11 (by decide) ?_
    obtain rfl := Option.some.inj h
    exact s_iret (pc := 12) d_X6_strip_12 rfl
/-! StripsOfFour.stuck -/
abbrev c_X6_stuck : Cf := (prog_1_method_16_code, 1, "StripsOfFour", "stuck", (some .int), { frames := 4, cells := 0, slots := 0, locals := 132 })
theorem d_X6_stuck_0 : decode prog_1_method_16_code 0 = .ok (.aload_n 0, 1) := by decide +kernel
theorem d_X6_stuck_1 : decode prog_1_method_16_code 1 = .ok (.getfield 30, 3) := by decide +kernel
theorem d_X6_stuck_4 : decode prog_1_method_16_code 4 = .ok (.getfield 88, 3) := by decide +kernel
theorem d_X6_stuck_7 : decode prog_1_method_16_code 7 = .ok (.iconst 2, 1) := by decide +kernel
theorem d_X6_stuck_8 : decode prog_1_method_16_code 8 = .ok (.if_icmp .ge 6, 3) := by decide +kernel
theorem d_X6_stuck_11 : decode prog_1_method_16_code 11 = .ok (.bipush (-3), 2) := by decide +kernel
theorem d_X6_stuck_13 : decode prog_1_method_16_code 13 = .ok (.ireturn, 1) := by decide +kernel
theorem d_X6_stuck_14 : decode prog_1_method_16_code 14 = .ok (.aload_n 0, 1) := by decide +kernel
theorem d_X6_stuck_15 : decode prog_1_method_16_code 15 = .ok (.getfield 37, 3) := by decide +kernel
theorem d_X6_stuck_18 : decode prog_1_method_16_code 18 = .ok (.aload_n 0, 1) := by decide +kernel
theorem d_X6_stuck_19 : decode prog_1_method_16_code 19 = .ok (.getfield 30, 3) := by decide +kernel
theorem d_X6_stuck_22 : decode prog_1_method_16_code 22 = .ok (.invokevirtual 174, 3) := by decide +kernel
theorem d_X6_stuck_25 : decode prog_1_method_16_code 25 = .ok (.aload_n 0, 1) := by decide +kernel
theorem d_X6_stuck_26 : decode prog_1_method_16_code 26 = .ok (.getfield 30, 3) := by decide +kernel
theorem d_X6_stuck_29 : decode prog_1_method_16_code 29 = .ok (.invokevirtual 190, 3) := by decide +kernel
theorem d_X6_stuck_32 : decode prog_1_method_16_code 32 = .ok (.ireturn, 1) := by decide +kernel
def m_X6_stuck (sh : Sh) (v0 : Nat) (μ : Mu) : Option (Int32 × Mu) :=
  gd (iz sh 6 v0) <|
  bd (gR μ v0 4) fun a2 =>
  gd (iz sh 4 a2) <|
  if 2 ≤ (gI μ a2 4) then
    bd (gR μ v0 5) fun a5 =>
    bd (gR μ v0 4) fun a6 =>
    gd (iz sh 1 a5) <|
    ca (m_X1_remember sh a5 a6 μ) fun μ8 =>
    bd (gR μ8 v0 4) fun a9 =>
    gd (iz sh 4 a9) <|
    ca2 (m_X4_swapLastTwo sh a9 μ8) fun r11 μ12 =>
    some (r11, μ12)
  else
    some ((-3), μ)
set_option maxHeartbeats 4000000 in
set_option maxRecDepth 20000 in
theorem t_X6_stuck {l : Launch} {G : Gl} {n : Nat} {sh : Sh} {x : Int32 × Mu} {v0 : Nat} {μ : Mu} (h : m_X6_stuck sh v0 μ = some x) : Ct l G ⟨"StripsOfFour", "stuck", "()I"⟩ prog_1_method_16_code 1 (some .int) { frames := 4, cells := 0, slots := 0, locals := 132 } n sh μ [vr v0] (some (.int x.1)) n sh x.2 := by
  refine Ct.of (lc := [some (vr v0)]) (by decide +kernel) (Nat.le_of_ble_eq_true rfl) rfl ?_
  show Sj l G (QI G n sh x) c_X6_stuck n sh 0 0 μ 0 [some (vr v0)] []
  unfold m_X6_stuck at h
  refine s_aload_n (pc := 0) d_X6_stuck_0 rfl rfl ?_
  obtain ⟨g1, h⟩ := gd_1 h
  refine s_getR (pc := 1) (k := 4) cl_6 d_X6_stuck_1 g1 (by decide) w_200 (rt_obj _) ?_
  obtain ⟨a2, ea2, h⟩ := bd_1 h
  refine s_topR ea2 ?_
  obtain ⟨g3, h⟩ := gd_1 h
  refine s_getI (pc := 4) (k := 4) cl_4 d_X6_stuck_4 g3 (by decide) w_104 rfl ?_
  refine s_iconst (pc := 7) (v := 2) d_X6_stuck_7 (by decide) ?_
  refine s_icmp_ge (pc := 8) (tgt := 14) d_X6_stuck_8 (by decide) (fun c4 => ?_) (fun c4 => ?_)
  · have h := it_t c4 h
    refine s_aload_n (pc := 14) d_X6_stuck_14 rfl rfl ?_
    refine s_getR (pc := 15) (k := 5) cl_6 d_X6_stuck_15 g1 (by decide) w_201 (rt_obj _) ?_
    obtain ⟨a5, ea5, h⟩ := bd_1 h
    refine s_topR ea5 ?_
    refine s_aload_n (pc := 18) d_X6_stuck_18 rfl rfl ?_
    refine s_getR (pc := 19) (k := 4) cl_6 d_X6_stuck_19 g1 (by decide) w_200 (rt_obj _) ?_
    obtain ⟨a6, ea6, h⟩ := bd_1 h
    refine s_topR ea6 ?_
    obtain ⟨g7, h⟩ := gd_1 h
    obtain ⟨μ8, eμ8, h⟩ := ca_1 h
    refine s_callV (pc := 22) (as := [vr a6]) (st := []) (vo := []) (t_X1_remember eμ8) cl_1 g7 d_X6_stuck_22 y_X1_remember w_378 w_379 w_380 ⟨by decide, by decide⟩ ⟨Nat.le_of_ble_eq_true rfl, Nat.le_of_ble_eq_true rfl⟩ (Nat.le_of_ble_eq_true rfl) rfl rfl rfl ?_
    refine s_as (kc' := 0) (js' := 0) (pc' := 25) (st' := []) ⟨rfl, rfl, rfl, rfl⟩ ?_
    refine s_aload_n (pc := 25) d_X6_stuck_25 rfl rfl ?_
    refine s_getR (pc := 26) (k := 4) cl_6 d_X6_stuck_26 g1 (by decide) w_200 (rt_obj _) ?_
    obtain ⟨a9, ea9, h⟩ := bd_1 h
    refine s_topR ea9 ?_
    obtain ⟨g10, h⟩ := gd_1 h
    obtain ⟨r11, μ12, er11, h⟩ := ca2_1 h
    refine s_callV (pc := 29) (as := []) (st := []) (vo := [vi r11]) (t_X4_swapLastTwo er11) cl_4 g10 d_X6_stuck_29 y_X4_swapLastTwo w_444 w_445 w_446 ⟨by decide, by decide⟩ ⟨Nat.le_of_ble_eq_true rfl, Nat.le_of_ble_eq_true rfl⟩ (Nat.le_of_ble_eq_true rfl) rfl rfl rfl ?_
    refine s_as (kc' := 0) (js' := 0) (pc' := 32) (st' := [vi r11]) ⟨rfl, rfl, rfl, rfl⟩ ?_
    obtain rfl := Option.some.inj h
    exact s_iret (pc := 32) d_X6_stuck_32 rfl
  · have h := it_f c4 h
    refine s_bipush (pc := 11) (v := (-3)) d_X6_stuck_11 (by decide) ?_
    obtain rfl := Option.some.inj h
    exact s_iret (pc := 13) d_X6_stuck_13 rfl
/-! StripsOfFour.tear -/
abbrev c_X6_tear : Cf := (prog_1_method_17_code, 3, "StripsOfFour", "tear", (some .int), { frames := 4, cells := 0, slots := 0, locals := 132 })
theorem d_X6_tear_0 : decode prog_1_method_17_code 0 = .ok (.aload_n 0, 1) := by decide +kernel
theorem d_X6_tear_1 : decode prog_1_method_17_code 1 = .ok (.getfield 30, 3) := by decide +kernel
theorem d_X6_tear_4 : decode prog_1_method_17_code 4 = .ok (.iload_n 1, 1) := by decide +kernel
theorem d_X6_tear_5 : decode prog_1_method_17_code 5 = .ok (.invokevirtual 137, 3) := by decide +kernel
theorem d_X6_tear_8 : decode prog_1_method_17_code 8 = .ok (.ifCond .ne 5, 3) := by decide +kernel
theorem d_X6_tear_11 : decode prog_1_method_17_code 11 = .ok (.iconst (-1), 1) := by decide +kernel
theorem d_X6_tear_12 : decode prog_1_method_17_code 12 = .ok (.ireturn, 1) := by decide +kernel
theorem d_X6_tear_13 : decode prog_1_method_17_code 13 = .ok (.iload_n 2, 1) := by decide +kernel
theorem d_X6_tear_14 : decode prog_1_method_17_code 14 = .ok (.iconst 1, 1) := by decide +kernel
theorem d_X6_tear_15 : decode prog_1_method_17_code 15 = .ok (.if_icmp .lt 8, 3) := by decide +kernel
theorem d_X6_tear_18 : decode prog_1_method_17_code 18 = .ok (.iload_n 2, 1) := by decide +kernel
theorem d_X6_tear_19 : decode prog_1_method_17_code 19 = .ok (.iconst 4, 1) := by decide +kernel
theorem d_X6_tear_20 : decode prog_1_method_17_code 20 = .ok (.if_icmp .lt 6, 3) := by decide +kernel
theorem d_X6_tear_23 : decode prog_1_method_17_code 23 = .ok (.bipush (-2), 2) := by decide +kernel
theorem d_X6_tear_25 : decode prog_1_method_17_code 25 = .ok (.ireturn, 1) := by decide +kernel
theorem d_X6_tear_26 : decode prog_1_method_17_code 26 = .ok (.aload_n 0, 1) := by decide +kernel
theorem d_X6_tear_27 : decode prog_1_method_17_code 27 = .ok (.getfield 30, 3) := by decide +kernel
theorem d_X6_tear_30 : decode prog_1_method_17_code 30 = .ok (.getfield 140, 3) := by decide +kernel
theorem d_X6_tear_33 : decode prog_1_method_17_code 33 = .ok (.iload_n 1, 1) := by decide +kernel
theorem d_X6_tear_34 : decode prog_1_method_17_code 34 = .ok (.aaload, 1) := by decide +kernel
theorem d_X6_tear_35 : decode prog_1_method_17_code 35 = .ok (.getfield 149, 3) := by decide +kernel
theorem d_X6_tear_38 : decode prog_1_method_17_code 38 = .ok (.ifCond .eq 6, 3) := by decide +kernel
theorem d_X6_tear_41 : decode prog_1_method_17_code 41 = .ok (.bipush (-3), 2) := by decide +kernel
theorem d_X6_tear_43 : decode prog_1_method_17_code 43 = .ok (.ireturn, 1) := by decide +kernel
theorem d_X6_tear_44 : decode prog_1_method_17_code 44 = .ok (.aload_n 0, 1) := by decide +kernel
theorem d_X6_tear_45 : decode prog_1_method_17_code 45 = .ok (.getfield 37, 3) := by decide +kernel
theorem d_X6_tear_48 : decode prog_1_method_17_code 48 = .ok (.aload_n 0, 1) := by decide +kernel
theorem d_X6_tear_49 : decode prog_1_method_17_code 49 = .ok (.getfield 30, 3) := by decide +kernel
theorem d_X6_tear_52 : decode prog_1_method_17_code 52 = .ok (.invokevirtual 174, 3) := by decide +kernel
theorem d_X6_tear_55 : decode prog_1_method_17_code 55 = .ok (.aload_n 0, 1) := by decide +kernel
theorem d_X6_tear_56 : decode prog_1_method_17_code 56 = .ok (.getfield 30, 3) := by decide +kernel
theorem d_X6_tear_59 : decode prog_1_method_17_code 59 = .ok (.getfield 140, 3) := by decide +kernel
theorem d_X6_tear_62 : decode prog_1_method_17_code 62 = .ok (.iload_n 1, 1) := by decide +kernel
theorem d_X6_tear_63 : decode prog_1_method_17_code 63 = .ok (.aaload, 1) := by decide +kernel
theorem d_X6_tear_64 : decode prog_1_method_17_code 64 = .ok (.iload_n 2, 1) := by decide +kernel
theorem d_X6_tear_65 : decode prog_1_method_17_code 65 = .ok (.putfield 149, 3) := by decide +kernel
theorem d_X6_tear_68 : decode prog_1_method_17_code 68 = .ok (.aload_n 0, 1) := by decide +kernel
theorem d_X6_tear_69 : decode prog_1_method_17_code 69 = .ok (.getfield 30, 3) := by decide +kernel
theorem d_X6_tear_72 : decode prog_1_method_17_code 72 = .ok (.invokevirtual 97, 3) := by decide +kernel
theorem d_X6_tear_75 : decode prog_1_method_17_code 75 = .ok (.invokestatic 169, 3) := by decide +kernel
theorem d_X6_tear_78 : decode prog_1_method_17_code 78 = .ok (.ireturn, 1) := by decide +kernel
def m_X6_tear (sh : Sh) (v0 : Nat) (v1 : Int32) (v2 : Int32) (μ : Mu) : Option (Int32 × Mu) :=
  gd (iz sh 6 v0) <|
  bd (gR μ v0 4) fun a2 =>
  gd (iz sh 4 a2) <|
  ca2 (m_X4_hasStrip sh a2 v1 μ) fun r4 μ5 =>
  if r4 = 0 then
    some ((-1), μ5)
  else
    if v2 < 1 then
      some ((-2), μ5)
    else
      if v2 < 4 then
        bd (gR μ5 v0 4) fun a9 =>
        gd (iz sh 4 a9) <|
        bd (gR μ5 a9 5) fun a11 =>
        gd (ix sh 11 a11 v1) <|
        bd (gR μ5 a11 v1.toNatClampNeg) fun a13 =>
        gd (iz sh 5 a13) <|
        if (gI μ5 a13 2) = 0 then
          bd (gR μ5 v0 5) fun a16 =>
          bd (gR μ5 v0 4) fun a17 =>
          gd (iz sh 1 a16) <|
          ca (m_X1_remember sh a16 a17 μ5) fun μ19 =>
          bd (gR μ19 v0 4) fun a20 =>
          gd (iz sh 4 a20) <|
          bd (gR μ19 a20 5) fun a22 =>
          gd (ix sh 11 a22 v1) <|
          bd (gR μ19 a22 v1.toNatClampNeg) fun a24 =>
          gd (iz sh 5 a24) <|
          bd (sI μ19 a24 2 v2) fun μ26 =>
          bd (gR μ26 v0 4) fun a27 =>
          gd (iz sh 4 a27) <|
          ca2 (m_X4_tornOnes sh a27 μ26) fun r29 μ30 =>
          ca2 (m_J6_bitCount_0f7a4 sh r29 μ30) fun r31 μ32 =>
          some (r31, μ32)
        else
          some ((-3), μ5)
      else
        some ((-2), μ5)
set_option maxHeartbeats 4000000 in
set_option maxRecDepth 20000 in
theorem t_X6_tear {l : Launch} {G : Gl} {n : Nat} {sh : Sh} {x : Int32 × Mu} {v0 : Nat} {v1 : Int32} {v2 : Int32} {μ : Mu} (h : m_X6_tear sh v0 v1 v2 μ = some x) : Ct l G ⟨"StripsOfFour", "tear", "(II)I"⟩ prog_1_method_17_code 3 (some .int) { frames := 4, cells := 0, slots := 0, locals := 132 } n sh μ [vr v0, vi v1, vi v2] (some (.int x.1)) n sh x.2 := by
  refine Ct.of (lc := [some (vr v0), some (vi v1), some (vi v2)]) (by decide +kernel) (Nat.le_of_ble_eq_true rfl) rfl ?_
  show Sj l G (QI G n sh x) c_X6_tear n sh 0 0 μ 0 [some (vr v0), some (vi v1), some (vi v2)] []
  unfold m_X6_tear at h
  refine s_aload_n (pc := 0) d_X6_tear_0 rfl rfl ?_
  obtain ⟨g1, h⟩ := gd_1 h
  refine s_getR (pc := 1) (k := 4) cl_6 d_X6_tear_1 g1 (by decide) w_200 (rt_obj _) ?_
  obtain ⟨a2, ea2, h⟩ := bd_1 h
  refine s_topR ea2 ?_
  refine s_iload_n (pc := 4) d_X6_tear_4 rfl rfl ?_
  obtain ⟨g3, h⟩ := gd_1 h
  obtain ⟨r4, μ5, er4, h⟩ := ca2_1 h
  refine s_callV (pc := 5) (as := [vi v1]) (st := []) (vo := [vi r4]) (t_X4_hasStrip er4) cl_4 g3 d_X6_tear_5 y_X4_hasStrip w_341 w_342 w_343 ⟨by decide, by decide⟩ ⟨Nat.le_of_ble_eq_true rfl, Nat.le_of_ble_eq_true rfl⟩ (Nat.le_of_ble_eq_true rfl) rfl rfl rfl ?_
  refine s_as (kc' := 0) (js' := 0) (pc' := 8) (st' := [vi r4]) ⟨rfl, rfl, rfl, rfl⟩ ?_
  refine s_if_ne (pc := 8) (tgt := 13) d_X6_tear_8 (by decide) (fun c6 => ?_) (fun c6 => ?_)
  · have h := it_f c6 h
    refine s_iload_n (pc := 13) d_X6_tear_13 rfl rfl ?_
    refine s_iconst (pc := 14) (v := 1) d_X6_tear_14 (by decide) ?_
    refine s_icmp_lt (pc := 15) (tgt := 23) d_X6_tear_15 (by decide) (fun c7 => ?_) (fun c7 => ?_)
    · have h := it_t c7 h
      refine s_bipush (pc := 23) (v := (-2)) d_X6_tear_23 (by decide) ?_
      obtain rfl := Option.some.inj h
      exact s_iret (pc := 25) d_X6_tear_25 rfl
    · have h := it_f c7 h
      refine s_iload_n (pc := 18) d_X6_tear_18 rfl rfl ?_
      refine s_iconst (pc := 19) (v := 4) d_X6_tear_19 (by decide) ?_
      refine s_icmp_lt (pc := 20) (tgt := 26) d_X6_tear_20 (by decide) (fun c8 => ?_) (fun c8 => ?_)
      · have h := it_t c8 h
        refine s_aload_n (pc := 26) d_X6_tear_26 rfl rfl ?_
        refine s_getR (pc := 27) (k := 4) cl_6 d_X6_tear_27 g1 (by decide) w_200 (rt_obj _) ?_
        obtain ⟨a9, ea9, h⟩ := bd_1 h
        refine s_topR ea9 ?_
        obtain ⟨g10, h⟩ := gd_1 h
        refine s_getR (pc := 30) (k := 5) cl_4 d_X6_tear_30 g10 (by decide) w_108 (rt_arr _) ?_
        obtain ⟨a11, ea11, h⟩ := bd_1 h
        refine s_topR ea11 ?_
        refine s_iload_n (pc := 33) d_X6_tear_33 rfl rfl ?_
        obtain ⟨g12, h⟩ := gd_1 h
        refine s_aald11 (pc := 34) d_X6_tear_34 g12 ?_
        obtain ⟨a13, ea13, h⟩ := bd_1 h
        refine s_topR ea13 ?_
        obtain ⟨g14, h⟩ := gd_1 h
        refine s_getI (pc := 35) (k := 2) cl_5 d_X6_tear_35 g14 (by decide) w_69 rfl ?_
        refine s_if_eq (pc := 38) (tgt := 44) d_X6_tear_38 (by decide) (fun c15 => ?_) (fun c15 => ?_)
        · have h := it_t c15 h
          refine s_aload_n (pc := 44) d_X6_tear_44 rfl rfl ?_
          refine s_getR (pc := 45) (k := 5) cl_6 d_X6_tear_45 g1 (by decide) w_201 (rt_obj _) ?_
          obtain ⟨a16, ea16, h⟩ := bd_1 h
          refine s_topR ea16 ?_
          refine s_aload_n (pc := 48) d_X6_tear_48 rfl rfl ?_
          refine s_getR (pc := 49) (k := 4) cl_6 d_X6_tear_49 g1 (by decide) w_200 (rt_obj _) ?_
          obtain ⟨a17, ea17, h⟩ := bd_1 h
          refine s_topR ea17 ?_
          obtain ⟨g18, h⟩ := gd_1 h
          obtain ⟨μ19, eμ19, h⟩ := ca_1 h
          refine s_callV (pc := 52) (as := [vr a17]) (st := []) (vo := []) (t_X1_remember eμ19) cl_1 g18 d_X6_tear_52 y_X1_remember w_378 w_379 w_380 ⟨by decide, by decide⟩ ⟨Nat.le_of_ble_eq_true rfl, Nat.le_of_ble_eq_true rfl⟩ (Nat.le_of_ble_eq_true rfl) rfl rfl rfl ?_
          refine s_as (kc' := 0) (js' := 0) (pc' := 55) (st' := []) ⟨rfl, rfl, rfl, rfl⟩ ?_
          refine s_aload_n (pc := 55) d_X6_tear_55 rfl rfl ?_
          refine s_getR (pc := 56) (k := 4) cl_6 d_X6_tear_56 g1 (by decide) w_200 (rt_obj _) ?_
          obtain ⟨a20, ea20, h⟩ := bd_1 h
          refine s_topR ea20 ?_
          obtain ⟨g21, h⟩ := gd_1 h
          refine s_getR (pc := 59) (k := 5) cl_4 d_X6_tear_59 g21 (by decide) w_108 (rt_arr _) ?_
          obtain ⟨a22, ea22, h⟩ := bd_1 h
          refine s_topR ea22 ?_
          refine s_iload_n (pc := 62) d_X6_tear_62 rfl rfl ?_
          obtain ⟨g23, h⟩ := gd_1 h
          refine s_aald11 (pc := 63) d_X6_tear_63 g23 ?_
          obtain ⟨a24, ea24, h⟩ := bd_1 h
          refine s_topR ea24 ?_
          refine s_iload_n (pc := 64) d_X6_tear_64 rfl rfl ?_
          obtain ⟨g25, h⟩ := gd_1 h
          refine s_putI (pc := 65) (k := 2) cl_5 d_X6_tear_65 g25 (by decide) w_69 rfl rfl ?_
          obtain ⟨μ26, eμ26, h⟩ := bd_1 h
          refine s_mu eμ26 ?_
          refine s_aload_n (pc := 68) d_X6_tear_68 rfl rfl ?_
          refine s_getR (pc := 69) (k := 4) cl_6 d_X6_tear_69 g1 (by decide) w_200 (rt_obj _) ?_
          obtain ⟨a27, ea27, h⟩ := bd_1 h
          refine s_topR ea27 ?_
          obtain ⟨g28, h⟩ := gd_1 h
          obtain ⟨r29, μ30, er29, h⟩ := ca2_1 h
          refine s_callV (pc := 72) (as := []) (st := []) (vo := [vi r29]) (t_X4_tornOnes er29) cl_4 g28 d_X6_tear_72 y_X4_tornOnes w_276 w_277 w_278 ⟨by decide, by decide⟩ ⟨Nat.le_of_ble_eq_true rfl, Nat.le_of_ble_eq_true rfl⟩ (Nat.le_of_ble_eq_true rfl) rfl rfl rfl ?_
          refine s_as (kc' := 0) (js' := 0) (pc' := 75) (st' := [vi r29]) ⟨rfl, rfl, rfl, rfl⟩ ?_
          obtain ⟨r31, μ32, er31, h⟩ := ca2_1 h
          refine s_callS (pc := 75) (as := [vi r29]) (st := []) (vo := [vi r31]) (t_J6_bitCount_0f7a4 er31) d_X6_tear_75 y_J6_bitCount_0f7a4 w_372 w_373 ⟨by decide, by decide⟩ ⟨Nat.le_of_ble_eq_true rfl, Nat.le_of_ble_eq_true rfl⟩ (Nat.le_of_ble_eq_true rfl) rfl rfl rfl ?_
          refine s_as (kc' := 0) (js' := 0) (pc' := 78) (st' := [vi r31]) ⟨rfl, rfl, rfl, rfl⟩ ?_
          obtain rfl := Option.some.inj h
          exact s_iret (pc := 78) d_X6_tear_78 rfl
        · have h := it_f c15 h
          refine s_bipush (pc := 41) (v := (-3)) d_X6_tear_41 (by decide) ?_
          obtain rfl := Option.some.inj h
          exact s_iret (pc := 43) d_X6_tear_43 rfl
      · have h := it_f c8 h
        refine s_bipush (pc := 23) (v := (-2)) d_X6_tear_23 (by decide) ?_
        obtain rfl := Option.some.inj h
        exact s_iret (pc := 25) d_X6_tear_25 rfl
  · have h := it_t c6 h
    refine s_iconst (pc := 11) (v := (-1)) d_X6_tear_11 (by decide) ?_
    obtain rfl := Option.some.inj h
    exact s_iret (pc := 12) d_X6_tear_12 rfl
/-! StripsOfFour.canSit -/
abbrev c_X6_canSit : Cf := (prog_1_method_38_code, 4, "StripsOfFour", "canSit", (some .boolean), { frames := 1, cells := 0, slots := 0, locals := 23 })
theorem d_X6_canSit_0 : decode prog_1_method_38_code 0 = .ok (.iconst 0, 1) := by decide +kernel
theorem d_X6_canSit_1 : decode prog_1_method_38_code 1 = .ok (.istore_n 2, 1) := by decide +kernel
theorem d_X6_canSit_2 : decode prog_1_method_38_code 2 = .ok (.iload_n 2, 1) := by decide +kernel
theorem d_X6_canSit_3 : decode prog_1_method_38_code 3 = .ok (.iconst 4, 1) := by decide +kernel
theorem d_X6_canSit_4 : decode prog_1_method_38_code 4 = .ok (.if_icmp .ge 38, 3) := by decide +kernel
theorem d_X6_canSit_7 : decode prog_1_method_38_code 7 = .ok (.iload_n 1, 1) := by decide +kernel
theorem d_X6_canSit_8 : decode prog_1_method_38_code 8 = .ok (.iconst 4, 1) := by decide +kernel
theorem d_X6_canSit_9 : decode prog_1_method_38_code 9 = .ok (.iload_n 2, 1) := by decide +kernel
theorem d_X6_canSit_10 : decode prog_1_method_38_code 10 = .ok (.invokestatic 230, 3) := by decide +kernel
theorem d_X6_canSit_13 : decode prog_1_method_38_code 13 = .ok (.istore_n 3, 1) := by decide +kernel
theorem d_X6_canSit_14 : decode prog_1_method_38_code 14 = .ok (.iload_n 3, 1) := by decide +kernel
theorem d_X6_canSit_15 : decode prog_1_method_38_code 15 = .ok (.aload_n 0, 1) := by decide +kernel
theorem d_X6_canSit_16 : decode prog_1_method_38_code 16 = .ok (.getfield 20, 3) := by decide +kernel
theorem d_X6_canSit_19 : decode prog_1_method_38_code 19 = .ok (.getfield 76, 3) := by decide +kernel
theorem d_X6_canSit_22 : decode prog_1_method_38_code 22 = .ok (.ishr, 1) := by decide +kernel
theorem d_X6_canSit_23 : decode prog_1_method_38_code 23 = .ok (.ifCond .ne 11, 3) := by decide +kernel
theorem d_X6_canSit_26 : decode prog_1_method_38_code 26 = .ok (.iload_n 3, 1) := by decide +kernel
theorem d_X6_canSit_27 : decode prog_1_method_38_code 27 = .ok (.invokestatic 169, 3) := by decide +kernel
theorem d_X6_canSit_30 : decode prog_1_method_38_code 30 = .ok (.iconst 4, 1) := by decide +kernel
theorem d_X6_canSit_31 : decode prog_1_method_38_code 31 = .ok (.if_icmp .le 5, 3) := by decide +kernel
theorem d_X6_canSit_34 : decode prog_1_method_38_code 34 = .ok (.iconst 0, 1) := by decide +kernel
theorem d_X6_canSit_35 : decode prog_1_method_38_code 35 = .ok (.ireturn, 1) := by decide +kernel
theorem d_X6_canSit_36 : decode prog_1_method_38_code 36 = .ok (.iinc 2 1, 3) := by decide +kernel
theorem d_X6_canSit_39 : decode prog_1_method_38_code 39 = .ok (.goto (-37), 3) := by decide +kernel
theorem d_X6_canSit_42 : decode prog_1_method_38_code 42 = .ok (.iconst 1, 1) := by decide +kernel
theorem d_X6_canSit_43 : decode prog_1_method_38_code 43 = .ok (.ireturn, 1) := by decide +kernel
def m_X6_canSit_b2 (sh : Sh) (k2 : Int32 → Mu → Option (Int32 × Mu)) (v0 : Nat) (v1 : Int32) (v2 : Int32) (μ : Mu) : Option (Int32 × Mu) :=
  if 4 ≤ v2 then
    some (1, μ)
  else
    ca2 (m_X6_setOf sh v1 4 v2 μ) fun r2 μ3 =>
    gd (iz sh 6 v0) <|
    bd (gR μ3 v0 2) fun a5 =>
    gd (iz sh 2 a5) <|
    if (r2 >>> ((gI μ3 a5 2) &&& 31)) = 0 then
      ca2 (m_J6_bitCount_0f7a4 sh r2 μ3) fun r8 μ9 =>
      if r8 ≤ 4 then
        bd (v2 + 1) fun w11 =>
        k2 w11 μ9
      else
        some (0, μ9)
    else
      some (0, μ3)
def m_X6_canSit_h2 (sh : Sh) (v0 : Nat) (v1 : Int32) : Nat → Int32 → Mu → Option (Int32 × Mu)
  | 0 => fun _ _ => none
  | f + 1 => fun v2 μ => m_X6_canSit_b2 sh (m_X6_canSit_h2 sh v0 v1 f) v0 v1 v2 μ
def m_X6_canSit (sh : Sh) (v0 : Nat) (v1 : Int32) (μ : Mu) : Option (Int32 × Mu) :=
  m_X6_canSit_h2 sh v0 v1 FU 0 μ
set_option maxHeartbeats 4000000 in
set_option maxRecDepth 20000 in
theorem t_X6_canSit_b2 {l : Launch} {G : Gl} {n : Nat} {sh : Sh} {x : Int32 × Mu} {k2 : Int32 → Mu → Option (Int32 × Mu)} {v0 : Nat} {v1 : Int32} {v2 : Int32} {μ : Mu} (hk2 : ∀ (v2 : Int32) (μ : Mu), k2 v2 μ = some x → Sj l G (QI G n sh x) c_X6_canSit n sh 0 0 μ 2 [some (vr v0), some (vi v1), some (vi v2), none] []) (h : m_X6_canSit_b2 sh k2 v0 v1 v2 μ = some x) : Sj l G (QI G n sh x) c_X6_canSit n sh 0 0 μ 2 [some (vr v0), some (vi v1), some (vi v2), none] [] := by
  unfold m_X6_canSit_b2 at h
  refine s_iload_n (pc := 2) d_X6_canSit_2 rfl rfl ?_
  refine s_iconst (pc := 3) (v := 4) d_X6_canSit_3 (by decide) ?_
  refine s_icmp_ge (pc := 4) (tgt := 42) d_X6_canSit_4 (by decide) (fun c1 => ?_) (fun c1 => ?_)
  · have h := it_t c1 h
    refine s_iconst (pc := 42) (v := 1) d_X6_canSit_42 (by decide) ?_
    obtain rfl := Option.some.inj h
    exact s_zret0 (pc := 43) rfl d_X6_canSit_43 rfl
  · have h := it_f c1 h
    refine s_iload_n (pc := 7) d_X6_canSit_7 rfl rfl ?_
    refine s_iconst (pc := 8) (v := 4) d_X6_canSit_8 (by decide) ?_
    refine s_iload_n (pc := 9) d_X6_canSit_9 rfl rfl ?_
    obtain ⟨r2, μ3, er2, h⟩ := ca2_1 h
    refine s_callS (pc := 10) (as := [vi v1, vi 4, vi v2]) (st := []) (vo := [vi r2]) (t_X6_setOf er2) d_X6_canSit_10 y_X6_setOf w_480 w_481 ⟨by decide, by decide⟩ ⟨Nat.le_of_ble_eq_true rfl, Nat.le_of_ble_eq_true rfl⟩ (Nat.le_of_ble_eq_true rfl) rfl rfl rfl ?_
    refine s_as (kc' := 0) (js' := 0) (pc' := 13) (st' := [vi r2]) ⟨rfl, rfl, rfl, rfl⟩ ?_
    refine s_istore_n (pc := 13) (lc' := [some (vr v0), some (vi v1), some (vi v2), some (vi r2)]) d_X6_canSit_13 rfl (by decide) rfl ?_
    refine s_iload_n (pc := 14) d_X6_canSit_14 rfl rfl ?_
    refine s_aload_n (pc := 15) d_X6_canSit_15 rfl rfl ?_
    obtain ⟨g4, h⟩ := gd_1 h
    refine s_getR (pc := 16) (k := 2) cl_6 d_X6_canSit_16 g4 (by decide) w_198 (rt_obj _) ?_
    obtain ⟨a5, ea5, h⟩ := bd_1 h
    refine s_topR ea5 ?_
    obtain ⟨g6, h⟩ := gd_1 h
    refine s_getI (pc := 19) (k := 2) cl_2 d_X6_canSit_19 g6 (by decide) w_31 rfl ?_
    refine s_ishr (pc := 22) d_X6_canSit_22 ?_
    refine s_if_ne (pc := 23) (tgt := 34) d_X6_canSit_23 (by decide) (fun c7 => ?_) (fun c7 => ?_)
    · have h := it_f c7 h
      refine s_iconst (pc := 34) (v := 0) d_X6_canSit_34 (by decide) ?_
      obtain rfl := Option.some.inj h
      exact s_zret0 (pc := 35) rfl d_X6_canSit_35 rfl
    · have h := it_t c7 h
      refine s_iload_n (pc := 26) d_X6_canSit_26 rfl rfl ?_
      obtain ⟨r8, μ9, er8, h⟩ := ca2_1 h
      refine s_callS (pc := 27) (as := [vi r2]) (st := []) (vo := [vi r8]) (t_J6_bitCount_0f7a4 er8) d_X6_canSit_27 y_J6_bitCount_0f7a4 w_372 w_373 ⟨by decide, by decide⟩ ⟨Nat.le_of_ble_eq_true rfl, Nat.le_of_ble_eq_true rfl⟩ (Nat.le_of_ble_eq_true rfl) rfl rfl rfl ?_
      refine s_as (kc' := 0) (js' := 0) (pc' := 30) (st' := [vi r8]) ⟨rfl, rfl, rfl, rfl⟩ ?_
      refine s_iconst (pc := 30) (v := 4) d_X6_canSit_30 (by decide) ?_
      refine s_icmp_le (pc := 31) (tgt := 36) d_X6_canSit_31 (by decide) (fun c10 => ?_) (fun c10 => ?_)
      · have h := it_t c10 h
        obtain ⟨w11, ew11, h⟩ := bd_1 h
        refine s_iinc (pc := 36) (v := w11) (lc' := [some (vr v0), some (vi v1), some (vi w11), some (vi r2)]) d_X6_canSit_36 rfl (by rw [ew11]; rfl) (by decide) rfl ?_
        refine s_goto (pc := 39) (tgt := 2) d_X6_canSit_39 (by decide) ?_
        refine s_mask [true, true, true, false] rfl ?_
        exact hk2 _ _ h
      · have h := it_f c10 h
        refine s_iconst (pc := 34) (v := 0) d_X6_canSit_34 (by decide) ?_
        obtain rfl := Option.some.inj h
        exact s_zret0 (pc := 35) rfl d_X6_canSit_35 rfl
set_option maxHeartbeats 4000000 in
set_option maxRecDepth 20000 in
theorem t_X6_canSit_h2 {l : Launch} {G : Gl} {n : Nat} {sh : Sh} {x : Int32 × Mu} {v0 : Nat} {v1 : Int32} : ∀ (f : Nat) (v2 : Int32) (μ : Mu), m_X6_canSit_h2 sh v0 v1 f v2 μ = some x → Sj l G (QI G n sh x) c_X6_canSit n sh 0 0 μ 2 [some (vr v0), some (vi v1), some (vi v2), none] [] := by
  intro f
  induction f with
  | zero =>
    intro v2 μ h
    cases h
  | succ f ih =>
    intro v2 μ h
    exact t_X6_canSit_b2 ih h
set_option maxHeartbeats 4000000 in
set_option maxRecDepth 20000 in
theorem t_X6_canSit {l : Launch} {G : Gl} {n : Nat} {sh : Sh} {x : Int32 × Mu} {v0 : Nat} {v1 : Int32} {μ : Mu} (h : m_X6_canSit sh v0 v1 μ = some x) : Ct l G ⟨"StripsOfFour", "canSit", "(I)Z"⟩ prog_1_method_38_code 4 (some .boolean) { frames := 1, cells := 0, slots := 0, locals := 23 } n sh μ [vr v0, vi v1] (some (.int x.1)) n sh x.2 := by
  refine Ct.of (lc := [some (vr v0), some (vi v1), none, none]) (by decide +kernel) (Nat.le_of_ble_eq_true rfl) rfl ?_
  show Sj l G (QI G n sh x) c_X6_canSit n sh 0 0 μ 0 [some (vr v0), some (vi v1), none, none] []
  unfold m_X6_canSit at h
  refine s_iconst (pc := 0) (v := 0) d_X6_canSit_0 (by decide) ?_
  refine s_istore_n (pc := 1) (lc' := [some (vr v0), some (vi v1), some (vi 0), none]) d_X6_canSit_1 rfl (by decide) rfl ?_
  exact t_X6_canSit_h2 FU _ _ h
/-! StripsOfFour.toSit -/
abbrev c_X6_toSit : Cf := (prog_1_method_25_code, 7, "StripsOfFour", "toSit", (some .int), { frames := 2, cells := 0, slots := 0, locals := 46 })
theorem d_X6_toSit_0 : decode prog_1_method_25_code 0 = .ok (.aload_n 0, 1) := by decide +kernel
theorem d_X6_toSit_1 : decode prog_1_method_25_code 1 = .ok (.getfield 20, 3) := by decide +kernel
theorem d_X6_toSit_4 : decode prog_1_method_25_code 4 = .ok (.iload_n 1, 1) := by decide +kernel
theorem d_X6_toSit_5 : decode prog_1_method_25_code 5 = .ok (.invokevirtual 101, 3) := by decide +kernel
theorem d_X6_toSit_8 : decode prog_1_method_25_code 8 = .ok (.ifCond .ne 5, 3) := by decide +kernel
theorem d_X6_toSit_11 : decode prog_1_method_25_code 11 = .ok (.iconst (-1), 1) := by decide +kernel
theorem d_X6_toSit_12 : decode prog_1_method_25_code 12 = .ok (.ireturn, 1) := by decide +kernel
theorem d_X6_toSit_13 : decode prog_1_method_25_code 13 = .ok (.iload_n 2, 1) := by decide +kernel
theorem d_X6_toSit_14 : decode prog_1_method_25_code 14 = .ok (.iconst 4, 1) := by decide +kernel
theorem d_X6_toSit_15 : decode prog_1_method_25_code 15 = .ok (.invokestatic 200, 3) := by decide +kernel
theorem d_X6_toSit_18 : decode prog_1_method_25_code 18 = .ok (.ifCond .eq 11, 3) := by decide +kernel
theorem d_X6_toSit_21 : decode prog_1_method_25_code 21 = .ok (.aload_n 0, 1) := by decide +kernel
theorem d_X6_toSit_22 : decode prog_1_method_25_code 22 = .ok (.iload_n 2, 1) := by decide +kernel
theorem d_X6_toSit_23 : decode prog_1_method_25_code 23 = .ok (.invokevirtual 237, 3) := by decide +kernel
theorem d_X6_toSit_26 : decode prog_1_method_25_code 26 = .ok (.ifCond .ne 6, 3) := by decide +kernel
theorem d_X6_toSit_29 : decode prog_1_method_25_code 29 = .ok (.bipush (-2), 2) := by decide +kernel
theorem d_X6_toSit_31 : decode prog_1_method_25_code 31 = .ok (.ireturn, 1) := by decide +kernel
theorem d_X6_toSit_32 : decode prog_1_method_25_code 32 = .ok (.aload_n 0, 1) := by decide +kernel
theorem d_X6_toSit_33 : decode prog_1_method_25_code 33 = .ok (.getfield 30, 3) := by decide +kernel
theorem d_X6_toSit_36 : decode prog_1_method_25_code 36 = .ok (.iload_n 1, 1) := by decide +kernel
theorem d_X6_toSit_37 : decode prog_1_method_25_code 37 = .ok (.invokevirtual 112, 3) := by decide +kernel
theorem d_X6_toSit_40 : decode prog_1_method_25_code 40 = .ok (.istore_n 3, 1) := by decide +kernel
theorem d_X6_toSit_41 : decode prog_1_method_25_code 41 = .ok (.iconst 0, 1) := by decide +kernel
theorem d_X6_toSit_42 : decode prog_1_method_25_code 42 = .ok (.istore 4, 2) := by decide +kernel
theorem d_X6_toSit_44 : decode prog_1_method_25_code 44 = .ok (.iconst 0, 1) := by decide +kernel
theorem d_X6_toSit_45 : decode prog_1_method_25_code 45 = .ok (.istore 5, 2) := by decide +kernel
theorem d_X6_toSit_47 : decode prog_1_method_25_code 47 = .ok (.iload 5, 2) := by decide +kernel
theorem d_X6_toSit_49 : decode prog_1_method_25_code 49 = .ok (.iconst 4, 1) := by decide +kernel
theorem d_X6_toSit_50 : decode prog_1_method_25_code 50 = .ok (.if_icmp .ge 33, 3) := by decide +kernel
theorem d_X6_toSit_53 : decode prog_1_method_25_code 53 = .ok (.iload_n 2, 1) := by decide +kernel
theorem d_X6_toSit_54 : decode prog_1_method_25_code 54 = .ok (.iconst 4, 1) := by decide +kernel
theorem d_X6_toSit_55 : decode prog_1_method_25_code 55 = .ok (.iload 5, 2) := by decide +kernel
theorem d_X6_toSit_57 : decode prog_1_method_25_code 57 = .ok (.invokestatic 230, 3) := by decide +kernel
theorem d_X6_toSit_60 : decode prog_1_method_25_code 60 = .ok (.istore 6, 2) := by decide +kernel
theorem d_X6_toSit_62 : decode prog_1_method_25_code 62 = .ok (.iload 4, 2) := by decide +kernel
theorem d_X6_toSit_64 : decode prog_1_method_25_code 64 = .ok (.iload_n 3, 1) := by decide +kernel
theorem d_X6_toSit_65 : decode prog_1_method_25_code 65 = .ok (.iload 6, 2) := by decide +kernel
theorem d_X6_toSit_67 : decode prog_1_method_25_code 67 = .ok (.ixor, 1) := by decide +kernel
theorem d_X6_toSit_68 : decode prog_1_method_25_code 68 = .ok (.invokestatic 169, 3) := by decide +kernel
theorem d_X6_toSit_71 : decode prog_1_method_25_code 71 = .ok (.iadd, 1) := by decide +kernel
theorem d_X6_toSit_72 : decode prog_1_method_25_code 72 = .ok (.istore 4, 2) := by decide +kernel
theorem d_X6_toSit_74 : decode prog_1_method_25_code 74 = .ok (.iload 6, 2) := by decide +kernel
theorem d_X6_toSit_76 : decode prog_1_method_25_code 76 = .ok (.istore_n 3, 1) := by decide +kernel
theorem d_X6_toSit_77 : decode prog_1_method_25_code 77 = .ok (.iinc 5 1, 3) := by decide +kernel
theorem d_X6_toSit_80 : decode prog_1_method_25_code 80 = .ok (.goto (-33), 3) := by decide +kernel
theorem d_X6_toSit_83 : decode prog_1_method_25_code 83 = .ok (.iload 4, 2) := by decide +kernel
theorem d_X6_toSit_85 : decode prog_1_method_25_code 85 = .ok (.ireturn, 1) := by decide +kernel
def m_X6_toSit_b47 (sh : Sh) (k47 : Int32 → Int32 → Int32 → Mu → Option (Int32 × Mu)) (v2 : Int32) (v3 : Int32) (v4 : Int32) (v5 : Int32) (μ : Mu) : Option (Int32 × Mu) :=
  if 4 ≤ v5 then
    some (v4, μ)
  else
    ca2 (m_X6_setOf sh v2 4 v5 μ) fun r18 μ19 =>
    ca2 (m_J6_bitCount_0f7a4 sh (v3 ^^^ r18) μ19) fun r20 μ21 =>
    bd (v4 + r20) fun w22 =>
    bd (v5 + 1) fun w23 =>
    k47 r18 w22 w23 μ21
def m_X6_toSit_h47 (sh : Sh) (v2 : Int32) : Nat → Int32 → Int32 → Int32 → Mu → Option (Int32 × Mu)
  | 0 => fun _ _ _ _ => none
  | f + 1 => fun v3 v4 v5 μ => m_X6_toSit_b47 sh (m_X6_toSit_h47 sh v2 f) v2 v3 v4 v5 μ
def m_X6_toSit (sh : Sh) (v0 : Nat) (v1 : Int32) (v2 : Int32) (μ : Mu) : Option (Int32 × Mu) :=
  gd (iz sh 6 v0) <|
  bd (gR μ v0 2) fun a2 =>
  gd (iz sh 2 a2) <|
  ca2 (m_X2_hasBooth sh a2 v1 μ) fun r4 μ5 =>
  if r4 = 0 then
    some ((-1), μ5)
  else
    ca2 (m_X6_isRow sh v2 4 μ5) fun r7 μ8 =>
    if r7 = 0 then
      some ((-2), μ8)
    else
      ca2 (m_X6_canSit sh v0 v2 μ8) fun r10 μ11 =>
      if r10 = 0 then
        some ((-2), μ11)
      else
        bd (gR μ11 v0 4) fun a13 =>
        gd (iz sh 4 a13) <|
        ca2 (m_X4_whoIsIn sh a13 v1 μ11) fun r15 μ16 =>
        m_X6_toSit_h47 sh v2 FU r15 0 0 μ16
set_option maxHeartbeats 4000000 in
set_option maxRecDepth 20000 in
theorem t_X6_toSit_b47 {l : Launch} {G : Gl} {n : Nat} {sh : Sh} {x : Int32 × Mu} {k47 : Int32 → Int32 → Int32 → Mu → Option (Int32 × Mu)} {v2 : Int32} {v3 : Int32} {v4 : Int32} {v5 : Int32} {μ : Mu} (hk47 : ∀ (v3 : Int32) (v4 : Int32) (v5 : Int32) (μ : Mu), k47 v3 v4 v5 μ = some x → Sj l G (QI G n sh x) c_X6_toSit n sh 0 0 μ 47 [none, none, some (vi v2), some (vi v3), some (vi v4), some (vi v5), none] []) (h : m_X6_toSit_b47 sh k47 v2 v3 v4 v5 μ = some x) : Sj l G (QI G n sh x) c_X6_toSit n sh 0 0 μ 47 [none, none, some (vi v2), some (vi v3), some (vi v4), some (vi v5), none] [] := by
  unfold m_X6_toSit_b47 at h
  refine s_iload (pc := 47) d_X6_toSit_47 rfl ?_
  refine s_iconst (pc := 49) (v := 4) d_X6_toSit_49 (by decide) ?_
  refine s_icmp_ge (pc := 50) (tgt := 83) d_X6_toSit_50 (by decide) (fun c17 => ?_) (fun c17 => ?_)
  · have h := it_t c17 h
    refine s_iload (pc := 83) d_X6_toSit_83 rfl ?_
    obtain rfl := Option.some.inj h
    exact s_iret (pc := 85) d_X6_toSit_85 rfl
  · have h := it_f c17 h
    refine s_iload_n (pc := 53) d_X6_toSit_53 rfl rfl ?_
    refine s_iconst (pc := 54) (v := 4) d_X6_toSit_54 (by decide) ?_
    refine s_iload (pc := 55) d_X6_toSit_55 rfl ?_
    obtain ⟨r18, μ19, er18, h⟩ := ca2_1 h
    refine s_callS (pc := 57) (as := [vi v2, vi 4, vi v5]) (st := []) (vo := [vi r18]) (t_X6_setOf er18) d_X6_toSit_57 y_X6_setOf w_480 w_481 ⟨by decide, by decide⟩ ⟨Nat.le_of_ble_eq_true rfl, Nat.le_of_ble_eq_true rfl⟩ (Nat.le_of_ble_eq_true rfl) rfl rfl rfl ?_
    refine s_as (kc' := 0) (js' := 0) (pc' := 60) (st' := [vi r18]) ⟨rfl, rfl, rfl, rfl⟩ ?_
    refine s_istore (pc := 60) (lc' := [none, none, some (vi v2), some (vi v3), some (vi v4), some (vi v5), some (vi r18)]) d_X6_toSit_60 (by decide) rfl ?_
    refine s_iload (pc := 62) d_X6_toSit_62 rfl ?_
    refine s_iload_n (pc := 64) d_X6_toSit_64 rfl rfl ?_
    refine s_iload (pc := 65) d_X6_toSit_65 rfl ?_
    refine s_ixor (pc := 67) d_X6_toSit_67 ?_
    obtain ⟨r20, μ21, er20, h⟩ := ca2_1 h
    refine s_callS (pc := 68) (as := [vi (v3 ^^^ r18)]) (st := [vi v4]) (vo := [vi r20]) (t_J6_bitCount_0f7a4 er20) d_X6_toSit_68 y_J6_bitCount_0f7a4 w_372 w_373 ⟨by decide, by decide⟩ ⟨Nat.le_of_ble_eq_true rfl, Nat.le_of_ble_eq_true rfl⟩ (Nat.le_of_ble_eq_true rfl) rfl rfl rfl ?_
    refine s_as (kc' := 0) (js' := 0) (pc' := 71) (st' := [vi r20, vi v4]) ⟨rfl, rfl, rfl, rfl⟩ ?_
    refine s_iadd (pc := 71) d_X6_toSit_71 ?_
    obtain ⟨w22, ew22, h⟩ := bd_1 h
    refine s_topI ew22 ?_
    refine s_istore (pc := 72) (lc' := [none, none, some (vi v2), some (vi v3), some (vi w22), some (vi v5), some (vi r18)]) d_X6_toSit_72 (by decide) rfl ?_
    refine s_iload (pc := 74) d_X6_toSit_74 rfl ?_
    refine s_istore_n (pc := 76) (lc' := [none, none, some (vi v2), some (vi r18), some (vi w22), some (vi v5), some (vi r18)]) d_X6_toSit_76 rfl (by decide) rfl ?_
    obtain ⟨w23, ew23, h⟩ := bd_1 h
    refine s_iinc (pc := 77) (v := w23) (lc' := [none, none, some (vi v2), some (vi r18), some (vi w22), some (vi w23), some (vi r18)]) d_X6_toSit_77 rfl (by rw [ew23]; rfl) (by decide) rfl ?_
    refine s_goto (pc := 80) (tgt := 47) d_X6_toSit_80 (by decide) ?_
    refine s_mask [true, true, true, true, true, true, false] rfl ?_
    exact hk47 _ _ _ _ h
set_option maxHeartbeats 4000000 in
set_option maxRecDepth 20000 in
theorem t_X6_toSit_h47 {l : Launch} {G : Gl} {n : Nat} {sh : Sh} {x : Int32 × Mu} {v2 : Int32} : ∀ (f : Nat) (v3 : Int32) (v4 : Int32) (v5 : Int32) (μ : Mu), m_X6_toSit_h47 sh v2 f v3 v4 v5 μ = some x → Sj l G (QI G n sh x) c_X6_toSit n sh 0 0 μ 47 [none, none, some (vi v2), some (vi v3), some (vi v4), some (vi v5), none] [] := by
  intro f
  induction f with
  | zero =>
    intro v3 v4 v5 μ h
    cases h
  | succ f ih =>
    intro v3 v4 v5 μ h
    exact t_X6_toSit_b47 ih h
set_option maxHeartbeats 4000000 in
set_option maxRecDepth 20000 in
theorem t_X6_toSit {l : Launch} {G : Gl} {n : Nat} {sh : Sh} {x : Int32 × Mu} {v0 : Nat} {v1 : Int32} {v2 : Int32} {μ : Mu} (h : m_X6_toSit sh v0 v1 v2 μ = some x) : Ct l G ⟨"StripsOfFour", "toSit", "(II)I"⟩ prog_1_method_25_code 7 (some .int) { frames := 2, cells := 0, slots := 0, locals := 46 } n sh μ [vr v0, vi v1, vi v2] (some (.int x.1)) n sh x.2 := by
  refine Ct.of (lc := [some (vr v0), some (vi v1), some (vi v2), none, none, none, none]) (by decide +kernel) (Nat.le_of_ble_eq_true rfl) rfl ?_
  show Sj l G (QI G n sh x) c_X6_toSit n sh 0 0 μ 0 [some (vr v0), some (vi v1), some (vi v2), none, none, none, none] []
  unfold m_X6_toSit at h
  refine s_aload_n (pc := 0) d_X6_toSit_0 rfl rfl ?_
  obtain ⟨g1, h⟩ := gd_1 h
  refine s_getR (pc := 1) (k := 2) cl_6 d_X6_toSit_1 g1 (by decide) w_198 (rt_obj _) ?_
  obtain ⟨a2, ea2, h⟩ := bd_1 h
  refine s_topR ea2 ?_
  refine s_iload_n (pc := 4) d_X6_toSit_4 rfl rfl ?_
  obtain ⟨g3, h⟩ := gd_1 h
  obtain ⟨r4, μ5, er4, h⟩ := ca2_1 h
  refine s_callV (pc := 5) (as := [vi v1]) (st := []) (vo := [vi r4]) (t_X2_hasBooth er4) cl_2 g3 d_X6_toSit_5 y_X2_hasBooth w_284 w_256 w_257 ⟨by decide, by decide⟩ ⟨Nat.le_of_ble_eq_true rfl, Nat.le_of_ble_eq_true rfl⟩ (Nat.le_of_ble_eq_true rfl) rfl rfl rfl ?_
  refine s_as (kc' := 0) (js' := 0) (pc' := 8) (st' := [vi r4]) ⟨rfl, rfl, rfl, rfl⟩ ?_
  refine s_if_ne (pc := 8) (tgt := 13) d_X6_toSit_8 (by decide) (fun c6 => ?_) (fun c6 => ?_)
  · have h := it_f c6 h
    refine s_iload_n (pc := 13) d_X6_toSit_13 rfl rfl ?_
    refine s_iconst (pc := 14) (v := 4) d_X6_toSit_14 (by decide) ?_
    obtain ⟨r7, μ8, er7, h⟩ := ca2_1 h
    refine s_callS (pc := 15) (as := [vi v2, vi 4]) (st := []) (vo := [vi r7]) (t_X6_isRow er7) d_X6_toSit_15 y_X6_isRow w_475 w_476 ⟨by decide, by decide⟩ ⟨Nat.le_of_ble_eq_true rfl, Nat.le_of_ble_eq_true rfl⟩ (Nat.le_of_ble_eq_true rfl) rfl rfl rfl ?_
    refine s_as (kc' := 0) (js' := 0) (pc' := 18) (st' := [vi r7]) ⟨rfl, rfl, rfl, rfl⟩ ?_
    refine s_if_eq (pc := 18) (tgt := 29) d_X6_toSit_18 (by decide) (fun c9 => ?_) (fun c9 => ?_)
    · have h := it_t c9 h
      refine s_bipush (pc := 29) (v := (-2)) d_X6_toSit_29 (by decide) ?_
      obtain rfl := Option.some.inj h
      exact s_iret (pc := 31) d_X6_toSit_31 rfl
    · have h := it_f c9 h
      refine s_aload_n (pc := 21) d_X6_toSit_21 rfl rfl ?_
      refine s_iload_n (pc := 22) d_X6_toSit_22 rfl rfl ?_
      obtain ⟨r10, μ11, er10, h⟩ := ca2_1 h
      refine s_callV (pc := 23) (as := [vi v2]) (st := []) (vo := [vi r10]) (t_X6_canSit er10) cl_6 g1 d_X6_toSit_23 y_X6_canSit w_588 w_590 w_s8 ⟨by decide, by decide⟩ ⟨Nat.le_of_ble_eq_true rfl, Nat.le_of_ble_eq_true rfl⟩ (Nat.le_of_ble_eq_true rfl) rfl rfl rfl ?_
      refine s_as (kc' := 0) (js' := 0) (pc' := 26) (st' := [vi r10]) ⟨rfl, rfl, rfl, rfl⟩ ?_
      refine s_if_ne (pc := 26) (tgt := 32) d_X6_toSit_26 (by decide) (fun c12 => ?_) (fun c12 => ?_)
      · have h := it_f c12 h
        refine s_aload_n (pc := 32) d_X6_toSit_32 rfl rfl ?_
        refine s_getR (pc := 33) (k := 4) cl_6 d_X6_toSit_33 g1 (by decide) w_200 (rt_obj _) ?_
        obtain ⟨a13, ea13, h⟩ := bd_1 h
        refine s_topR ea13 ?_
        refine s_iload_n (pc := 36) d_X6_toSit_36 rfl rfl ?_
        obtain ⟨g14, h⟩ := gd_1 h
        obtain ⟨r15, μ16, er15, h⟩ := ca2_1 h
        refine s_callV (pc := 37) (as := [vi v1]) (st := []) (vo := [vi r15]) (t_X4_whoIsIn er15) cl_4 g14 d_X6_toSit_37 y_X4_whoIsIn w_296 w_297 w_298 ⟨by decide, by decide⟩ ⟨Nat.le_of_ble_eq_true rfl, Nat.le_of_ble_eq_true rfl⟩ (Nat.le_of_ble_eq_true rfl) rfl rfl rfl ?_
        refine s_as (kc' := 0) (js' := 0) (pc' := 40) (st' := [vi r15]) ⟨rfl, rfl, rfl, rfl⟩ ?_
        refine s_istore_n (pc := 40) (lc' := [some (vr v0), some (vi v1), some (vi v2), some (vi r15), none, none, none]) d_X6_toSit_40 rfl (by decide) rfl ?_
        refine s_iconst (pc := 41) (v := 0) d_X6_toSit_41 (by decide) ?_
        refine s_istore (pc := 42) (lc' := [some (vr v0), some (vi v1), some (vi v2), some (vi r15), some (vi 0), none, none]) d_X6_toSit_42 (by decide) rfl ?_
        refine s_iconst (pc := 44) (v := 0) d_X6_toSit_44 (by decide) ?_
        refine s_istore (pc := 45) (lc' := [some (vr v0), some (vi v1), some (vi v2), some (vi r15), some (vi 0), some (vi 0), none]) d_X6_toSit_45 (by decide) rfl ?_
        refine s_mask [false, false, true, true, true, true, true] rfl ?_
        exact t_X6_toSit_h47 FU _ _ _ _ h
      · have h := it_t c12 h
        refine s_bipush (pc := 29) (v := (-2)) d_X6_toSit_29 (by decide) ?_
        obtain rfl := Option.some.inj h
        exact s_iret (pc := 31) d_X6_toSit_31 rfl
  · have h := it_t c6 h
    refine s_iconst (pc := 11) (v := (-1)) d_X6_toSit_11 (by decide) ?_
    obtain rfl := Option.some.inj h
    exact s_iret (pc := 12) d_X6_toSit_12 rfl
/-! StripsOfFour.together -/
abbrev c_X6_together : Cf := (prog_1_method_21_code, 2, "StripsOfFour", "together", (some .int), { frames := 3, cells := 0, slots := 0, locals := 69 })
theorem d_X6_together_0 : decode prog_1_method_21_code 0 = .ok (.iload_n 1, 1) := by decide +kernel
theorem d_X6_together_1 : decode prog_1_method_21_code 1 = .ok (.ifCond .eq 11, 3) := by decide +kernel
theorem d_X6_together_4 : decode prog_1_method_21_code 4 = .ok (.iload_n 1, 1) := by decide +kernel
theorem d_X6_together_5 : decode prog_1_method_21_code 5 = .ok (.iconst 1, 1) := by decide +kernel
theorem d_X6_together_6 : decode prog_1_method_21_code 6 = .ok (.if_icmp .eq 6, 3) := by decide +kernel
theorem d_X6_together_9 : decode prog_1_method_21_code 9 = .ok (.bipush (-2), 2) := by decide +kernel
theorem d_X6_together_11 : decode prog_1_method_21_code 11 = .ok (.ireturn, 1) := by decide +kernel
theorem d_X6_together_12 : decode prog_1_method_21_code 12 = .ok (.aload_n 0, 1) := by decide +kernel
theorem d_X6_together_13 : decode prog_1_method_21_code 13 = .ok (.getfield 52, 3) := by decide +kernel
theorem d_X6_together_16 : decode prog_1_method_21_code 16 = .ok (.aload_n 0, 1) := by decide +kernel
theorem d_X6_together_17 : decode prog_1_method_21_code 17 = .ok (.getfield 30, 3) := by decide +kernel
theorem d_X6_together_20 : decode prog_1_method_21_code 20 = .ok (.invokevirtual 211, 3) := by decide +kernel
theorem d_X6_together_23 : decode prog_1_method_21_code 23 = .ok (.iload_n 1, 1) := by decide +kernel
theorem d_X6_together_24 : decode prog_1_method_21_code 24 = .ok (.ifCond .ne 13, 3) := by decide +kernel
theorem d_X6_together_27 : decode prog_1_method_21_code 27 = .ok (.aload_n 0, 1) := by decide +kernel
theorem d_X6_together_28 : decode prog_1_method_21_code 28 = .ok (.getfield 52, 3) := by decide +kernel
theorem d_X6_together_31 : decode prog_1_method_21_code 31 = .ok (.invokevirtual 214, 3) := by decide +kernel
theorem d_X6_together_34 : decode prog_1_method_21_code 34 = .ok (.goto 10, 3) := by decide +kernel
theorem d_X6_together_37 : decode prog_1_method_21_code 37 = .ok (.aload_n 0, 1) := by decide +kernel
theorem d_X6_together_38 : decode prog_1_method_21_code 38 = .ok (.getfield 52, 3) := by decide +kernel
theorem d_X6_together_41 : decode prog_1_method_21_code 41 = .ok (.invokevirtual 217, 3) := by decide +kernel
theorem d_X6_together_44 : decode prog_1_method_21_code 44 = .ok (.ireturn, 1) := by decide +kernel
def m_X6_together_b12 (sh : Sh) (v0 : Nat) (v1 : Int32) (μ : Mu) : Option (Int32 × Mu) :=
  gd (iz sh 6 v0) <|
  bd (gR μ v0 8) fun a4 =>
  bd (gR μ v0 4) fun a5 =>
  gd (iz sh 0 a4) <|
  ca (m_X0_gather sh a4 a5 μ) fun μ7 =>
  if v1 = 0 then
    bd (gR μ7 v0 8) fun a13 =>
    gd (iz sh 0 a13) <|
    ca2 (m_X0_putTogetherAtMost sh a13 μ7) fun r15 μ16 =>
    some (r15, μ16)
  else
    bd (gR μ7 v0 8) fun a9 =>
    gd (iz sh 0 a9) <|
    ca2 (m_X0_waysForAll sh a9 μ7) fun r11 μ12 =>
    some (r11, μ12)
def m_X6_together (sh : Sh) (v0 : Nat) (v1 : Int32) (μ : Mu) : Option (Int32 × Mu) :=
  if v1 = 0 then
    m_X6_together_b12 sh v0 v1 μ
  else
    if v1 = 1 then
      m_X6_together_b12 sh v0 v1 μ
    else
      some ((-2), μ)
set_option maxHeartbeats 4000000 in
set_option maxRecDepth 20000 in
theorem t_X6_together_b12 {l : Launch} {G : Gl} {n : Nat} {sh : Sh} {x : Int32 × Mu} {v0 : Nat} {v1 : Int32} {μ : Mu} (h : m_X6_together_b12 sh v0 v1 μ = some x) : Sj l G (QI G n sh x) c_X6_together n sh 0 0 μ 12 [some (vr v0), some (vi v1)] [] := by
  unfold m_X6_together_b12 at h
  refine s_aload_n (pc := 12) d_X6_together_12 rfl rfl ?_
  obtain ⟨g3, h⟩ := gd_1 h
  refine s_getR (pc := 13) (k := 8) cl_6 d_X6_together_13 g3 (by decide) w_204 (rt_obj _) ?_
  obtain ⟨a4, ea4, h⟩ := bd_1 h
  refine s_topR ea4 ?_
  refine s_aload_n (pc := 16) d_X6_together_16 rfl rfl ?_
  refine s_getR (pc := 17) (k := 4) cl_6 d_X6_together_17 g3 (by decide) w_200 (rt_obj _) ?_
  obtain ⟨a5, ea5, h⟩ := bd_1 h
  refine s_topR ea5 ?_
  obtain ⟨g6, h⟩ := gd_1 h
  obtain ⟨μ7, eμ7, h⟩ := ca_1 h
  refine s_callV (pc := 20) (as := [vr a5]) (st := []) (vo := []) (t_X0_gather eμ7) cl_0 g6 d_X6_together_20 y_X0_gather w_494 w_495 w_496 ⟨by decide, by decide⟩ ⟨Nat.le_of_ble_eq_true rfl, Nat.le_of_ble_eq_true rfl⟩ (Nat.le_of_ble_eq_true rfl) rfl rfl rfl ?_
  refine s_as (kc' := 0) (js' := 0) (pc' := 23) (st' := []) ⟨rfl, rfl, rfl, rfl⟩ ?_
  refine s_iload_n (pc := 23) d_X6_together_23 rfl rfl ?_
  refine s_if_ne (pc := 24) (tgt := 37) d_X6_together_24 (by decide) (fun c8 => ?_) (fun c8 => ?_)
  · have h := it_f c8 h
    refine s_aload_n (pc := 37) d_X6_together_37 rfl rfl ?_
    refine s_getR (pc := 38) (k := 8) cl_6 d_X6_together_38 g3 (by decide) w_204 (rt_obj _) ?_
    obtain ⟨a9, ea9, h⟩ := bd_1 h
    refine s_topR ea9 ?_
    obtain ⟨g10, h⟩ := gd_1 h
    obtain ⟨r11, μ12, er11, h⟩ := ca2_1 h
    refine s_callV (pc := 41) (as := []) (st := []) (vo := [vi r11]) (t_X0_waysForAll er11) cl_0 g10 d_X6_together_41 y_X0_waysForAll w_520 w_521 w_522 ⟨by decide, by decide⟩ ⟨Nat.le_of_ble_eq_true rfl, Nat.le_of_ble_eq_true rfl⟩ (Nat.le_of_ble_eq_true rfl) rfl rfl rfl ?_
    refine s_as (kc' := 0) (js' := 0) (pc' := 44) (st' := [vi r11]) ⟨rfl, rfl, rfl, rfl⟩ ?_
    obtain rfl := Option.some.inj h
    exact s_iret (pc := 44) d_X6_together_44 rfl
  · have h := it_t c8 h
    refine s_aload_n (pc := 27) d_X6_together_27 rfl rfl ?_
    refine s_getR (pc := 28) (k := 8) cl_6 d_X6_together_28 g3 (by decide) w_204 (rt_obj _) ?_
    obtain ⟨a13, ea13, h⟩ := bd_1 h
    refine s_topR ea13 ?_
    obtain ⟨g14, h⟩ := gd_1 h
    obtain ⟨r15, μ16, er15, h⟩ := ca2_1 h
    refine s_callV (pc := 31) (as := []) (st := []) (vo := [vi r15]) (t_X0_putTogetherAtMost er15) cl_0 g14 d_X6_together_31 y_X0_putTogetherAtMost w_506 w_507 w_508 ⟨by decide, by decide⟩ ⟨Nat.le_of_ble_eq_true rfl, Nat.le_of_ble_eq_true rfl⟩ (Nat.le_of_ble_eq_true rfl) rfl rfl rfl ?_
    refine s_as (kc' := 0) (js' := 0) (pc' := 34) (st' := [vi r15]) ⟨rfl, rfl, rfl, rfl⟩ ?_
    refine s_goto (pc := 34) (tgt := 44) d_X6_together_34 (by decide) ?_
    obtain rfl := Option.some.inj h
    exact s_iret (pc := 44) d_X6_together_44 rfl
set_option maxHeartbeats 4000000 in
set_option maxRecDepth 20000 in
theorem t_X6_together {l : Launch} {G : Gl} {n : Nat} {sh : Sh} {x : Int32 × Mu} {v0 : Nat} {v1 : Int32} {μ : Mu} (h : m_X6_together sh v0 v1 μ = some x) : Ct l G ⟨"StripsOfFour", "together", "(I)I"⟩ prog_1_method_21_code 2 (some .int) { frames := 3, cells := 0, slots := 0, locals := 69 } n sh μ [vr v0, vi v1] (some (.int x.1)) n sh x.2 := by
  refine Ct.of (lc := [some (vr v0), some (vi v1)]) (by decide +kernel) (Nat.le_of_ble_eq_true rfl) rfl ?_
  show Sj l G (QI G n sh x) c_X6_together n sh 0 0 μ 0 [some (vr v0), some (vi v1)] []
  unfold m_X6_together at h
  refine s_iload_n (pc := 0) d_X6_together_0 rfl rfl ?_
  refine s_if_eq (pc := 1) (tgt := 12) d_X6_together_1 (by decide) (fun c1 => ?_) (fun c1 => ?_)
  · have h := it_t c1 h
    exact t_X6_together_b12 h
  · have h := it_f c1 h
    refine s_iload_n (pc := 4) d_X6_together_4 rfl rfl ?_
    refine s_iconst (pc := 5) (v := 1) d_X6_together_5 (by decide) ?_
    refine s_icmp_eq (pc := 6) (tgt := 12) d_X6_together_6 (by decide) (fun c2 => ?_) (fun c2 => ?_)
    · have h := it_t c2 h
      exact t_X6_together_b12 h
    · have h := it_f c2 h
      refine s_bipush (pc := 9) (v := (-2)) d_X6_together_9 (by decide) ?_
      obtain rfl := Option.some.inj h
      exact s_iret (pc := 11) d_X6_together_11 rfl
/-! StripsOfFour.undo -/
abbrev c_X6_undo : Cf := (prog_1_method_19_code, 1, "StripsOfFour", "undo", (some .int), { frames := 4, cells := 0, slots := 0, locals := 132 })
theorem d_X6_undo_0 : decode prog_1_method_19_code 0 = .ok (.aload_n 0, 1) := by decide +kernel
theorem d_X6_undo_1 : decode prog_1_method_19_code 1 = .ok (.getfield 37, 3) := by decide +kernel
theorem d_X6_undo_4 : decode prog_1_method_19_code 4 = .ok (.aload_n 0, 1) := by decide +kernel
theorem d_X6_undo_5 : decode prog_1_method_19_code 5 = .ok (.getfield 30, 3) := by decide +kernel
theorem d_X6_undo_8 : decode prog_1_method_19_code 8 = .ok (.invokevirtual 196, 3) := by decide +kernel
theorem d_X6_undo_11 : decode prog_1_method_19_code 11 = .ok (.ifCond .eq 13, 3) := by decide +kernel
theorem d_X6_undo_14 : decode prog_1_method_19_code 14 = .ok (.aload_n 0, 1) := by decide +kernel
theorem d_X6_undo_15 : decode prog_1_method_19_code 15 = .ok (.getfield 37, 3) := by decide +kernel
theorem d_X6_undo_18 : decode prog_1_method_19_code 18 = .ok (.getfield 94, 3) := by decide +kernel
theorem d_X6_undo_21 : decode prog_1_method_19_code 21 = .ok (.goto 5, 3) := by decide +kernel
theorem d_X6_undo_24 : decode prog_1_method_19_code 24 = .ok (.bipush (-3), 2) := by decide +kernel
theorem d_X6_undo_26 : decode prog_1_method_19_code 26 = .ok (.ireturn, 1) := by decide +kernel
def m_X6_undo (sh : Sh) (v0 : Nat) (μ : Mu) : Option (Int32 × Mu) :=
  gd (iz sh 6 v0) <|
  bd (gR μ v0 5) fun a2 =>
  bd (gR μ v0 4) fun a3 =>
  gd (iz sh 1 a2) <|
  ca2 (m_X1_takeBack sh a2 a3 μ) fun r5 μ6 =>
  if r5 = 0 then
    some ((-3), μ6)
  else
    bd (gR μ6 v0 5) fun a8 =>
    gd (iz sh 1 a8) <|
    some (gI μ6 a8 0, μ6)
set_option maxHeartbeats 4000000 in
set_option maxRecDepth 20000 in
theorem t_X6_undo {l : Launch} {G : Gl} {n : Nat} {sh : Sh} {x : Int32 × Mu} {v0 : Nat} {μ : Mu} (h : m_X6_undo sh v0 μ = some x) : Ct l G ⟨"StripsOfFour", "undo", "()I"⟩ prog_1_method_19_code 1 (some .int) { frames := 4, cells := 0, slots := 0, locals := 132 } n sh μ [vr v0] (some (.int x.1)) n sh x.2 := by
  refine Ct.of (lc := [some (vr v0)]) (by decide +kernel) (Nat.le_of_ble_eq_true rfl) rfl ?_
  show Sj l G (QI G n sh x) c_X6_undo n sh 0 0 μ 0 [some (vr v0)] []
  unfold m_X6_undo at h
  refine s_aload_n (pc := 0) d_X6_undo_0 rfl rfl ?_
  obtain ⟨g1, h⟩ := gd_1 h
  refine s_getR (pc := 1) (k := 5) cl_6 d_X6_undo_1 g1 (by decide) w_201 (rt_obj _) ?_
  obtain ⟨a2, ea2, h⟩ := bd_1 h
  refine s_topR ea2 ?_
  refine s_aload_n (pc := 4) d_X6_undo_4 rfl rfl ?_
  refine s_getR (pc := 5) (k := 4) cl_6 d_X6_undo_5 g1 (by decide) w_200 (rt_obj _) ?_
  obtain ⟨a3, ea3, h⟩ := bd_1 h
  refine s_topR ea3 ?_
  obtain ⟨g4, h⟩ := gd_1 h
  obtain ⟨r5, μ6, er5, h⟩ := ca2_1 h
  refine s_callV (pc := 8) (as := [vr a3]) (st := []) (vo := [vi r5]) (t_X1_takeBack er5) cl_1 g4 d_X6_undo_8 y_X1_takeBack w_467 w_468 w_469 ⟨by decide, by decide⟩ ⟨Nat.le_of_ble_eq_true rfl, Nat.le_of_ble_eq_true rfl⟩ (Nat.le_of_ble_eq_true rfl) rfl rfl rfl ?_
  refine s_as (kc' := 0) (js' := 0) (pc' := 11) (st' := [vi r5]) ⟨rfl, rfl, rfl, rfl⟩ ?_
  refine s_if_eq (pc := 11) (tgt := 24) d_X6_undo_11 (by decide) (fun c7 => ?_) (fun c7 => ?_)
  · have h := it_t c7 h
    refine s_bipush (pc := 24) (v := (-3)) d_X6_undo_24 (by decide) ?_
    obtain rfl := Option.some.inj h
    exact s_iret (pc := 26) d_X6_undo_26 rfl
  · have h := it_f c7 h
    refine s_aload_n (pc := 14) d_X6_undo_14 rfl rfl ?_
    refine s_getR (pc := 15) (k := 5) cl_6 d_X6_undo_15 g1 (by decide) w_201 (rt_obj _) ?_
    obtain ⟨a8, ea8, h⟩ := bd_1 h
    refine s_topR ea8 ?_
    obtain ⟨g9, h⟩ := gd_1 h
    refine s_getI (pc := 18) (k := 0) cl_1 d_X6_undo_18 g9 (by decide) w_144 rfl ?_
    refine s_goto (pc := 21) (tgt := 26) d_X6_undo_21 (by decide) ?_
    obtain rfl := Option.some.inj h
    exact s_iret (pc := 26) d_X6_undo_26 rfl
/-! StripsOfFour.whose -/
abbrev c_X6_whose : Cf := (prog_1_method_29_code, 8, "StripsOfFour", "whose", (some .long), { frames := 3, cells := 0, slots := 0, locals := 68 })
theorem d_X6_whose_0 : decode prog_1_method_29_code 0 = .ok (.aload_n 0, 1) := by decide +kernel
theorem d_X6_whose_1 : decode prog_1_method_29_code 1 = .ok (.getfield 20, 3) := by decide +kernel
theorem d_X6_whose_4 : decode prog_1_method_29_code 4 = .ok (.iload_n 1, 1) := by decide +kernel
theorem d_X6_whose_5 : decode prog_1_method_29_code 5 = .ok (.invokevirtual 122, 3) := by decide +kernel
theorem d_X6_whose_8 : decode prog_1_method_29_code 8 = .ok (.ifCond .ne 7, 3) := by decide +kernel
theorem d_X6_whose_11 : decode prog_1_method_29_code 11 = .ok (.ldc2_w 255, 3) := by decide +kernel
theorem d_X6_whose_14 : decode prog_1_method_29_code 14 = .ok (.lreturn, 1) := by decide +kernel
theorem d_X6_whose_15 : decode prog_1_method_29_code 15 = .ok (.iload_n 2, 1) := by decide +kernel
theorem d_X6_whose_16 : decode prog_1_method_29_code 16 = .ok (.iconst 1, 1) := by decide +kernel
theorem d_X6_whose_17 : decode prog_1_method_29_code 17 = .ok (.if_icmp .lt 18, 3) := by decide +kernel
theorem d_X6_whose_20 : decode prog_1_method_29_code 20 = .ok (.iload_n 2, 1) := by decide +kernel
theorem d_X6_whose_21 : decode prog_1_method_29_code 21 = .ok (.bipush 8, 2) := by decide +kernel
theorem d_X6_whose_23 : decode prog_1_method_29_code 23 = .ok (.if_icmp .gt 12, 3) := by decide +kernel
theorem d_X6_whose_26 : decode prog_1_method_29_code 26 = .ok (.iload_n 3, 1) := by decide +kernel
theorem d_X6_whose_27 : decode prog_1_method_29_code 27 = .ok (.ifCond .lt 8, 3) := by decide +kernel
theorem d_X6_whose_30 : decode prog_1_method_29_code 30 = .ok (.iload_n 3, 1) := by decide +kernel
theorem d_X6_whose_31 : decode prog_1_method_29_code 31 = .ok (.iload_n 2, 1) := by decide +kernel
theorem d_X6_whose_32 : decode prog_1_method_29_code 32 = .ok (.if_icmp .le 7, 3) := by decide +kernel
theorem d_X6_whose_35 : decode prog_1_method_29_code 35 = .ok (.ldc2_w 257, 3) := by decide +kernel
theorem d_X6_whose_38 : decode prog_1_method_29_code 38 = .ok (.lreturn, 1) := by decide +kernel
theorem d_X6_whose_39 : decode prog_1_method_29_code 39 = .ok (.lconst 0, 1) := by decide +kernel
theorem d_X6_whose_40 : decode prog_1_method_29_code 40 = .ok (.lstore 5, 2) := by decide +kernel
theorem d_X6_whose_42 : decode prog_1_method_29_code 42 = .ok (.iconst 0, 1) := by decide +kernel
theorem d_X6_whose_43 : decode prog_1_method_29_code 43 = .ok (.istore 7, 2) := by decide +kernel
theorem d_X6_whose_45 : decode prog_1_method_29_code 45 = .ok (.iload 7, 2) := by decide +kernel
theorem d_X6_whose_47 : decode prog_1_method_29_code 47 = .ok (.aload_n 0, 1) := by decide +kernel
theorem d_X6_whose_48 : decode prog_1_method_29_code 48 = .ok (.getfield 20, 3) := by decide +kernel
theorem d_X6_whose_51 : decode prog_1_method_29_code 51 = .ok (.getfield 76, 3) := by decide +kernel
theorem d_X6_whose_54 : decode prog_1_method_29_code 54 = .ok (.if_icmp .ge 25, 3) := by decide +kernel
theorem d_X6_whose_57 : decode prog_1_method_29_code 57 = .ok (.lload 5, 2) := by decide +kernel
theorem d_X6_whose_59 : decode prog_1_method_29_code 59 = .ok (.aload_n 0, 1) := by decide +kernel
theorem d_X6_whose_60 : decode prog_1_method_29_code 60 = .ok (.getfield 20, 3) := by decide +kernel
theorem d_X6_whose_63 : decode prog_1_method_29_code 63 = .ok (.iload 7, 2) := by decide +kernel
theorem d_X6_whose_65 : decode prog_1_method_29_code 65 = .ok (.iload_n 2, 1) := by decide +kernel
theorem d_X6_whose_66 : decode prog_1_method_29_code 66 = .ok (.iload_n 3, 1) := by decide +kernel
theorem d_X6_whose_67 : decode prog_1_method_29_code 67 = .ok (.invokevirtual 259, 3) := by decide +kernel
theorem d_X6_whose_70 : decode prog_1_method_29_code 70 = .ok (.ladd, 1) := by decide +kernel
theorem d_X6_whose_71 : decode prog_1_method_29_code 71 = .ok (.lstore 5, 2) := by decide +kernel
theorem d_X6_whose_73 : decode prog_1_method_29_code 73 = .ok (.iinc 7 1, 3) := by decide +kernel
theorem d_X6_whose_76 : decode prog_1_method_29_code 76 = .ok (.goto (-31), 3) := by decide +kernel
theorem d_X6_whose_79 : decode prog_1_method_29_code 79 = .ok (.lload 5, 2) := by decide +kernel
theorem d_X6_whose_81 : decode prog_1_method_29_code 81 = .ok (.lconst 0, 1) := by decide +kernel
theorem d_X6_whose_82 : decode prog_1_method_29_code 82 = .ok (.lcmp, 1) := by decide +kernel
theorem d_X6_whose_83 : decode prog_1_method_29_code 83 = .ok (.ifCond .ne 7, 3) := by decide +kernel
theorem d_X6_whose_86 : decode prog_1_method_29_code 86 = .ok (.ldc2_w 263, 3) := by decide +kernel
theorem d_X6_whose_89 : decode prog_1_method_29_code 89 = .ok (.lreturn, 1) := by decide +kernel
theorem d_X6_whose_90 : decode prog_1_method_29_code 90 = .ok (.aload_n 0, 1) := by decide +kernel
theorem d_X6_whose_91 : decode prog_1_method_29_code 91 = .ok (.getfield 20, 3) := by decide +kernel
theorem d_X6_whose_94 : decode prog_1_method_29_code 94 = .ok (.iload_n 1, 1) := by decide +kernel
theorem d_X6_whose_95 : decode prog_1_method_29_code 95 = .ok (.iload_n 2, 1) := by decide +kernel
theorem d_X6_whose_96 : decode prog_1_method_29_code 96 = .ok (.iload_n 3, 1) := by decide +kernel
theorem d_X6_whose_97 : decode prog_1_method_29_code 97 = .ok (.invokevirtual 259, 3) := by decide +kernel
theorem d_X6_whose_100 : decode prog_1_method_29_code 100 = .ok (.lload 5, 2) := by decide +kernel
theorem d_X6_whose_102 : decode prog_1_method_29_code 102 = .ok (.iload 4, 2) := by decide +kernel
theorem d_X6_whose_104 : decode prog_1_method_29_code 104 = .ok (.invokestatic 265, 3) := by decide +kernel
theorem d_X6_whose_107 : decode prog_1_method_29_code 107 = .ok (.lreturn, 1) := by decide +kernel
def m_X6_whose_b79 (sh : Sh) (v0 : Nat) (v1 : Int32) (v2 : Int32) (v3 : Int32) (v4 : Int32) (v5 : Int64) (μ : Mu) : Option (Int64 × Mu) :=
  if (lg_cmp v5 0) = 0 then
    some ((-3), μ)
  else
    gd (iz sh 6 v0) <|
    bd (gR μ v0 2) fun a23 =>
    gd (iz sh 2 a23) <|
    ca2 (m_X2_blinkWeight sh a23 v1 v2 v3 μ) fun r25 μ26 =>
    ca2 (m_X6_inLeastTerms sh r25 v5 v4 μ26) fun r27 μ28 =>
    some (r27, μ28)
def m_X6_whose_b45 (sh : Sh) (k45 : Int64 → Int32 → Mu → Option (Int64 × Mu)) (v0 : Nat) (v1 : Int32) (v2 : Int32) (v3 : Int32) (v4 : Int32) (v5 : Int64) (v7 : Int32) (μ : Mu) : Option (Int64 × Mu) :=
  gd (iz sh 6 v0) <|
  bd (gR μ v0 2) fun a12 =>
  gd (iz sh 2 a12) <|
  if (gI μ a12 2) ≤ v7 then
    m_X6_whose_b79 sh v0 v1 v2 v3 v4 v5 μ
  else
    bd (gR μ v0 2) fun a15 =>
    gd (iz sh 2 a15) <|
    ca2 (m_X2_blinkWeight sh a15 v7 v2 v3 μ) fun r17 μ18 =>
    bd (v5 + r17) fun w19 =>
    bd (v7 + 1) fun w20 =>
    k45 w19 w20 μ18
def m_X6_whose_h45 (sh : Sh) (v0 : Nat) (v1 : Int32) (v2 : Int32) (v3 : Int32) (v4 : Int32) : Nat → Int64 → Int32 → Mu → Option (Int64 × Mu)
  | 0 => fun _ _ _ => none
  | f + 1 => fun v5 v7 μ => m_X6_whose_b45 sh (m_X6_whose_h45 sh v0 v1 v2 v3 v4 f) v0 v1 v2 v3 v4 v5 v7 μ
def m_X6_whose (sh : Sh) (v0 : Nat) (v1 : Int32) (v2 : Int32) (v3 : Int32) (v4 : Int32) (μ : Mu) : Option (Int64 × Mu) :=
  gd (iz sh 6 v0) <|
  bd (gR μ v0 2) fun a2 =>
  gd (iz sh 2 a2) <|
  ca2 (m_X2_hasPerson sh a2 v1 μ) fun r4 μ5 =>
  if r4 = 0 then
    some ((-1), μ5)
  else
    if v2 < 1 then
      some ((-2), μ5)
    else
      if 8 < v2 then
        some ((-2), μ5)
      else
        if v3 < 0 then
          some ((-2), μ5)
        else
          if v3 ≤ v2 then
            m_X6_whose_h45 sh v0 v1 v2 v3 v4 FU 0 0 μ5
          else
            some ((-2), μ5)
set_option maxHeartbeats 4000000 in
set_option maxRecDepth 20000 in
theorem t_X6_whose_b79 {l : Launch} {G : Gl} {n : Nat} {sh : Sh} {x : Int64 × Mu} {v0 : Nat} {v1 : Int32} {v2 : Int32} {v3 : Int32} {v4 : Int32} {v5 : Int64} {μ : Mu} (h : m_X6_whose_b79 sh v0 v1 v2 v3 v4 v5 μ = some x) : Sj l G (QJ G n sh x) c_X6_whose n sh 0 0 μ 79 [some (vr v0), some (vi v1), some (vi v2), some (vi v3), some (vi v4), some (vl v5), none, none] [] := by
  unfold m_X6_whose_b79 at h
  refine s_lload (pc := 79) d_X6_whose_79 rfl ?_
  refine s_lconst (pc := 81) (v := 0) d_X6_whose_81 (by decide) ?_
  refine s_lcmp (pc := 82) d_X6_whose_82 ?_
  refine s_if_ne (pc := 83) (tgt := 90) d_X6_whose_83 (by decide) (fun c21 => ?_) (fun c21 => ?_)
  · have h := it_f c21 h
    refine s_aload_n (pc := 90) d_X6_whose_90 rfl rfl ?_
    obtain ⟨g22, h⟩ := gd_1 h
    refine s_getR (pc := 91) (k := 2) cl_6 d_X6_whose_91 g22 (by decide) w_198 (rt_obj _) ?_
    obtain ⟨a23, ea23, h⟩ := bd_1 h
    refine s_topR ea23 ?_
    refine s_iload_n (pc := 94) d_X6_whose_94 rfl rfl ?_
    refine s_iload_n (pc := 95) d_X6_whose_95 rfl rfl ?_
    refine s_iload_n (pc := 96) d_X6_whose_96 rfl rfl ?_
    obtain ⟨g24, h⟩ := gd_1 h
    obtain ⟨r25, μ26, er25, h⟩ := ca2_1 h
    refine s_callV (pc := 97) (as := [vi v1, vi v2, vi v3]) (st := []) (vo := [vl r25]) (t_X2_blinkWeight er25) cl_2 g24 d_X6_whose_97 y_X2_blinkWeight w_623 w_624 w_625 ⟨by decide, by decide⟩ ⟨Nat.le_of_ble_eq_true rfl, Nat.le_of_ble_eq_true rfl⟩ (Nat.le_of_ble_eq_true rfl) rfl rfl rfl ?_
    refine s_as (kc' := 0) (js' := 0) (pc' := 100) (st' := [vl r25]) ⟨rfl, rfl, rfl, rfl⟩ ?_
    refine s_lload (pc := 100) d_X6_whose_100 rfl ?_
    refine s_iload (pc := 102) d_X6_whose_102 rfl ?_
    obtain ⟨r27, μ28, er27, h⟩ := ca2_1 h
    refine s_callS (pc := 104) (as := [vl r25, vl v5, vi v4]) (st := []) (vo := [vl r27]) (t_X6_inLeastTerms er27) d_X6_whose_104 y_X6_inLeastTerms w_629 w_630 ⟨by decide, by decide⟩ ⟨Nat.le_of_ble_eq_true rfl, Nat.le_of_ble_eq_true rfl⟩ (Nat.le_of_ble_eq_true rfl) rfl rfl rfl ?_
    refine s_as (kc' := 0) (js' := 0) (pc' := 107) (st' := [vl r27]) ⟨rfl, rfl, rfl, rfl⟩ ?_
    obtain rfl := Option.some.inj h
    exact s_lret (pc := 107) d_X6_whose_107 rfl
  · have h := it_t c21 h
    refine s_ldc2 (pc := 86) (v := (-3)) d_X6_whose_86 w_628 ?_
    obtain rfl := Option.some.inj h
    exact s_lret (pc := 89) d_X6_whose_89 rfl
set_option maxHeartbeats 4000000 in
set_option maxRecDepth 20000 in
theorem t_X6_whose_b45 {l : Launch} {G : Gl} {n : Nat} {sh : Sh} {x : Int64 × Mu} {k45 : Int64 → Int32 → Mu → Option (Int64 × Mu)} {v0 : Nat} {v1 : Int32} {v2 : Int32} {v3 : Int32} {v4 : Int32} {v5 : Int64} {v7 : Int32} {μ : Mu} (hk45 : ∀ (v5 : Int64) (v7 : Int32) (μ : Mu), k45 v5 v7 μ = some x → Sj l G (QJ G n sh x) c_X6_whose n sh 0 0 μ 45 [some (vr v0), some (vi v1), some (vi v2), some (vi v3), some (vi v4), some (vl v5), none, some (vi v7)] []) (h : m_X6_whose_b45 sh k45 v0 v1 v2 v3 v4 v5 v7 μ = some x) : Sj l G (QJ G n sh x) c_X6_whose n sh 0 0 μ 45 [some (vr v0), some (vi v1), some (vi v2), some (vi v3), some (vi v4), some (vl v5), none, some (vi v7)] [] := by
  unfold m_X6_whose_b45 at h
  refine s_iload (pc := 45) d_X6_whose_45 rfl ?_
  refine s_aload_n (pc := 47) d_X6_whose_47 rfl rfl ?_
  obtain ⟨g11, h⟩ := gd_1 h
  refine s_getR (pc := 48) (k := 2) cl_6 d_X6_whose_48 g11 (by decide) w_198 (rt_obj _) ?_
  obtain ⟨a12, ea12, h⟩ := bd_1 h
  refine s_topR ea12 ?_
  obtain ⟨g13, h⟩ := gd_1 h
  refine s_getI (pc := 51) (k := 2) cl_2 d_X6_whose_51 g13 (by decide) w_31 rfl ?_
  refine s_icmp_ge (pc := 54) (tgt := 79) d_X6_whose_54 (by decide) (fun c14 => ?_) (fun c14 => ?_)
  · have h := it_t c14 h
    refine s_mask [true, true, true, true, true, true, true, false] rfl ?_
    exact t_X6_whose_b79 h
  · have h := it_f c14 h
    refine s_lload (pc := 57) d_X6_whose_57 rfl ?_
    refine s_aload_n (pc := 59) d_X6_whose_59 rfl rfl ?_
    refine s_getR (pc := 60) (k := 2) cl_6 d_X6_whose_60 g11 (by decide) w_198 (rt_obj _) ?_
    obtain ⟨a15, ea15, h⟩ := bd_1 h
    refine s_topR ea15 ?_
    refine s_iload (pc := 63) d_X6_whose_63 rfl ?_
    refine s_iload_n (pc := 65) d_X6_whose_65 rfl rfl ?_
    refine s_iload_n (pc := 66) d_X6_whose_66 rfl rfl ?_
    obtain ⟨g16, h⟩ := gd_1 h
    obtain ⟨r17, μ18, er17, h⟩ := ca2_1 h
    refine s_callV (pc := 67) (as := [vi v7, vi v2, vi v3]) (st := [vl v5]) (vo := [vl r17]) (t_X2_blinkWeight er17) cl_2 g16 d_X6_whose_67 y_X2_blinkWeight w_623 w_624 w_625 ⟨by decide, by decide⟩ ⟨Nat.le_of_ble_eq_true rfl, Nat.le_of_ble_eq_true rfl⟩ (Nat.le_of_ble_eq_true rfl) rfl rfl rfl ?_
    refine s_as (kc' := 0) (js' := 0) (pc' := 70) (st' := [vl r17, vl v5]) ⟨rfl, rfl, rfl, rfl⟩ ?_
    refine s_ladd (pc := 70) d_X6_whose_70 ?_
    obtain ⟨w19, ew19, h⟩ := bd_1 h
    refine s_topJ ew19 ?_
    refine s_lstore (pc := 71) (lc' := [some (vr v0), some (vi v1), some (vi v2), some (vi v3), some (vi v4), some (vl w19), none, some (vi v7)]) d_X6_whose_71 (by decide) rfl ?_
    obtain ⟨w20, ew20, h⟩ := bd_1 h
    refine s_iinc (pc := 73) (v := w20) (lc' := [some (vr v0), some (vi v1), some (vi v2), some (vi v3), some (vi v4), some (vl w19), none, some (vi w20)]) d_X6_whose_73 rfl (by rw [ew20]; rfl) (by decide) rfl ?_
    refine s_goto (pc := 76) (tgt := 45) d_X6_whose_76 (by decide) ?_
    exact hk45 _ _ _ h
set_option maxHeartbeats 4000000 in
set_option maxRecDepth 20000 in
theorem t_X6_whose_h45 {l : Launch} {G : Gl} {n : Nat} {sh : Sh} {x : Int64 × Mu} {v0 : Nat} {v1 : Int32} {v2 : Int32} {v3 : Int32} {v4 : Int32} : ∀ (f : Nat) (v5 : Int64) (v7 : Int32) (μ : Mu), m_X6_whose_h45 sh v0 v1 v2 v3 v4 f v5 v7 μ = some x → Sj l G (QJ G n sh x) c_X6_whose n sh 0 0 μ 45 [some (vr v0), some (vi v1), some (vi v2), some (vi v3), some (vi v4), some (vl v5), none, some (vi v7)] [] := by
  intro f
  induction f with
  | zero =>
    intro v5 v7 μ h
    cases h
  | succ f ih =>
    intro v5 v7 μ h
    exact t_X6_whose_b45 ih h
set_option maxHeartbeats 4000000 in
set_option maxRecDepth 20000 in
theorem t_X6_whose {l : Launch} {G : Gl} {n : Nat} {sh : Sh} {x : Int64 × Mu} {v0 : Nat} {v1 : Int32} {v2 : Int32} {v3 : Int32} {v4 : Int32} {μ : Mu} (h : m_X6_whose sh v0 v1 v2 v3 v4 μ = some x) : Ct l G ⟨"StripsOfFour", "whose", "(IIIZ)J"⟩ prog_1_method_29_code 8 (some .long) { frames := 3, cells := 0, slots := 0, locals := 68 } n sh μ [vr v0, vi v1, vi v2, vi v3, vi v4] (some (.long x.1)) n sh x.2 := by
  refine Ct.of (lc := [some (vr v0), some (vi v1), some (vi v2), some (vi v3), some (vi v4), none, none, none]) (by decide +kernel) (Nat.le_of_ble_eq_true rfl) rfl ?_
  show Sj l G (QJ G n sh x) c_X6_whose n sh 0 0 μ 0 [some (vr v0), some (vi v1), some (vi v2), some (vi v3), some (vi v4), none, none, none] []
  unfold m_X6_whose at h
  refine s_aload_n (pc := 0) d_X6_whose_0 rfl rfl ?_
  obtain ⟨g1, h⟩ := gd_1 h
  refine s_getR (pc := 1) (k := 2) cl_6 d_X6_whose_1 g1 (by decide) w_198 (rt_obj _) ?_
  obtain ⟨a2, ea2, h⟩ := bd_1 h
  refine s_topR ea2 ?_
  refine s_iload_n (pc := 4) d_X6_whose_4 rfl rfl ?_
  obtain ⟨g3, h⟩ := gd_1 h
  obtain ⟨r4, μ5, er4, h⟩ := ca2_1 h
  refine s_callV (pc := 5) (as := [vi v1]) (st := []) (vo := [vi r4]) (t_X2_hasPerson er4) cl_2 g3 d_X6_whose_5 y_X2_hasPerson w_317 w_260 w_261 ⟨by decide, by decide⟩ ⟨Nat.le_of_ble_eq_true rfl, Nat.le_of_ble_eq_true rfl⟩ (Nat.le_of_ble_eq_true rfl) rfl rfl rfl ?_
  refine s_as (kc' := 0) (js' := 0) (pc' := 8) (st' := [vi r4]) ⟨rfl, rfl, rfl, rfl⟩ ?_
  refine s_if_ne (pc := 8) (tgt := 15) d_X6_whose_8 (by decide) (fun c6 => ?_) (fun c6 => ?_)
  · have h := it_f c6 h
    refine s_iload_n (pc := 15) d_X6_whose_15 rfl rfl ?_
    refine s_iconst (pc := 16) (v := 1) d_X6_whose_16 (by decide) ?_
    refine s_icmp_lt (pc := 17) (tgt := 35) d_X6_whose_17 (by decide) (fun c7 => ?_) (fun c7 => ?_)
    · have h := it_t c7 h
      refine s_ldc2 (pc := 35) (v := (-2)) d_X6_whose_35 w_622 ?_
      obtain rfl := Option.some.inj h
      exact s_lret (pc := 38) d_X6_whose_38 rfl
    · have h := it_f c7 h
      refine s_iload_n (pc := 20) d_X6_whose_20 rfl rfl ?_
      refine s_bipush (pc := 21) (v := 8) d_X6_whose_21 (by decide) ?_
      refine s_icmp_gt (pc := 23) (tgt := 35) d_X6_whose_23 (by decide) (fun c8 => ?_) (fun c8 => ?_)
      · have h := it_t c8 h
        refine s_ldc2 (pc := 35) (v := (-2)) d_X6_whose_35 w_622 ?_
        obtain rfl := Option.some.inj h
        exact s_lret (pc := 38) d_X6_whose_38 rfl
      · have h := it_f c8 h
        refine s_iload_n (pc := 26) d_X6_whose_26 rfl rfl ?_
        refine s_if_lt (pc := 27) (tgt := 35) d_X6_whose_27 (by decide) (fun c9 => ?_) (fun c9 => ?_)
        · have h := it_t c9 h
          refine s_ldc2 (pc := 35) (v := (-2)) d_X6_whose_35 w_622 ?_
          obtain rfl := Option.some.inj h
          exact s_lret (pc := 38) d_X6_whose_38 rfl
        · have h := it_f c9 h
          refine s_iload_n (pc := 30) d_X6_whose_30 rfl rfl ?_
          refine s_iload_n (pc := 31) d_X6_whose_31 rfl rfl ?_
          refine s_icmp_le (pc := 32) (tgt := 39) d_X6_whose_32 (by decide) (fun c10 => ?_) (fun c10 => ?_)
          · have h := it_t c10 h
            refine s_lconst (pc := 39) (v := 0) d_X6_whose_39 (by decide) ?_
            refine s_lstore (pc := 40) (lc' := [some (vr v0), some (vi v1), some (vi v2), some (vi v3), some (vi v4), some (vl 0), none, none]) d_X6_whose_40 (by decide) rfl ?_
            refine s_iconst (pc := 42) (v := 0) d_X6_whose_42 (by decide) ?_
            refine s_istore (pc := 43) (lc' := [some (vr v0), some (vi v1), some (vi v2), some (vi v3), some (vi v4), some (vl 0), none, some (vi 0)]) d_X6_whose_43 (by decide) rfl ?_
            exact t_X6_whose_h45 FU _ _ _ h
          · have h := it_f c10 h
            refine s_ldc2 (pc := 35) (v := (-2)) d_X6_whose_35 w_622 ?_
            obtain rfl := Option.some.inj h
            exact s_lret (pc := 38) d_X6_whose_38 rfl
  · have h := it_t c6 h
    refine s_ldc2 (pc := 11) (v := (-1)) d_X6_whose_11 w_621 ?_
    obtain rfl := Option.some.inj h
    exact s_lret (pc := 14) d_X6_whose_14 rfl
/-! StripsOfFour.wipe -/
abbrev c_X6_wipe : Cf := (prog_1_method_3_code, 2, "StripsOfFour", "wipe", (some .int), { frames := 0, cells := 0, slots := 0, locals := 0 })
theorem d_X6_wipe_0 : decode prog_1_method_3_code 0 = .ok (.aload_n 0, 1) := by decide +kernel
theorem d_X6_wipe_1 : decode prog_1_method_3_code 1 = .ok (.getfield 13, 3) := by decide +kernel
theorem d_X6_wipe_4 : decode prog_1_method_3_code 4 = .ok (.istore_n 1, 1) := by decide +kernel
theorem d_X6_wipe_5 : decode prog_1_method_3_code 5 = .ok (.aload_n 0, 1) := by decide +kernel
theorem d_X6_wipe_6 : decode prog_1_method_3_code 6 = .ok (.iconst 0, 1) := by decide +kernel
theorem d_X6_wipe_7 : decode prog_1_method_3_code 7 = .ok (.putfield 13, 3) := by decide +kernel
theorem d_X6_wipe_10 : decode prog_1_method_3_code 10 = .ok (.iload_n 1, 1) := by decide +kernel
theorem d_X6_wipe_11 : decode prog_1_method_3_code 11 = .ok (.ireturn, 1) := by decide +kernel
def m_X6_wipe (sh : Sh) (v0 : Nat) (μ : Mu) : Option (Int32 × Mu) :=
  gd (iz sh 6 v0) <|
  bd (gI μ v0 1) fun w2 =>
  bd (sI μ v0 1 0) fun μ3 =>
  some (w2, μ3)
set_option maxHeartbeats 4000000 in
set_option maxRecDepth 20000 in
theorem t_X6_wipe {l : Launch} {G : Gl} {n : Nat} {sh : Sh} {x : Int32 × Mu} {v0 : Nat} {μ : Mu} (h : m_X6_wipe sh v0 μ = some x) : Ct l G ⟨"StripsOfFour", "wipe", "()I"⟩ prog_1_method_3_code 2 (some .int) { frames := 0, cells := 0, slots := 0, locals := 0 } n sh μ [vr v0] (some (.int x.1)) n sh x.2 := by
  refine Ct.of (lc := [some (vr v0), none]) (by decide +kernel) (Nat.le_of_ble_eq_true rfl) rfl ?_
  show Sj l G (QI G n sh x) c_X6_wipe n sh 0 0 μ 0 [some (vr v0), none] []
  unfold m_X6_wipe at h
  refine s_aload_n (pc := 0) d_X6_wipe_0 rfl rfl ?_
  obtain ⟨g1, h⟩ := gd_1 h
  refine s_getI (pc := 1) (k := 1) cl_6 d_X6_wipe_1 g1 (by decide) w_197 rfl ?_
  obtain ⟨w2, ew2, h⟩ := bd_1 h
  refine s_topI ew2 ?_
  refine s_istore_n (pc := 4) (lc' := [some (vr v0), some (vi w2)]) d_X6_wipe_4 rfl (by decide) rfl ?_
  refine s_aload_n (pc := 5) d_X6_wipe_5 rfl rfl ?_
  refine s_iconst (pc := 6) (v := 0) d_X6_wipe_6 (by decide) ?_
  refine s_putI (pc := 7) (k := 1) cl_6 d_X6_wipe_7 g1 (by decide) w_197 rfl rfl ?_
  obtain ⟨μ3, eμ3, h⟩ := bd_1 h
  refine s_mu eμ3 ?_
  refine s_iload_n (pc := 10) d_X6_wipe_10 rfl rfl ?_
  obtain rfl := Option.some.inj h
  exact s_iret (pc := 11) d_X6_wipe_11 rfl
/-! StripsOfFour.write -/
abbrev c_X6_write : Cf := (prog_1_method_2_code, 2, "StripsOfFour", "write", (some .int), { frames := 0, cells := 0, slots := 0, locals := 0 })
theorem d_X6_write_0 : decode prog_1_method_2_code 0 = .ok (.iload_n 1, 1) := by decide +kernel
theorem d_X6_write_1 : decode prog_1_method_2_code 1 = .ok (.ifCond .lt 10, 3) := by decide +kernel
theorem d_X6_write_4 : decode prog_1_method_2_code 4 = .ok (.iload_n 1, 1) := by decide +kernel
theorem d_X6_write_5 : decode prog_1_method_2_code 5 = .ok (.sipush 255, 3) := by decide +kernel
theorem d_X6_write_8 : decode prog_1_method_2_code 8 = .ok (.if_icmp .le 6, 3) := by decide +kernel
theorem d_X6_write_11 : decode prog_1_method_2_code 11 = .ok (.bipush (-2), 2) := by decide +kernel
theorem d_X6_write_13 : decode prog_1_method_2_code 13 = .ok (.ireturn, 1) := by decide +kernel
theorem d_X6_write_14 : decode prog_1_method_2_code 14 = .ok (.aload_n 0, 1) := by decide +kernel
theorem d_X6_write_15 : decode prog_1_method_2_code 15 = .ok (.getfield 13, 3) := by decide +kernel
theorem d_X6_write_18 : decode prog_1_method_2_code 18 = .ok (.ifCond .lt 12, 3) := by decide +kernel
theorem d_X6_write_21 : decode prog_1_method_2_code 21 = .ok (.aload_n 0, 1) := by decide +kernel
theorem d_X6_write_22 : decode prog_1_method_2_code 22 = .ok (.getfield 13, 3) := by decide +kernel
theorem d_X6_write_25 : decode prog_1_method_2_code 25 = .ok (.bipush 24, 2) := by decide +kernel
theorem d_X6_write_27 : decode prog_1_method_2_code 27 = .ok (.if_icmp .lt 6, 3) := by decide +kernel
theorem d_X6_write_30 : decode prog_1_method_2_code 30 = .ok (.bipush (-4), 2) := by decide +kernel
theorem d_X6_write_32 : decode prog_1_method_2_code 32 = .ok (.ireturn, 1) := by decide +kernel
theorem d_X6_write_33 : decode prog_1_method_2_code 33 = .ok (.aload_n 0, 1) := by decide +kernel
theorem d_X6_write_34 : decode prog_1_method_2_code 34 = .ok (.getfield 9, 3) := by decide +kernel
theorem d_X6_write_37 : decode prog_1_method_2_code 37 = .ok (.aload_n 0, 1) := by decide +kernel
theorem d_X6_write_38 : decode prog_1_method_2_code 38 = .ok (.getfield 13, 3) := by decide +kernel
theorem d_X6_write_41 : decode prog_1_method_2_code 41 = .ok (.iload_n 1, 1) := by decide +kernel
theorem d_X6_write_42 : decode prog_1_method_2_code 42 = .ok (.iastore, 1) := by decide +kernel
theorem d_X6_write_43 : decode prog_1_method_2_code 43 = .ok (.aload_n 0, 1) := by decide +kernel
theorem d_X6_write_44 : decode prog_1_method_2_code 44 = .ok (.dup, 1) := by decide +kernel
theorem d_X6_write_45 : decode prog_1_method_2_code 45 = .ok (.getfield 13, 3) := by decide +kernel
theorem d_X6_write_48 : decode prog_1_method_2_code 48 = .ok (.iconst 1, 1) := by decide +kernel
theorem d_X6_write_49 : decode prog_1_method_2_code 49 = .ok (.iadd, 1) := by decide +kernel
theorem d_X6_write_50 : decode prog_1_method_2_code 50 = .ok (.putfield 13, 3) := by decide +kernel
theorem d_X6_write_53 : decode prog_1_method_2_code 53 = .ok (.aload_n 0, 1) := by decide +kernel
theorem d_X6_write_54 : decode prog_1_method_2_code 54 = .ok (.getfield 13, 3) := by decide +kernel
theorem d_X6_write_57 : decode prog_1_method_2_code 57 = .ok (.ireturn, 1) := by decide +kernel
def m_X6_write (sh : Sh) (v0 : Nat) (v1 : Int32) (μ : Mu) : Option (Int32 × Mu) :=
  if v1 < 0 then
    some ((-2), μ)
  else
    if v1 ≤ 255 then
      gd (iz sh 6 v0) <|
      if (gI μ v0 1) < 0 then
        some ((-4), μ)
      else
        if (gI μ v0 1) < 24 then
          bd (gR μ v0 0) fun a6 =>
          gd (ix sh 8 a6 (gI μ v0 1)) <|
          bd (sI μ a6 (gI μ v0 1).toNatClampNeg v1) fun μ8 =>
          bd (sI μ8 v0 1 ((gI μ8 v0 1) + 1)) fun μ9 =>
          some (gI μ9 v0 1, μ9)
        else
          some ((-4), μ)
    else
      some ((-2), μ)
set_option maxHeartbeats 4000000 in
set_option maxRecDepth 20000 in
theorem t_X6_write {l : Launch} {G : Gl} {n : Nat} {sh : Sh} {x : Int32 × Mu} {v0 : Nat} {v1 : Int32} {μ : Mu} (h : m_X6_write sh v0 v1 μ = some x) : Ct l G ⟨"StripsOfFour", "write", "(I)I"⟩ prog_1_method_2_code 2 (some .int) { frames := 0, cells := 0, slots := 0, locals := 0 } n sh μ [vr v0, vi v1] (some (.int x.1)) n sh x.2 := by
  refine Ct.of (lc := [some (vr v0), some (vi v1)]) (by decide +kernel) (Nat.le_of_ble_eq_true rfl) rfl ?_
  show Sj l G (QI G n sh x) c_X6_write n sh 0 0 μ 0 [some (vr v0), some (vi v1)] []
  unfold m_X6_write at h
  refine s_iload_n (pc := 0) d_X6_write_0 rfl rfl ?_
  refine s_if_lt (pc := 1) (tgt := 11) d_X6_write_1 (by decide) (fun c1 => ?_) (fun c1 => ?_)
  · have h := it_t c1 h
    refine s_bipush (pc := 11) (v := (-2)) d_X6_write_11 (by decide) ?_
    obtain rfl := Option.some.inj h
    exact s_iret (pc := 13) d_X6_write_13 rfl
  · have h := it_f c1 h
    refine s_iload_n (pc := 4) d_X6_write_4 rfl rfl ?_
    refine s_sipush (pc := 5) (v := 255) d_X6_write_5 (by decide) ?_
    refine s_icmp_le (pc := 8) (tgt := 14) d_X6_write_8 (by decide) (fun c2 => ?_) (fun c2 => ?_)
    · have h := it_t c2 h
      refine s_aload_n (pc := 14) d_X6_write_14 rfl rfl ?_
      obtain ⟨g3, h⟩ := gd_1 h
      refine s_getI (pc := 15) (k := 1) cl_6 d_X6_write_15 g3 (by decide) w_197 rfl ?_
      refine s_if_lt (pc := 18) (tgt := 30) d_X6_write_18 (by decide) (fun c4 => ?_) (fun c4 => ?_)
      · have h := it_t c4 h
        refine s_bipush (pc := 30) (v := (-4)) d_X6_write_30 (by decide) ?_
        obtain rfl := Option.some.inj h
        exact s_iret (pc := 32) d_X6_write_32 rfl
      · have h := it_f c4 h
        refine s_aload_n (pc := 21) d_X6_write_21 rfl rfl ?_
        refine s_getI (pc := 22) (k := 1) cl_6 d_X6_write_22 g3 (by decide) w_197 rfl ?_
        refine s_bipush (pc := 25) (v := 24) d_X6_write_25 (by decide) ?_
        refine s_icmp_lt (pc := 27) (tgt := 33) d_X6_write_27 (by decide) (fun c5 => ?_) (fun c5 => ?_)
        · have h := it_t c5 h
          refine s_aload_n (pc := 33) d_X6_write_33 rfl rfl ?_
          refine s_getR (pc := 34) (k := 0) cl_6 d_X6_write_34 g3 (by decide) w_196 (rt_arr _) ?_
          obtain ⟨a6, ea6, h⟩ := bd_1 h
          refine s_topR ea6 ?_
          refine s_aload_n (pc := 37) d_X6_write_37 rfl rfl ?_
          refine s_getI (pc := 38) (k := 1) cl_6 d_X6_write_38 g3 (by decide) w_197 rfl ?_
          refine s_iload_n (pc := 41) d_X6_write_41 rfl rfl ?_
          obtain ⟨g7, h⟩ := gd_1 h
          refine s_iast (pc := 42) d_X6_write_42 g7 ?_
          obtain ⟨μ8, eμ8, h⟩ := bd_1 h
          refine s_mu eμ8 ?_
          refine s_aload_n (pc := 43) d_X6_write_43 rfl rfl ?_
          refine s_dup (pc := 44) d_X6_write_44 rfl ?_
          refine s_getI (pc := 45) (k := 1) cl_6 d_X6_write_45 g3 (by decide) w_197 rfl ?_
          refine s_iconst (pc := 48) (v := 1) d_X6_write_48 (by decide) ?_
          refine s_iadd (pc := 49) d_X6_write_49 ?_
          refine s_putI (pc := 50) (k := 1) cl_6 d_X6_write_50 g3 (by decide) w_197 rfl rfl ?_
          obtain ⟨μ9, eμ9, h⟩ := bd_1 h
          refine s_mu eμ9 ?_
          refine s_aload_n (pc := 53) d_X6_write_53 rfl rfl ?_
          refine s_getI (pc := 54) (k := 1) cl_6 d_X6_write_54 g3 (by decide) w_197 rfl ?_
          obtain rfl := Option.some.inj h
          exact s_iret (pc := 57) d_X6_write_57 rfl
        · have h := it_f c5 h
          refine s_bipush (pc := 30) (v := (-4)) d_X6_write_30 (by decide) ?_
          obtain rfl := Option.some.inj h
          exact s_iret (pc := 32) d_X6_write_32 rfl
    · have h := it_f c2 h
      refine s_bipush (pc := 11) (v := (-2)) d_X6_write_11 (by decide) ?_
      obtain rfl := Option.some.inj h
      exact s_iret (pc := 13) d_X6_write_13 rfl

/-! java/lang/Math.abs -/
abbrev c_J9_abs_0f7a4 : Cf := (prog_11_method_59_code, 1, "java/lang/Math", "abs", (some .int), { frames := 0, cells := 0, slots := 0, locals := 0 })
theorem d_J9_abs_0f7a4_0 : decode prog_11_method_59_code 0 = .ok (.iload_n 0, 1) := by decide +kernel
theorem d_J9_abs_0f7a4_1 : decode prog_11_method_59_code 1 = .ok (.ifCond .ge 8, 3) := by decide +kernel
theorem d_J9_abs_0f7a4_4 : decode prog_11_method_59_code 4 = .ok (.iload_n 0, 1) := by decide +kernel
theorem d_J9_abs_0f7a4_5 : decode prog_11_method_59_code 5 = .ok (.ineg, 1) := by decide +kernel
theorem d_J9_abs_0f7a4_6 : decode prog_11_method_59_code 6 = .ok (.goto 4, 3) := by decide +kernel
theorem d_J9_abs_0f7a4_9 : decode prog_11_method_59_code 9 = .ok (.iload_n 0, 1) := by decide +kernel
theorem d_J9_abs_0f7a4_10 : decode prog_11_method_59_code 10 = .ok (.ireturn, 1) := by decide +kernel
def m_J9_abs_0f7a4 (sh : Sh) (v0 : Int32) (μ : Mu) : Option (Int32 × Mu) :=
  if 0 ≤ v0 then
    some (v0, μ)
  else
    some (-v0, μ)
set_option maxHeartbeats 4000000 in
set_option maxRecDepth 20000 in
theorem t_J9_abs_0f7a4 {l : Launch} {G : Gl} {n : Nat} {sh : Sh} {x : Int32 × Mu} {v0 : Int32} {μ : Mu} (h : m_J9_abs_0f7a4 sh v0 μ = some x) : Ct l G ⟨"java/lang/Math", "abs", "(I)I"⟩ prog_11_method_59_code 1 (some .int) { frames := 0, cells := 0, slots := 0, locals := 0 } n sh μ [vi v0] (some (.int x.1)) n sh x.2 := by
  refine Ct.of (lc := [some (vi v0)]) (by decide +kernel) (Nat.le_of_ble_eq_true rfl) rfl ?_
  show Sj l G (QI G n sh x) c_J9_abs_0f7a4 n sh 0 0 μ 0 [some (vi v0)] []
  unfold m_J9_abs_0f7a4 at h
  refine s_iload_n (pc := 0) d_J9_abs_0f7a4_0 rfl rfl ?_
  refine s_if_ge (pc := 1) (tgt := 9) d_J9_abs_0f7a4_1 (by decide) (fun c1 => ?_) (fun c1 => ?_)
  · have h := it_t c1 h
    refine s_iload_n (pc := 9) d_J9_abs_0f7a4_9 rfl rfl ?_
    obtain rfl := Option.some.inj h
    exact s_iret (pc := 10) d_J9_abs_0f7a4_10 rfl
  · have h := it_f c1 h
    refine s_iload_n (pc := 4) d_J9_abs_0f7a4_4 rfl rfl ?_
    refine s_ineg (pc := 5) d_J9_abs_0f7a4_5 ?_
    refine s_goto (pc := 6) (tgt := 10) d_J9_abs_0f7a4_6 (by decide) ?_
    obtain rfl := Option.some.inj h
    exact s_iret (pc := 10) d_J9_abs_0f7a4_10 rfl
/-! java/lang/Math.max -/
abbrev c_J9_max_7cf53 : Cf := (prog_11_method_65_code, 2, "java/lang/Math", "max", (some .int), { frames := 0, cells := 0, slots := 0, locals := 0 })
theorem d_J9_max_7cf53_0 : decode prog_11_method_65_code 0 = .ok (.iload_n 0, 1) := by decide +kernel
theorem d_J9_max_7cf53_1 : decode prog_11_method_65_code 1 = .ok (.iload_n 1, 1) := by decide +kernel
theorem d_J9_max_7cf53_2 : decode prog_11_method_65_code 2 = .ok (.if_icmp .lt 7, 3) := by decide +kernel
theorem d_J9_max_7cf53_5 : decode prog_11_method_65_code 5 = .ok (.iload_n 0, 1) := by decide +kernel
theorem d_J9_max_7cf53_6 : decode prog_11_method_65_code 6 = .ok (.goto 4, 3) := by decide +kernel
theorem d_J9_max_7cf53_9 : decode prog_11_method_65_code 9 = .ok (.iload_n 1, 1) := by decide +kernel
theorem d_J9_max_7cf53_10 : decode prog_11_method_65_code 10 = .ok (.ireturn, 1) := by decide +kernel
def m_J9_max_7cf53 (sh : Sh) (v0 : Int32) (v1 : Int32) (μ : Mu) : Option (Int32 × Mu) :=
  if v0 < v1 then
    some (v1, μ)
  else
    some (v0, μ)
set_option maxHeartbeats 4000000 in
set_option maxRecDepth 20000 in
theorem t_J9_max_7cf53 {l : Launch} {G : Gl} {n : Nat} {sh : Sh} {x : Int32 × Mu} {v0 : Int32} {v1 : Int32} {μ : Mu} (h : m_J9_max_7cf53 sh v0 v1 μ = some x) : Ct l G ⟨"java/lang/Math", "max", "(II)I"⟩ prog_11_method_65_code 2 (some .int) { frames := 0, cells := 0, slots := 0, locals := 0 } n sh μ [vi v0, vi v1] (some (.int x.1)) n sh x.2 := by
  refine Ct.of (lc := [some (vi v0), some (vi v1)]) (by decide +kernel) (Nat.le_of_ble_eq_true rfl) rfl ?_
  show Sj l G (QI G n sh x) c_J9_max_7cf53 n sh 0 0 μ 0 [some (vi v0), some (vi v1)] []
  unfold m_J9_max_7cf53 at h
  refine s_iload_n (pc := 0) d_J9_max_7cf53_0 rfl rfl ?_
  refine s_iload_n (pc := 1) d_J9_max_7cf53_1 rfl rfl ?_
  refine s_icmp_lt (pc := 2) (tgt := 9) d_J9_max_7cf53_2 (by decide) (fun c1 => ?_) (fun c1 => ?_)
  · have h := it_t c1 h
    refine s_iload_n (pc := 9) d_J9_max_7cf53_9 rfl rfl ?_
    obtain rfl := Option.some.inj h
    exact s_iret (pc := 10) d_J9_max_7cf53_10 rfl
  · have h := it_f c1 h
    refine s_iload_n (pc := 5) d_J9_max_7cf53_5 rfl rfl ?_
    refine s_goto (pc := 6) (tgt := 10) d_J9_max_7cf53_6 (by decide) ?_
    obtain rfl := Option.some.inj h
    exact s_iret (pc := 10) d_J9_max_7cf53_10 rfl
/-! java/lang/Math.floorMod -/
abbrev c_J9_floorMod_7cf53 : Cf := (prog_11_method_50_code, 3, "java/lang/Math", "floorMod", (some .int), { frames := 0, cells := 0, slots := 0, locals := 0 })
theorem d_J9_floorMod_7cf53_0 : decode prog_11_method_50_code 0 = .ok (.iload_n 0, 1) := by decide +kernel
theorem d_J9_floorMod_7cf53_1 : decode prog_11_method_50_code 1 = .ok (.iload_n 1, 1) := by decide +kernel
theorem d_J9_floorMod_7cf53_2 : decode prog_11_method_50_code 2 = .ok (.irem, 1) := by decide +kernel
theorem d_J9_floorMod_7cf53_3 : decode prog_11_method_50_code 3 = .ok (.istore_n 2, 1) := by decide +kernel
theorem d_J9_floorMod_7cf53_4 : decode prog_11_method_50_code 4 = .ok (.iload_n 0, 1) := by decide +kernel
theorem d_J9_floorMod_7cf53_5 : decode prog_11_method_50_code 5 = .ok (.iload_n 1, 1) := by decide +kernel
theorem d_J9_floorMod_7cf53_6 : decode prog_11_method_50_code 6 = .ok (.ixor, 1) := by decide +kernel
theorem d_J9_floorMod_7cf53_7 : decode prog_11_method_50_code 7 = .ok (.ifCond .ge 11, 3) := by decide +kernel
theorem d_J9_floorMod_7cf53_10 : decode prog_11_method_50_code 10 = .ok (.iload_n 2, 1) := by decide +kernel
theorem d_J9_floorMod_7cf53_11 : decode prog_11_method_50_code 11 = .ok (.ifCond .eq 7, 3) := by decide +kernel
theorem d_J9_floorMod_7cf53_14 : decode prog_11_method_50_code 14 = .ok (.iload_n 2, 1) := by decide +kernel
theorem d_J9_floorMod_7cf53_15 : decode prog_11_method_50_code 15 = .ok (.iload_n 1, 1) := by decide +kernel
theorem d_J9_floorMod_7cf53_16 : decode prog_11_method_50_code 16 = .ok (.iadd, 1) := by decide +kernel
theorem d_J9_floorMod_7cf53_17 : decode prog_11_method_50_code 17 = .ok (.ireturn, 1) := by decide +kernel
theorem d_J9_floorMod_7cf53_18 : decode prog_11_method_50_code 18 = .ok (.iload_n 2, 1) := by decide +kernel
theorem d_J9_floorMod_7cf53_19 : decode prog_11_method_50_code 19 = .ok (.ireturn, 1) := by decide +kernel
def m_J9_floorMod_7cf53 (sh : Sh) (v0 : Int32) (v1 : Int32) (μ : Mu) : Option (Int32 × Mu) :=
  gd (nzI v1) <|
  bd (v0 - v0 / v1 * v1) fun w2 =>
  if 0 ≤ (v0 ^^^ v1) then
    some (w2, μ)
  else
    if w2 = 0 then
      some (w2, μ)
    else
      some (w2 + v1, μ)
set_option maxHeartbeats 4000000 in
set_option maxRecDepth 20000 in
theorem t_J9_floorMod_7cf53 {l : Launch} {G : Gl} {n : Nat} {sh : Sh} {x : Int32 × Mu} {v0 : Int32} {v1 : Int32} {μ : Mu} (h : m_J9_floorMod_7cf53 sh v0 v1 μ = some x) : Ct l G ⟨"java/lang/Math", "floorMod", "(II)I"⟩ prog_11_method_50_code 3 (some .int) { frames := 0, cells := 0, slots := 0, locals := 0 } n sh μ [vi v0, vi v1] (some (.int x.1)) n sh x.2 := by
  refine Ct.of (lc := [some (vi v0), some (vi v1), none]) (by decide +kernel) (Nat.le_of_ble_eq_true rfl) rfl ?_
  show Sj l G (QI G n sh x) c_J9_floorMod_7cf53 n sh 0 0 μ 0 [some (vi v0), some (vi v1), none] []
  unfold m_J9_floorMod_7cf53 at h
  refine s_iload_n (pc := 0) d_J9_floorMod_7cf53_0 rfl rfl ?_
  refine s_iload_n (pc := 1) d_J9_floorMod_7cf53_1 rfl rfl ?_
  obtain ⟨g1, h⟩ := gd_1 h
  refine s_irem (pc := 2) d_J9_floorMod_7cf53_2 (nzI_eq g1) ?_
  obtain ⟨w2, ew2, h⟩ := bd_1 h
  refine s_topI ew2 ?_
  refine s_istore_n (pc := 3) (lc' := [some (vi v0), some (vi v1), some (vi w2)]) d_J9_floorMod_7cf53_3 rfl (by decide) rfl ?_
  refine s_iload_n (pc := 4) d_J9_floorMod_7cf53_4 rfl rfl ?_
  refine s_iload_n (pc := 5) d_J9_floorMod_7cf53_5 rfl rfl ?_
  refine s_ixor (pc := 6) d_J9_floorMod_7cf53_6 ?_
  refine s_if_ge (pc := 7) (tgt := 18) d_J9_floorMod_7cf53_7 (by decide) (fun c3 => ?_) (fun c3 => ?_)
  · have h := it_t c3 h
    refine s_iload_n (pc := 18) d_J9_floorMod_7cf53_18 rfl rfl ?_
    obtain rfl := Option.some.inj h
    exact s_iret (pc := 19) d_J9_floorMod_7cf53_19 rfl
  · have h := it_f c3 h
    refine s_iload_n (pc := 10) d_J9_floorMod_7cf53_10 rfl rfl ?_
    refine s_if_eq (pc := 11) (tgt := 18) d_J9_floorMod_7cf53_11 (by decide) (fun c4 => ?_) (fun c4 => ?_)
    · have h := it_t c4 h
      refine s_iload_n (pc := 18) d_J9_floorMod_7cf53_18 rfl rfl ?_
      obtain rfl := Option.some.inj h
      exact s_iret (pc := 19) d_J9_floorMod_7cf53_19 rfl
    · have h := it_f c4 h
      refine s_iload_n (pc := 14) d_J9_floorMod_7cf53_14 rfl rfl ?_
      refine s_iload_n (pc := 15) d_J9_floorMod_7cf53_15 rfl rfl ?_
      refine s_iadd (pc := 16) d_J9_floorMod_7cf53_16 ?_
      obtain rfl := Option.some.inj h
      exact s_iret (pc := 17) d_J9_floorMod_7cf53_17 rfl
/-! java/lang/Math.min -/
abbrev c_J9_min_7cf53 : Cf := (prog_11_method_69_code, 2, "java/lang/Math", "min", (some .int), { frames := 0, cells := 0, slots := 0, locals := 0 })
theorem d_J9_min_7cf53_0 : decode prog_11_method_69_code 0 = .ok (.iload_n 0, 1) := by decide +kernel
theorem d_J9_min_7cf53_1 : decode prog_11_method_69_code 1 = .ok (.iload_n 1, 1) := by decide +kernel
theorem d_J9_min_7cf53_2 : decode prog_11_method_69_code 2 = .ok (.if_icmp .gt 7, 3) := by decide +kernel
theorem d_J9_min_7cf53_5 : decode prog_11_method_69_code 5 = .ok (.iload_n 0, 1) := by decide +kernel
theorem d_J9_min_7cf53_6 : decode prog_11_method_69_code 6 = .ok (.goto 4, 3) := by decide +kernel
theorem d_J9_min_7cf53_9 : decode prog_11_method_69_code 9 = .ok (.iload_n 1, 1) := by decide +kernel
theorem d_J9_min_7cf53_10 : decode prog_11_method_69_code 10 = .ok (.ireturn, 1) := by decide +kernel
def m_J9_min_7cf53 (sh : Sh) (v0 : Int32) (v1 : Int32) (μ : Mu) : Option (Int32 × Mu) :=
  if v1 < v0 then
    some (v1, μ)
  else
    some (v0, μ)
set_option maxHeartbeats 4000000 in
set_option maxRecDepth 20000 in
theorem t_J9_min_7cf53 {l : Launch} {G : Gl} {n : Nat} {sh : Sh} {x : Int32 × Mu} {v0 : Int32} {v1 : Int32} {μ : Mu} (h : m_J9_min_7cf53 sh v0 v1 μ = some x) : Ct l G ⟨"java/lang/Math", "min", "(II)I"⟩ prog_11_method_69_code 2 (some .int) { frames := 0, cells := 0, slots := 0, locals := 0 } n sh μ [vi v0, vi v1] (some (.int x.1)) n sh x.2 := by
  refine Ct.of (lc := [some (vi v0), some (vi v1)]) (by decide +kernel) (Nat.le_of_ble_eq_true rfl) rfl ?_
  show Sj l G (QI G n sh x) c_J9_min_7cf53 n sh 0 0 μ 0 [some (vi v0), some (vi v1)] []
  unfold m_J9_min_7cf53 at h
  refine s_iload_n (pc := 0) d_J9_min_7cf53_0 rfl rfl ?_
  refine s_iload_n (pc := 1) d_J9_min_7cf53_1 rfl rfl ?_
  refine s_icmp_gt (pc := 2) (tgt := 9) d_J9_min_7cf53_2 (by decide) (fun c1 => ?_) (fun c1 => ?_)
  · have h := it_t c1 h
    refine s_iload_n (pc := 9) d_J9_min_7cf53_9 rfl rfl ?_
    obtain rfl := Option.some.inj h
    exact s_iret (pc := 10) d_J9_min_7cf53_10 rfl
  · have h := it_f c1 h
    refine s_iload_n (pc := 5) d_J9_min_7cf53_5 rfl rfl ?_
    refine s_goto (pc := 6) (tgt := 10) d_J9_min_7cf53_6 (by decide) ?_
    obtain rfl := Option.some.inj h
    exact s_iret (pc := 10) d_J9_min_7cf53_10 rfl
/-! java/lang/Integer.bitCount -/
abbrev c_J6_bitCount_0f7a4 : Cf := (prog_10_method_49_code, 1, "java/lang/Integer", "bitCount", (some .int), { frames := 0, cells := 0, slots := 0, locals := 0 })
theorem d_J6_bitCount_0f7a4_0 : decode prog_10_method_49_code 0 = .ok (.iload_n 0, 1) := by decide +kernel
theorem d_J6_bitCount_0f7a4_1 : decode prog_10_method_49_code 1 = .ok (.iload_n 0, 1) := by decide +kernel
theorem d_J6_bitCount_0f7a4_2 : decode prog_10_method_49_code 2 = .ok (.iconst 1, 1) := by decide +kernel
theorem d_J6_bitCount_0f7a4_3 : decode prog_10_method_49_code 3 = .ok (.iushr, 1) := by decide +kernel
theorem d_J6_bitCount_0f7a4_4 : decode prog_10_method_49_code 4 = .ok (.ldc_w 265, 3) := by decide +kernel
theorem d_J6_bitCount_0f7a4_7 : decode prog_10_method_49_code 7 = .ok (.iand, 1) := by decide +kernel
theorem d_J6_bitCount_0f7a4_8 : decode prog_10_method_49_code 8 = .ok (.isub, 1) := by decide +kernel
theorem d_J6_bitCount_0f7a4_9 : decode prog_10_method_49_code 9 = .ok (.istore_n 0, 1) := by decide +kernel
theorem d_J6_bitCount_0f7a4_10 : decode prog_10_method_49_code 10 = .ok (.iload_n 0, 1) := by decide +kernel
theorem d_J6_bitCount_0f7a4_11 : decode prog_10_method_49_code 11 = .ok (.ldc_w 266, 3) := by decide +kernel
theorem d_J6_bitCount_0f7a4_14 : decode prog_10_method_49_code 14 = .ok (.iand, 1) := by decide +kernel
theorem d_J6_bitCount_0f7a4_15 : decode prog_10_method_49_code 15 = .ok (.iload_n 0, 1) := by decide +kernel
theorem d_J6_bitCount_0f7a4_16 : decode prog_10_method_49_code 16 = .ok (.iconst 2, 1) := by decide +kernel
theorem d_J6_bitCount_0f7a4_17 : decode prog_10_method_49_code 17 = .ok (.iushr, 1) := by decide +kernel
theorem d_J6_bitCount_0f7a4_18 : decode prog_10_method_49_code 18 = .ok (.ldc_w 266, 3) := by decide +kernel
theorem d_J6_bitCount_0f7a4_21 : decode prog_10_method_49_code 21 = .ok (.iand, 1) := by decide +kernel
theorem d_J6_bitCount_0f7a4_22 : decode prog_10_method_49_code 22 = .ok (.iadd, 1) := by decide +kernel
theorem d_J6_bitCount_0f7a4_23 : decode prog_10_method_49_code 23 = .ok (.istore_n 0, 1) := by decide +kernel
theorem d_J6_bitCount_0f7a4_24 : decode prog_10_method_49_code 24 = .ok (.iload_n 0, 1) := by decide +kernel
theorem d_J6_bitCount_0f7a4_25 : decode prog_10_method_49_code 25 = .ok (.iload_n 0, 1) := by decide +kernel
theorem d_J6_bitCount_0f7a4_26 : decode prog_10_method_49_code 26 = .ok (.iconst 4, 1) := by decide +kernel
theorem d_J6_bitCount_0f7a4_27 : decode prog_10_method_49_code 27 = .ok (.iushr, 1) := by decide +kernel
theorem d_J6_bitCount_0f7a4_28 : decode prog_10_method_49_code 28 = .ok (.iadd, 1) := by decide +kernel
theorem d_J6_bitCount_0f7a4_29 : decode prog_10_method_49_code 29 = .ok (.ldc_w 267, 3) := by decide +kernel
theorem d_J6_bitCount_0f7a4_32 : decode prog_10_method_49_code 32 = .ok (.iand, 1) := by decide +kernel
theorem d_J6_bitCount_0f7a4_33 : decode prog_10_method_49_code 33 = .ok (.istore_n 0, 1) := by decide +kernel
theorem d_J6_bitCount_0f7a4_34 : decode prog_10_method_49_code 34 = .ok (.iload_n 0, 1) := by decide +kernel
theorem d_J6_bitCount_0f7a4_35 : decode prog_10_method_49_code 35 = .ok (.iload_n 0, 1) := by decide +kernel
theorem d_J6_bitCount_0f7a4_36 : decode prog_10_method_49_code 36 = .ok (.bipush 8, 2) := by decide +kernel
theorem d_J6_bitCount_0f7a4_38 : decode prog_10_method_49_code 38 = .ok (.iushr, 1) := by decide +kernel
theorem d_J6_bitCount_0f7a4_39 : decode prog_10_method_49_code 39 = .ok (.iadd, 1) := by decide +kernel
theorem d_J6_bitCount_0f7a4_40 : decode prog_10_method_49_code 40 = .ok (.istore_n 0, 1) := by decide +kernel
theorem d_J6_bitCount_0f7a4_41 : decode prog_10_method_49_code 41 = .ok (.iload_n 0, 1) := by decide +kernel
theorem d_J6_bitCount_0f7a4_42 : decode prog_10_method_49_code 42 = .ok (.iload_n 0, 1) := by decide +kernel
theorem d_J6_bitCount_0f7a4_43 : decode prog_10_method_49_code 43 = .ok (.bipush 16, 2) := by decide +kernel
theorem d_J6_bitCount_0f7a4_45 : decode prog_10_method_49_code 45 = .ok (.iushr, 1) := by decide +kernel
theorem d_J6_bitCount_0f7a4_46 : decode prog_10_method_49_code 46 = .ok (.iadd, 1) := by decide +kernel
theorem d_J6_bitCount_0f7a4_47 : decode prog_10_method_49_code 47 = .ok (.istore_n 0, 1) := by decide +kernel
theorem d_J6_bitCount_0f7a4_48 : decode prog_10_method_49_code 48 = .ok (.iload_n 0, 1) := by decide +kernel
theorem d_J6_bitCount_0f7a4_49 : decode prog_10_method_49_code 49 = .ok (.bipush 63, 2) := by decide +kernel
theorem d_J6_bitCount_0f7a4_51 : decode prog_10_method_49_code 51 = .ok (.iand, 1) := by decide +kernel
theorem d_J6_bitCount_0f7a4_52 : decode prog_10_method_49_code 52 = .ok (.ireturn, 1) := by decide +kernel
def m_J6_bitCount_0f7a4 (sh : Sh) (v0 : Int32) (μ : Mu) : Option (Int32 × Mu) :=
  bd (v0 - (((v0.toUInt32 >>> ((1 : Int32).toUInt32 &&& Int32.toUInt32 31)).toInt32) &&& 1431655765)) fun w1 =>
  bd ((w1 &&& 858993459) + (((w1.toUInt32 >>> ((2 : Int32).toUInt32 &&& Int32.toUInt32 31)).toInt32) &&& 858993459)) fun w2 =>
  bd ((w2 + ((w2.toUInt32 >>> ((4 : Int32).toUInt32 &&& Int32.toUInt32 31)).toInt32)) &&& 252645135) fun w3 =>
  bd (w3 + ((w3.toUInt32 >>> ((8 : Int32).toUInt32 &&& Int32.toUInt32 31)).toInt32)) fun w4 =>
  bd (w4 + ((w4.toUInt32 >>> ((16 : Int32).toUInt32 &&& Int32.toUInt32 31)).toInt32)) fun w5 =>
  some (w5 &&& 63, μ)
set_option maxHeartbeats 4000000 in
set_option maxRecDepth 20000 in
theorem t_J6_bitCount_0f7a4 {l : Launch} {G : Gl} {n : Nat} {sh : Sh} {x : Int32 × Mu} {v0 : Int32} {μ : Mu} (h : m_J6_bitCount_0f7a4 sh v0 μ = some x) : Ct l G ⟨"java/lang/Integer", "bitCount", "(I)I"⟩ prog_10_method_49_code 1 (some .int) { frames := 0, cells := 0, slots := 0, locals := 0 } n sh μ [vi v0] (some (.int x.1)) n sh x.2 := by
  refine Ct.of (lc := [some (vi v0)]) (by decide +kernel) (Nat.le_of_ble_eq_true rfl) rfl ?_
  show Sj l G (QI G n sh x) c_J6_bitCount_0f7a4 n sh 0 0 μ 0 [some (vi v0)] []
  unfold m_J6_bitCount_0f7a4 at h
  refine s_iload_n (pc := 0) d_J6_bitCount_0f7a4_0 rfl rfl ?_
  refine s_iload_n (pc := 1) d_J6_bitCount_0f7a4_1 rfl rfl ?_
  refine s_iconst (pc := 2) (v := 1) d_J6_bitCount_0f7a4_2 (by decide) ?_
  refine s_iushr (pc := 3) d_J6_bitCount_0f7a4_3 ?_
  refine s_ldcw (pc := 4) (v := 1431655765) d_J6_bitCount_0f7a4_4 w_375 ?_
  refine s_iand (pc := 7) d_J6_bitCount_0f7a4_7 ?_
  refine s_isub (pc := 8) d_J6_bitCount_0f7a4_8 ?_
  obtain ⟨w1, ew1, h⟩ := bd_1 h
  refine s_topI ew1 ?_
  refine s_istore_n (pc := 9) (lc' := [some (vi w1)]) d_J6_bitCount_0f7a4_9 rfl (by decide) rfl ?_
  refine s_iload_n (pc := 10) d_J6_bitCount_0f7a4_10 rfl rfl ?_
  refine s_ldcw (pc := 11) (v := 858993459) d_J6_bitCount_0f7a4_11 w_376 ?_
  refine s_iand (pc := 14) d_J6_bitCount_0f7a4_14 ?_
  refine s_iload_n (pc := 15) d_J6_bitCount_0f7a4_15 rfl rfl ?_
  refine s_iconst (pc := 16) (v := 2) d_J6_bitCount_0f7a4_16 (by decide) ?_
  refine s_iushr (pc := 17) d_J6_bitCount_0f7a4_17 ?_
  refine s_ldcw (pc := 18) (v := 858993459) d_J6_bitCount_0f7a4_18 w_376 ?_
  refine s_iand (pc := 21) d_J6_bitCount_0f7a4_21 ?_
  refine s_iadd (pc := 22) d_J6_bitCount_0f7a4_22 ?_
  obtain ⟨w2, ew2, h⟩ := bd_1 h
  refine s_topI ew2 ?_
  refine s_istore_n (pc := 23) (lc' := [some (vi w2)]) d_J6_bitCount_0f7a4_23 rfl (by decide) rfl ?_
  refine s_iload_n (pc := 24) d_J6_bitCount_0f7a4_24 rfl rfl ?_
  refine s_iload_n (pc := 25) d_J6_bitCount_0f7a4_25 rfl rfl ?_
  refine s_iconst (pc := 26) (v := 4) d_J6_bitCount_0f7a4_26 (by decide) ?_
  refine s_iushr (pc := 27) d_J6_bitCount_0f7a4_27 ?_
  refine s_iadd (pc := 28) d_J6_bitCount_0f7a4_28 ?_
  refine s_ldcw (pc := 29) (v := 252645135) d_J6_bitCount_0f7a4_29 w_377 ?_
  refine s_iand (pc := 32) d_J6_bitCount_0f7a4_32 ?_
  obtain ⟨w3, ew3, h⟩ := bd_1 h
  refine s_topI ew3 ?_
  refine s_istore_n (pc := 33) (lc' := [some (vi w3)]) d_J6_bitCount_0f7a4_33 rfl (by decide) rfl ?_
  refine s_iload_n (pc := 34) d_J6_bitCount_0f7a4_34 rfl rfl ?_
  refine s_iload_n (pc := 35) d_J6_bitCount_0f7a4_35 rfl rfl ?_
  refine s_bipush (pc := 36) (v := 8) d_J6_bitCount_0f7a4_36 (by decide) ?_
  refine s_iushr (pc := 38) d_J6_bitCount_0f7a4_38 ?_
  refine s_iadd (pc := 39) d_J6_bitCount_0f7a4_39 ?_
  obtain ⟨w4, ew4, h⟩ := bd_1 h
  refine s_topI ew4 ?_
  refine s_istore_n (pc := 40) (lc' := [some (vi w4)]) d_J6_bitCount_0f7a4_40 rfl (by decide) rfl ?_
  refine s_iload_n (pc := 41) d_J6_bitCount_0f7a4_41 rfl rfl ?_
  refine s_iload_n (pc := 42) d_J6_bitCount_0f7a4_42 rfl rfl ?_
  refine s_bipush (pc := 43) (v := 16) d_J6_bitCount_0f7a4_43 (by decide) ?_
  refine s_iushr (pc := 45) d_J6_bitCount_0f7a4_45 ?_
  refine s_iadd (pc := 46) d_J6_bitCount_0f7a4_46 ?_
  obtain ⟨w5, ew5, h⟩ := bd_1 h
  refine s_topI ew5 ?_
  refine s_istore_n (pc := 47) (lc' := [some (vi w5)]) d_J6_bitCount_0f7a4_47 rfl (by decide) rfl ?_
  refine s_iload_n (pc := 48) d_J6_bitCount_0f7a4_48 rfl rfl ?_
  refine s_bipush (pc := 49) (v := 63) d_J6_bitCount_0f7a4_49 (by decide) ?_
  refine s_iand (pc := 51) d_J6_bitCount_0f7a4_51 ?_
  obtain rfl := Option.some.inj h
  exact s_iret (pc := 52) d_J6_bitCount_0f7a4_52 rfl
/-! java/lang/Integer.numberOfTrailingZeros -/
abbrev c_J6_numberOfTrailingZeros_0f7a4 : Cf := (prog_10_method_48_code, 2, "java/lang/Integer", "numberOfTrailingZeros", (some .int), { frames := 0, cells := 0, slots := 0, locals := 0 })
theorem d_J6_numberOfTrailingZeros_0f7a4_0 : decode prog_10_method_48_code 0 = .ok (.iload_n 0, 1) := by decide +kernel
theorem d_J6_numberOfTrailingZeros_0f7a4_1 : decode prog_10_method_48_code 1 = .ok (.iconst (-1), 1) := by decide +kernel
theorem d_J6_numberOfTrailingZeros_0f7a4_2 : decode prog_10_method_48_code 2 = .ok (.ixor, 1) := by decide +kernel
theorem d_J6_numberOfTrailingZeros_0f7a4_3 : decode prog_10_method_48_code 3 = .ok (.iload_n 0, 1) := by decide +kernel
theorem d_J6_numberOfTrailingZeros_0f7a4_4 : decode prog_10_method_48_code 4 = .ok (.iconst 1, 1) := by decide +kernel
theorem d_J6_numberOfTrailingZeros_0f7a4_5 : decode prog_10_method_48_code 5 = .ok (.isub, 1) := by decide +kernel
theorem d_J6_numberOfTrailingZeros_0f7a4_6 : decode prog_10_method_48_code 6 = .ok (.iand, 1) := by decide +kernel
theorem d_J6_numberOfTrailingZeros_0f7a4_7 : decode prog_10_method_48_code 7 = .ok (.istore_n 0, 1) := by decide +kernel
theorem d_J6_numberOfTrailingZeros_0f7a4_8 : decode prog_10_method_48_code 8 = .ok (.iload_n 0, 1) := by decide +kernel
theorem d_J6_numberOfTrailingZeros_0f7a4_9 : decode prog_10_method_48_code 9 = .ok (.ifCond .gt 8, 3) := by decide +kernel
theorem d_J6_numberOfTrailingZeros_0f7a4_12 : decode prog_10_method_48_code 12 = .ok (.iload_n 0, 1) := by decide +kernel
theorem d_J6_numberOfTrailingZeros_0f7a4_13 : decode prog_10_method_48_code 13 = .ok (.bipush 32, 2) := by decide +kernel
theorem d_J6_numberOfTrailingZeros_0f7a4_15 : decode prog_10_method_48_code 15 = .ok (.iand, 1) := by decide +kernel
theorem d_J6_numberOfTrailingZeros_0f7a4_16 : decode prog_10_method_48_code 16 = .ok (.ireturn, 1) := by decide +kernel
theorem d_J6_numberOfTrailingZeros_0f7a4_17 : decode prog_10_method_48_code 17 = .ok (.iconst 1, 1) := by decide +kernel
theorem d_J6_numberOfTrailingZeros_0f7a4_18 : decode prog_10_method_48_code 18 = .ok (.istore_n 1, 1) := by decide +kernel
theorem d_J6_numberOfTrailingZeros_0f7a4_19 : decode prog_10_method_48_code 19 = .ok (.iload_n 0, 1) := by decide +kernel
theorem d_J6_numberOfTrailingZeros_0f7a4_20 : decode prog_10_method_48_code 20 = .ok (.ldc_w 264, 3) := by decide +kernel
theorem d_J6_numberOfTrailingZeros_0f7a4_23 : decode prog_10_method_48_code 23 = .ok (.if_icmp .le 11, 3) := by decide +kernel
theorem d_J6_numberOfTrailingZeros_0f7a4_26 : decode prog_10_method_48_code 26 = .ok (.iinc 1 16, 3) := by decide +kernel
theorem d_J6_numberOfTrailingZeros_0f7a4_29 : decode prog_10_method_48_code 29 = .ok (.iload_n 0, 1) := by decide +kernel
theorem d_J6_numberOfTrailingZeros_0f7a4_30 : decode prog_10_method_48_code 30 = .ok (.bipush 16, 2) := by decide +kernel
theorem d_J6_numberOfTrailingZeros_0f7a4_32 : decode prog_10_method_48_code 32 = .ok (.iushr, 1) := by decide +kernel
theorem d_J6_numberOfTrailingZeros_0f7a4_33 : decode prog_10_method_48_code 33 = .ok (.istore_n 0, 1) := by decide +kernel
theorem d_J6_numberOfTrailingZeros_0f7a4_34 : decode prog_10_method_48_code 34 = .ok (.iload_n 0, 1) := by decide +kernel
theorem d_J6_numberOfTrailingZeros_0f7a4_35 : decode prog_10_method_48_code 35 = .ok (.sipush 256, 3) := by decide +kernel
theorem d_J6_numberOfTrailingZeros_0f7a4_38 : decode prog_10_method_48_code 38 = .ok (.if_icmp .le 11, 3) := by decide +kernel
theorem d_J6_numberOfTrailingZeros_0f7a4_41 : decode prog_10_method_48_code 41 = .ok (.iinc 1 8, 3) := by decide +kernel
theorem d_J6_numberOfTrailingZeros_0f7a4_44 : decode prog_10_method_48_code 44 = .ok (.iload_n 0, 1) := by decide +kernel
theorem d_J6_numberOfTrailingZeros_0f7a4_45 : decode prog_10_method_48_code 45 = .ok (.bipush 8, 2) := by decide +kernel
theorem d_J6_numberOfTrailingZeros_0f7a4_47 : decode prog_10_method_48_code 47 = .ok (.iushr, 1) := by decide +kernel
theorem d_J6_numberOfTrailingZeros_0f7a4_48 : decode prog_10_method_48_code 48 = .ok (.istore_n 0, 1) := by decide +kernel
theorem d_J6_numberOfTrailingZeros_0f7a4_49 : decode prog_10_method_48_code 49 = .ok (.iload_n 0, 1) := by decide +kernel
theorem d_J6_numberOfTrailingZeros_0f7a4_50 : decode prog_10_method_48_code 50 = .ok (.bipush 16, 2) := by decide +kernel
theorem d_J6_numberOfTrailingZeros_0f7a4_52 : decode prog_10_method_48_code 52 = .ok (.if_icmp .le 10, 3) := by decide +kernel
theorem d_J6_numberOfTrailingZeros_0f7a4_55 : decode prog_10_method_48_code 55 = .ok (.iinc 1 4, 3) := by decide +kernel
theorem d_J6_numberOfTrailingZeros_0f7a4_58 : decode prog_10_method_48_code 58 = .ok (.iload_n 0, 1) := by decide +kernel
theorem d_J6_numberOfTrailingZeros_0f7a4_59 : decode prog_10_method_48_code 59 = .ok (.iconst 4, 1) := by decide +kernel
theorem d_J6_numberOfTrailingZeros_0f7a4_60 : decode prog_10_method_48_code 60 = .ok (.iushr, 1) := by decide +kernel
theorem d_J6_numberOfTrailingZeros_0f7a4_61 : decode prog_10_method_48_code 61 = .ok (.istore_n 0, 1) := by decide +kernel
theorem d_J6_numberOfTrailingZeros_0f7a4_62 : decode prog_10_method_48_code 62 = .ok (.iload_n 0, 1) := by decide +kernel
theorem d_J6_numberOfTrailingZeros_0f7a4_63 : decode prog_10_method_48_code 63 = .ok (.iconst 4, 1) := by decide +kernel
theorem d_J6_numberOfTrailingZeros_0f7a4_64 : decode prog_10_method_48_code 64 = .ok (.if_icmp .le 10, 3) := by decide +kernel
theorem d_J6_numberOfTrailingZeros_0f7a4_67 : decode prog_10_method_48_code 67 = .ok (.iinc 1 2, 3) := by decide +kernel
theorem d_J6_numberOfTrailingZeros_0f7a4_70 : decode prog_10_method_48_code 70 = .ok (.iload_n 0, 1) := by decide +kernel
theorem d_J6_numberOfTrailingZeros_0f7a4_71 : decode prog_10_method_48_code 71 = .ok (.iconst 2, 1) := by decide +kernel
theorem d_J6_numberOfTrailingZeros_0f7a4_72 : decode prog_10_method_48_code 72 = .ok (.iushr, 1) := by decide +kernel
theorem d_J6_numberOfTrailingZeros_0f7a4_73 : decode prog_10_method_48_code 73 = .ok (.istore_n 0, 1) := by decide +kernel
theorem d_J6_numberOfTrailingZeros_0f7a4_74 : decode prog_10_method_48_code 74 = .ok (.iload_n 1, 1) := by decide +kernel
theorem d_J6_numberOfTrailingZeros_0f7a4_75 : decode prog_10_method_48_code 75 = .ok (.iload_n 0, 1) := by decide +kernel
theorem d_J6_numberOfTrailingZeros_0f7a4_76 : decode prog_10_method_48_code 76 = .ok (.iconst 1, 1) := by decide +kernel
theorem d_J6_numberOfTrailingZeros_0f7a4_77 : decode prog_10_method_48_code 77 = .ok (.iushr, 1) := by decide +kernel
theorem d_J6_numberOfTrailingZeros_0f7a4_78 : decode prog_10_method_48_code 78 = .ok (.iadd, 1) := by decide +kernel
theorem d_J6_numberOfTrailingZeros_0f7a4_79 : decode prog_10_method_48_code 79 = .ok (.ireturn, 1) := by decide +kernel
def m_J6_numberOfTrailingZeros_0f7a4_b74 (sh : Sh) (v0 : Int32) (v1 : Int32) (μ : Mu) : Option (Int32 × Mu) :=
  some (v1 + ((v0.toUInt32 >>> ((1 : Int32).toUInt32 &&& Int32.toUInt32 31)).toInt32), μ)
def m_J6_numberOfTrailingZeros_0f7a4_b62 (sh : Sh) (v0 : Int32) (v1 : Int32) (μ : Mu) : Option (Int32 × Mu) :=
  if v0 ≤ 4 then
    m_J6_numberOfTrailingZeros_0f7a4_b74 sh v0 v1 μ
  else
    bd (v1 + 2) fun w13 =>
    bd ((v0.toUInt32 >>> ((2 : Int32).toUInt32 &&& Int32.toUInt32 31)).toInt32) fun w14 =>
    m_J6_numberOfTrailingZeros_0f7a4_b74 sh w14 w13 μ
def m_J6_numberOfTrailingZeros_0f7a4_b49 (sh : Sh) (v0 : Int32) (v1 : Int32) (μ : Mu) : Option (Int32 × Mu) :=
  if v0 ≤ 16 then
    m_J6_numberOfTrailingZeros_0f7a4_b62 sh v0 v1 μ
  else
    bd (v1 + 4) fun w10 =>
    bd ((v0.toUInt32 >>> ((4 : Int32).toUInt32 &&& Int32.toUInt32 31)).toInt32) fun w11 =>
    m_J6_numberOfTrailingZeros_0f7a4_b62 sh w11 w10 μ
def m_J6_numberOfTrailingZeros_0f7a4_b34 (sh : Sh) (v0 : Int32) (v1 : Int32) (μ : Mu) : Option (Int32 × Mu) :=
  if v0 ≤ 256 then
    m_J6_numberOfTrailingZeros_0f7a4_b49 sh v0 v1 μ
  else
    bd (v1 + 8) fun w7 =>
    bd ((v0.toUInt32 >>> ((8 : Int32).toUInt32 &&& Int32.toUInt32 31)).toInt32) fun w8 =>
    m_J6_numberOfTrailingZeros_0f7a4_b49 sh w8 w7 μ
def m_J6_numberOfTrailingZeros_0f7a4 (sh : Sh) (v0 : Int32) (μ : Mu) : Option (Int32 × Mu) :=
  bd ((v0 ^^^ (-1)) &&& (v0 - 1)) fun w1 =>
  if 0 < w1 then
    if w1 ≤ 65536 then
      m_J6_numberOfTrailingZeros_0f7a4_b34 sh w1 1 μ
    else
      bd (1 + 16) fun w4 =>
      bd ((w1.toUInt32 >>> ((16 : Int32).toUInt32 &&& Int32.toUInt32 31)).toInt32) fun w5 =>
      m_J6_numberOfTrailingZeros_0f7a4_b34 sh w5 w4 μ
  else
    some (w1 &&& 32, μ)
set_option maxHeartbeats 4000000 in
set_option maxRecDepth 20000 in
theorem t_J6_numberOfTrailingZeros_0f7a4_b74 {l : Launch} {G : Gl} {n : Nat} {sh : Sh} {x : Int32 × Mu} {v0 : Int32} {v1 : Int32} {μ : Mu} (h : m_J6_numberOfTrailingZeros_0f7a4_b74 sh v0 v1 μ = some x) : Sj l G (QI G n sh x) c_J6_numberOfTrailingZeros_0f7a4 n sh 0 0 μ 74 [some (vi v0), some (vi v1)] [] := by
  unfold m_J6_numberOfTrailingZeros_0f7a4_b74 at h
  refine s_iload_n (pc := 74) d_J6_numberOfTrailingZeros_0f7a4_74 rfl rfl ?_
  refine s_iload_n (pc := 75) d_J6_numberOfTrailingZeros_0f7a4_75 rfl rfl ?_
  refine s_iconst (pc := 76) (v := 1) d_J6_numberOfTrailingZeros_0f7a4_76 (by decide) ?_
  refine s_iushr (pc := 77) d_J6_numberOfTrailingZeros_0f7a4_77 ?_
  refine s_iadd (pc := 78) d_J6_numberOfTrailingZeros_0f7a4_78 ?_
  obtain rfl := Option.some.inj h
  exact s_iret (pc := 79) d_J6_numberOfTrailingZeros_0f7a4_79 rfl
set_option maxHeartbeats 4000000 in
set_option maxRecDepth 20000 in
theorem t_J6_numberOfTrailingZeros_0f7a4_b62 {l : Launch} {G : Gl} {n : Nat} {sh : Sh} {x : Int32 × Mu} {v0 : Int32} {v1 : Int32} {μ : Mu} (h : m_J6_numberOfTrailingZeros_0f7a4_b62 sh v0 v1 μ = some x) : Sj l G (QI G n sh x) c_J6_numberOfTrailingZeros_0f7a4 n sh 0 0 μ 62 [some (vi v0), some (vi v1)] [] := by
  unfold m_J6_numberOfTrailingZeros_0f7a4_b62 at h
  refine s_iload_n (pc := 62) d_J6_numberOfTrailingZeros_0f7a4_62 rfl rfl ?_
  refine s_iconst (pc := 63) (v := 4) d_J6_numberOfTrailingZeros_0f7a4_63 (by decide) ?_
  refine s_icmp_le (pc := 64) (tgt := 74) d_J6_numberOfTrailingZeros_0f7a4_64 (by decide) (fun c12 => ?_) (fun c12 => ?_)
  · have h := it_t c12 h
    exact t_J6_numberOfTrailingZeros_0f7a4_b74 h
  · have h := it_f c12 h
    obtain ⟨w13, ew13, h⟩ := bd_1 h
    refine s_iinc (pc := 67) (v := w13) (lc' := [some (vi v0), some (vi w13)]) d_J6_numberOfTrailingZeros_0f7a4_67 rfl (by rw [ew13]; rfl) (by decide) rfl ?_
    refine s_iload_n (pc := 70) d_J6_numberOfTrailingZeros_0f7a4_70 rfl rfl ?_
    refine s_iconst (pc := 71) (v := 2) d_J6_numberOfTrailingZeros_0f7a4_71 (by decide) ?_
    refine s_iushr (pc := 72) d_J6_numberOfTrailingZeros_0f7a4_72 ?_
    obtain ⟨w14, ew14, h⟩ := bd_1 h
    refine s_topI ew14 ?_
    refine s_istore_n (pc := 73) (lc' := [some (vi w14), some (vi w13)]) d_J6_numberOfTrailingZeros_0f7a4_73 rfl (by decide) rfl ?_
    exact t_J6_numberOfTrailingZeros_0f7a4_b74 h
set_option maxHeartbeats 4000000 in
set_option maxRecDepth 20000 in
theorem t_J6_numberOfTrailingZeros_0f7a4_b49 {l : Launch} {G : Gl} {n : Nat} {sh : Sh} {x : Int32 × Mu} {v0 : Int32} {v1 : Int32} {μ : Mu} (h : m_J6_numberOfTrailingZeros_0f7a4_b49 sh v0 v1 μ = some x) : Sj l G (QI G n sh x) c_J6_numberOfTrailingZeros_0f7a4 n sh 0 0 μ 49 [some (vi v0), some (vi v1)] [] := by
  unfold m_J6_numberOfTrailingZeros_0f7a4_b49 at h
  refine s_iload_n (pc := 49) d_J6_numberOfTrailingZeros_0f7a4_49 rfl rfl ?_
  refine s_bipush (pc := 50) (v := 16) d_J6_numberOfTrailingZeros_0f7a4_50 (by decide) ?_
  refine s_icmp_le (pc := 52) (tgt := 62) d_J6_numberOfTrailingZeros_0f7a4_52 (by decide) (fun c9 => ?_) (fun c9 => ?_)
  · have h := it_t c9 h
    exact t_J6_numberOfTrailingZeros_0f7a4_b62 h
  · have h := it_f c9 h
    obtain ⟨w10, ew10, h⟩ := bd_1 h
    refine s_iinc (pc := 55) (v := w10) (lc' := [some (vi v0), some (vi w10)]) d_J6_numberOfTrailingZeros_0f7a4_55 rfl (by rw [ew10]; rfl) (by decide) rfl ?_
    refine s_iload_n (pc := 58) d_J6_numberOfTrailingZeros_0f7a4_58 rfl rfl ?_
    refine s_iconst (pc := 59) (v := 4) d_J6_numberOfTrailingZeros_0f7a4_59 (by decide) ?_
    refine s_iushr (pc := 60) d_J6_numberOfTrailingZeros_0f7a4_60 ?_
    obtain ⟨w11, ew11, h⟩ := bd_1 h
    refine s_topI ew11 ?_
    refine s_istore_n (pc := 61) (lc' := [some (vi w11), some (vi w10)]) d_J6_numberOfTrailingZeros_0f7a4_61 rfl (by decide) rfl ?_
    exact t_J6_numberOfTrailingZeros_0f7a4_b62 h
set_option maxHeartbeats 4000000 in
set_option maxRecDepth 20000 in
theorem t_J6_numberOfTrailingZeros_0f7a4_b34 {l : Launch} {G : Gl} {n : Nat} {sh : Sh} {x : Int32 × Mu} {v0 : Int32} {v1 : Int32} {μ : Mu} (h : m_J6_numberOfTrailingZeros_0f7a4_b34 sh v0 v1 μ = some x) : Sj l G (QI G n sh x) c_J6_numberOfTrailingZeros_0f7a4 n sh 0 0 μ 34 [some (vi v0), some (vi v1)] [] := by
  unfold m_J6_numberOfTrailingZeros_0f7a4_b34 at h
  refine s_iload_n (pc := 34) d_J6_numberOfTrailingZeros_0f7a4_34 rfl rfl ?_
  refine s_sipush (pc := 35) (v := 256) d_J6_numberOfTrailingZeros_0f7a4_35 (by decide) ?_
  refine s_icmp_le (pc := 38) (tgt := 49) d_J6_numberOfTrailingZeros_0f7a4_38 (by decide) (fun c6 => ?_) (fun c6 => ?_)
  · have h := it_t c6 h
    exact t_J6_numberOfTrailingZeros_0f7a4_b49 h
  · have h := it_f c6 h
    obtain ⟨w7, ew7, h⟩ := bd_1 h
    refine s_iinc (pc := 41) (v := w7) (lc' := [some (vi v0), some (vi w7)]) d_J6_numberOfTrailingZeros_0f7a4_41 rfl (by rw [ew7]; rfl) (by decide) rfl ?_
    refine s_iload_n (pc := 44) d_J6_numberOfTrailingZeros_0f7a4_44 rfl rfl ?_
    refine s_bipush (pc := 45) (v := 8) d_J6_numberOfTrailingZeros_0f7a4_45 (by decide) ?_
    refine s_iushr (pc := 47) d_J6_numberOfTrailingZeros_0f7a4_47 ?_
    obtain ⟨w8, ew8, h⟩ := bd_1 h
    refine s_topI ew8 ?_
    refine s_istore_n (pc := 48) (lc' := [some (vi w8), some (vi w7)]) d_J6_numberOfTrailingZeros_0f7a4_48 rfl (by decide) rfl ?_
    exact t_J6_numberOfTrailingZeros_0f7a4_b49 h
set_option maxHeartbeats 4000000 in
set_option maxRecDepth 20000 in
theorem t_J6_numberOfTrailingZeros_0f7a4 {l : Launch} {G : Gl} {n : Nat} {sh : Sh} {x : Int32 × Mu} {v0 : Int32} {μ : Mu} (h : m_J6_numberOfTrailingZeros_0f7a4 sh v0 μ = some x) : Ct l G ⟨"java/lang/Integer", "numberOfTrailingZeros", "(I)I"⟩ prog_10_method_48_code 2 (some .int) { frames := 0, cells := 0, slots := 0, locals := 0 } n sh μ [vi v0] (some (.int x.1)) n sh x.2 := by
  refine Ct.of (lc := [some (vi v0), none]) (by decide +kernel) (Nat.le_of_ble_eq_true rfl) rfl ?_
  show Sj l G (QI G n sh x) c_J6_numberOfTrailingZeros_0f7a4 n sh 0 0 μ 0 [some (vi v0), none] []
  unfold m_J6_numberOfTrailingZeros_0f7a4 at h
  refine s_iload_n (pc := 0) d_J6_numberOfTrailingZeros_0f7a4_0 rfl rfl ?_
  refine s_iconst (pc := 1) (v := (-1)) d_J6_numberOfTrailingZeros_0f7a4_1 (by decide) ?_
  refine s_ixor (pc := 2) d_J6_numberOfTrailingZeros_0f7a4_2 ?_
  refine s_iload_n (pc := 3) d_J6_numberOfTrailingZeros_0f7a4_3 rfl rfl ?_
  refine s_iconst (pc := 4) (v := 1) d_J6_numberOfTrailingZeros_0f7a4_4 (by decide) ?_
  refine s_isub (pc := 5) d_J6_numberOfTrailingZeros_0f7a4_5 ?_
  refine s_iand (pc := 6) d_J6_numberOfTrailingZeros_0f7a4_6 ?_
  obtain ⟨w1, ew1, h⟩ := bd_1 h
  refine s_topI ew1 ?_
  refine s_istore_n (pc := 7) (lc' := [some (vi w1), none]) d_J6_numberOfTrailingZeros_0f7a4_7 rfl (by decide) rfl ?_
  refine s_iload_n (pc := 8) d_J6_numberOfTrailingZeros_0f7a4_8 rfl rfl ?_
  refine s_if_gt (pc := 9) (tgt := 17) d_J6_numberOfTrailingZeros_0f7a4_9 (by decide) (fun c2 => ?_) (fun c2 => ?_)
  · have h := it_t c2 h
    refine s_iconst (pc := 17) (v := 1) d_J6_numberOfTrailingZeros_0f7a4_17 (by decide) ?_
    refine s_istore_n (pc := 18) (lc' := [some (vi w1), some (vi 1)]) d_J6_numberOfTrailingZeros_0f7a4_18 rfl (by decide) rfl ?_
    refine s_iload_n (pc := 19) d_J6_numberOfTrailingZeros_0f7a4_19 rfl rfl ?_
    refine s_ldcw (pc := 20) (v := 65536) d_J6_numberOfTrailingZeros_0f7a4_20 w_513 ?_
    refine s_icmp_le (pc := 23) (tgt := 34) d_J6_numberOfTrailingZeros_0f7a4_23 (by decide) (fun c3 => ?_) (fun c3 => ?_)
    · have h := it_t c3 h
      exact t_J6_numberOfTrailingZeros_0f7a4_b34 h
    · have h := it_f c3 h
      obtain ⟨w4, ew4, h⟩ := bd_1 h
      refine s_iinc (pc := 26) (v := w4) (lc' := [some (vi w1), some (vi w4)]) d_J6_numberOfTrailingZeros_0f7a4_26 rfl (by rw [ew4]; rfl) (by decide) rfl ?_
      refine s_iload_n (pc := 29) d_J6_numberOfTrailingZeros_0f7a4_29 rfl rfl ?_
      refine s_bipush (pc := 30) (v := 16) d_J6_numberOfTrailingZeros_0f7a4_30 (by decide) ?_
      refine s_iushr (pc := 32) d_J6_numberOfTrailingZeros_0f7a4_32 ?_
      obtain ⟨w5, ew5, h⟩ := bd_1 h
      refine s_topI ew5 ?_
      refine s_istore_n (pc := 33) (lc' := [some (vi w5), some (vi w4)]) d_J6_numberOfTrailingZeros_0f7a4_33 rfl (by decide) rfl ?_
      exact t_J6_numberOfTrailingZeros_0f7a4_b34 h
  · have h := it_f c2 h
    refine s_iload_n (pc := 12) d_J6_numberOfTrailingZeros_0f7a4_12 rfl rfl ?_
    refine s_bipush (pc := 13) (v := 32) d_J6_numberOfTrailingZeros_0f7a4_13 (by decide) ?_
    refine s_iand (pc := 15) d_J6_numberOfTrailingZeros_0f7a4_15 ?_
    obtain rfl := Option.some.inj h
    exact s_iret (pc := 16) d_J6_numberOfTrailingZeros_0f7a4_16 rfl

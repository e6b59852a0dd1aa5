/-! StripsOfFourModel.keep -/
abbrev c_X7_keep : Cf := (prog_9_method_59_code, 3, "StripsOfFourModel", "keep", (some .int), { frames := 1, cells := 0, slots := 0, locals := 25 })
theorem d_X7_keep_0 : decode prog_9_method_59_code 0 = .ok (.aload_n 0, 1) := by decide +kernel
theorem d_X7_keep_1 : decode prog_9_method_59_code 1 = .ok (.iconst 0, 1) := by decide +kernel
theorem d_X7_keep_2 : decode prog_9_method_59_code 2 = .ok (.putfield 66, 3) := by decide +kernel
theorem d_X7_keep_5 : decode prog_9_method_59_code 5 = .ok (.iload_n 1, 1) := by decide +kernel
theorem d_X7_keep_6 : decode prog_9_method_59_code 6 = .ok (.i2l, 1) := by decide +kernel
theorem d_X7_keep_7 : decode prog_9_method_59_code 7 = .ok (.lconst 0, 1) := by decide +kernel
theorem d_X7_keep_8 : decode prog_9_method_59_code 8 = .ok (.lconst 1, 1) := by decide +kernel
theorem d_X7_keep_9 : decode prog_9_method_59_code 9 = .ok (.invokestatic 73, 3) := by decide +kernel
theorem d_X7_keep_12 : decode prog_9_method_59_code 12 = .ok (.ifCond .ne 5, 3) := by decide +kernel
theorem d_X7_keep_15 : decode prog_9_method_59_code 15 = .ok (.iconst (-1), 1) := by decide +kernel
theorem d_X7_keep_16 : decode prog_9_method_59_code 16 = .ok (.ireturn, 1) := by decide +kernel
theorem d_X7_keep_17 : decode prog_9_method_59_code 17 = .ok (.aload_n 0, 1) := by decide +kernel
theorem d_X7_keep_18 : decode prog_9_method_59_code 18 = .ok (.getfield 47, 3) := by decide +kernel
theorem d_X7_keep_21 : decode prog_9_method_59_code 21 = .ok (.iload_n 1, 1) := by decide +kernel
theorem d_X7_keep_22 : decode prog_9_method_59_code 22 = .ok (.iconst 1, 1) := by decide +kernel
theorem d_X7_keep_23 : decode prog_9_method_59_code 23 = .ok (.bastore, 1) := by decide +kernel
theorem d_X7_keep_24 : decode prog_9_method_59_code 24 = .ok (.iconst 0, 1) := by decide +kernel
theorem d_X7_keep_25 : decode prog_9_method_59_code 25 = .ok (.istore_n 2, 1) := by decide +kernel
theorem d_X7_keep_26 : decode prog_9_method_59_code 26 = .ok (.iload_n 2, 1) := by decide +kernel
theorem d_X7_keep_27 : decode prog_9_method_59_code 27 = .ok (.sipush 205, 3) := by decide +kernel
theorem d_X7_keep_30 : decode prog_9_method_59_code 30 = .ok (.if_icmp .ge 27, 3) := by decide +kernel
theorem d_X7_keep_33 : decode prog_9_method_59_code 33 = .ok (.aload_n 0, 1) := by decide +kernel
theorem d_X7_keep_34 : decode prog_9_method_59_code 34 = .ok (.getfield 41, 3) := by decide +kernel
theorem d_X7_keep_37 : decode prog_9_method_59_code 37 = .ok (.sipush 205, 3) := by decide +kernel
theorem d_X7_keep_40 : decode prog_9_method_59_code 40 = .ok (.iload_n 1, 1) := by decide +kernel
theorem d_X7_keep_41 : decode prog_9_method_59_code 41 = .ok (.imul, 1) := by decide +kernel
theorem d_X7_keep_42 : decode prog_9_method_59_code 42 = .ok (.iload_n 2, 1) := by decide +kernel
theorem d_X7_keep_43 : decode prog_9_method_59_code 43 = .ok (.iadd, 1) := by decide +kernel
theorem d_X7_keep_44 : decode prog_9_method_59_code 44 = .ok (.aload_n 0, 1) := by decide +kernel
theorem d_X7_keep_45 : decode prog_9_method_59_code 45 = .ok (.getfield 31, 3) := by decide +kernel
theorem d_X7_keep_48 : decode prog_9_method_59_code 48 = .ok (.iload_n 2, 1) := by decide +kernel
theorem d_X7_keep_49 : decode prog_9_method_59_code 49 = .ok (.iaload, 1) := by decide +kernel
theorem d_X7_keep_50 : decode prog_9_method_59_code 50 = .ok (.iastore, 1) := by decide +kernel
theorem d_X7_keep_51 : decode prog_9_method_59_code 51 = .ok (.iinc 2 1, 3) := by decide +kernel
theorem d_X7_keep_54 : decode prog_9_method_59_code 54 = .ok (.goto (-28), 3) := by decide +kernel
theorem d_X7_keep_57 : decode prog_9_method_59_code 57 = .ok (.aload_n 0, 1) := by decide +kernel
theorem d_X7_keep_58 : decode prog_9_method_59_code 58 = .ok (.getfield 44, 3) := by decide +kernel
theorem d_X7_keep_61 : decode prog_9_method_59_code 61 = .ok (.iload_n 1, 1) := by decide +kernel
theorem d_X7_keep_62 : decode prog_9_method_59_code 62 = .ok (.aload_n 0, 1) := by decide +kernel
theorem d_X7_keep_63 : decode prog_9_method_59_code 63 = .ok (.getfield 147, 3) := by decide +kernel
theorem d_X7_keep_66 : decode prog_9_method_59_code 66 = .ok (.lastore, 1) := by decide +kernel
theorem d_X7_keep_67 : decode prog_9_method_59_code 67 = .ok (.aload_n 0, 1) := by decide +kernel
theorem d_X7_keep_68 : decode prog_9_method_59_code 68 = .ok (.getfield 31, 3) := by decide +kernel
theorem d_X7_keep_71 : decode prog_9_method_59_code 71 = .ok (.sipush 203, 3) := by decide +kernel
theorem d_X7_keep_74 : decode prog_9_method_59_code 74 = .ok (.iaload, 1) := by decide +kernel
theorem d_X7_keep_75 : decode prog_9_method_59_code 75 = .ok (.ireturn, 1) := by decide +kernel
def m_X7_keep_b57 (sh : Sh) (v0 : Nat) (v1 : Int32) (μ : Mu) : Option (Int32 × Mu) :=
  gd (iz sh 7 v0) <|
  bd (gR μ v0 22) fun a19 =>
  gd (ix sh 9 a19 v1) <|
  bd (sJ μ a19 v1.toNatClampNeg (gJ μ v0 17)) fun μ21 =>
  bd (gR μ21 v0 16) fun a22 =>
  gd (ix sh 8 a22 203) <|
  bd (gI μ21 a22 (203 : Int32).toNatClampNeg) fun w24 =>
  some (w24, μ21)
def m_X7_keep_b26 (sh : Sh) (k26 : Int32 → Mu → Option (Int32 × Mu)) (v0 : Nat) (v1 : Int32) (v2 : Int32) (μ : Mu) : Option (Int32 × Mu) :=
  if 205 ≤ v2 then
    m_X7_keep_b57 sh v0 v1 μ
  else
    gd (iz sh 7 v0) <|
    bd (gR μ v0 21) fun a11 =>
    bd (gR μ v0 16) fun a12 =>
    gd (ix sh 8 a12 v2) <|
    bd (gI μ a12 v2.toNatClampNeg) fun w14 =>
    gd (ix sh 8 a11 ((205 * v1) + v2)) <|
    bd (sI μ a11 ((205 * v1) + v2).toNatClampNeg w14) fun μ16 =>
    bd (v2 + 1) fun w17 =>
    k26 w17 μ16
def m_X7_keep_h26 (sh : Sh) (v0 : Nat) (v1 : Int32) : Nat → Int32 → Mu → Option (Int32 × Mu)
  | 0 => fun _ _ => none
  | f + 1 => fun v2 μ => m_X7_keep_b26 sh (m_X7_keep_h26 sh v0 v1 f) v0 v1 v2 μ
def m_X7_keep (sh : Sh) (v0 : Nat) (v1 : Int32) (μ : Mu) : Option (Int32 × Mu) :=
  gd (iz sh 7 v0) <|
  bd (sI μ v0 0 0) fun μ2 =>
  ca2 (m_X7_in sh (v1.toInt64) 0 1 μ2) fun r3 μ4 =>
  if r3 = 0 then
    some ((-1), μ4)
  else
    bd (gR μ4 v0 23) fun a6 =>
    gd (ix sh 10 a6 v1) <|
    bd (sI μ4 a6 v1.toNatClampNeg (1 &&& 1)) fun μ8 =>
    m_X7_keep_h26 sh v0 v1 FU 0 μ8
set_option maxHeartbeats 4000000 in
set_option maxRecDepth 20000 in
theorem t_X7_keep_b57 {l : Launch} {G : Gl} {n : Nat} {sh : Sh} {x : Int32 × Mu} {v0 : Nat} {v1 : Int32} {μ : Mu} (h : m_X7_keep_b57 sh v0 v1 μ = some x) : Sj l G (QI G n sh x) c_X7_keep n sh 0 0 μ 57 [some (vr v0), some (vi v1), none] [] := by
  unfold m_X7_keep_b57 at h
  refine s_aload_n (pc := 57) d_X7_keep_57 rfl rfl ?_
  obtain ⟨g18, h⟩ := gd_1 h
  refine s_getR (pc := 58) (k := 22) cl_7 d_X7_keep_58 g18 (by decide) w_682 (rt_arr _) ?_
  obtain ⟨a19, ea19, h⟩ := bd_1 h
  refine s_topR ea19 ?_
  refine s_iload_n (pc := 61) d_X7_keep_61 rfl rfl ?_
  refine s_aload_n (pc := 62) d_X7_keep_62 rfl rfl ?_
  refine s_getJ (pc := 63) (k := 17) cl_7 d_X7_keep_63 g18 (by decide) w_677 rfl ?_
  obtain ⟨g20, h⟩ := gd_1 h
  refine s_last (pc := 66) d_X7_keep_66 g20 ?_
  obtain ⟨μ21, eμ21, h⟩ := bd_1 h
  refine s_mu eμ21 ?_
  refine s_aload_n (pc := 67) d_X7_keep_67 rfl rfl ?_
  refine s_getR (pc := 68) (k := 16) cl_7 d_X7_keep_68 g18 (by decide) w_676 (rt_arr _) ?_
  obtain ⟨a22, ea22, h⟩ := bd_1 h
  refine s_topR ea22 ?_
  refine s_sipush (pc := 71) (v := 203) d_X7_keep_71 (by decide) ?_
  obtain ⟨g23, h⟩ := gd_1 h
  refine s_iald (pc := 74) d_X7_keep_74 g23 ?_
  obtain ⟨w24, ew24, h⟩ := bd_1 h
  refine s_topI ew24 ?_
  obtain rfl := Option.some.inj h
  exact s_iret (pc := 75) d_X7_keep_75 rfl
set_option maxHeartbeats 4000000 in
set_option maxRecDepth 20000 in
theorem t_X7_keep_b26 {l : Launch} {G : Gl} {n : Nat} {sh : Sh} {x : Int32 × Mu} {k26 : Int32 → Mu → Option (Int32 × Mu)} {v0 : Nat} {v1 : Int32} {v2 : Int32} {μ : Mu} (hk26 : ∀ (v2 : Int32) (μ : Mu), k26 v2 μ = some x → Sj l G (QI G n sh x) c_X7_keep n sh 0 0 μ 26 [some (vr v0), some (vi v1), some (vi v2)] []) (h : m_X7_keep_b26 sh k26 v0 v1 v2 μ = some x) : Sj l G (QI G n sh x) c_X7_keep n sh 0 0 μ 26 [some (vr v0), some (vi v1), some (vi v2)] [] := by
  unfold m_X7_keep_b26 at h
  refine s_iload_n (pc := 26) d_X7_keep_26 rfl rfl ?_
  refine s_sipush (pc := 27) (v := 205) d_X7_keep_27 (by decide) ?_
  refine s_icmp_ge (pc := 30) (tgt := 57) d_X7_keep_30 (by decide) (fun c9 => ?_) (fun c9 => ?_)
  · have h := it_t c9 h
    refine s_mask [true, true, false] rfl ?_
    exact t_X7_keep_b57 h
  · have h := it_f c9 h
    refine s_aload_n (pc := 33) d_X7_keep_33 rfl rfl ?_
    obtain ⟨g10, h⟩ := gd_1 h
    refine s_getR (pc := 34) (k := 21) cl_7 d_X7_keep_34 g10 (by decide) w_681 (rt_arr _) ?_
    obtain ⟨a11, ea11, h⟩ := bd_1 h
    refine s_topR ea11 ?_
    refine s_sipush (pc := 37) (v := 205) d_X7_keep_37 (by decide) ?_
    refine s_iload_n (pc := 40) d_X7_keep_40 rfl rfl ?_
    refine s_imul (pc := 41) d_X7_keep_41 ?_
    refine s_iload_n (pc := 42) d_X7_keep_42 rfl rfl ?_
    refine s_iadd (pc := 43) d_X7_keep_43 ?_
    refine s_aload_n (pc := 44) d_X7_keep_44 rfl rfl ?_
    refine s_getR (pc := 45) (k := 16) cl_7 d_X7_keep_45 g10 (by decide) w_676 (rt_arr _) ?_
    obtain ⟨a12, ea12, h⟩ := bd_1 h
    refine s_topR ea12 ?_
    refine s_iload_n (pc := 48) d_X7_keep_48 rfl rfl ?_
    obtain ⟨g13, h⟩ := gd_1 h
    refine s_iald (pc := 49) d_X7_keep_49 g13 ?_
    obtain ⟨w14, ew14, h⟩ := bd_1 h
    refine s_topI ew14 ?_
    obtain ⟨g15, h⟩ := gd_1 h
    refine s_iast (pc := 50) d_X7_keep_50 g15 ?_
    obtain ⟨μ16, eμ16, h⟩ := bd_1 h
    refine s_mu eμ16 ?_
    obtain ⟨w17, ew17, h⟩ := bd_1 h
    refine s_iinc (pc := 51) (v := w17) (lc' := [some (vr v0), some (vi v1), some (vi w17)]) d_X7_keep_51 rfl (by rw [ew17]; rfl) (by decide) rfl ?_
    refine s_goto (pc := 54) (tgt := 26) d_X7_keep_54 (by decide) ?_
    exact hk26 _ _ h
set_option maxHeartbeats 4000000 in
set_option maxRecDepth 20000 in
theorem t_X7_keep_h26 {l : Launch} {G : Gl} {n : Nat} {sh : Sh} {x : Int32 × Mu} {v0 : Nat} {v1 : Int32} : ∀ (f : Nat) (v2 : Int32) (μ : Mu), m_X7_keep_h26 sh v0 v1 f v2 μ = some x → Sj l G (QI G n sh x) c_X7_keep n sh 0 0 μ 26 [some (vr v0), some (vi v1), some (vi v2)] [] := by
  intro f
  induction f with
  | zero =>
    intro v2 μ h
    cases h
  | succ f ih =>
    intro v2 μ h
    exact t_X7_keep_b26 ih h
set_option maxHeartbeats 4000000 in
set_option maxRecDepth 20000 in
theorem t_X7_keep {l : Launch} {G : Gl} {n : Nat} {sh : Sh} {x : Int32 × Mu} {v0 : Nat} {v1 : Int32} {μ : Mu} (h : m_X7_keep sh v0 v1 μ = some x) : Ct l G ⟨"StripsOfFourModel", "keep", "(I)I"⟩ prog_9_method_59_code 3 (some .int) { frames := 1, cells := 0, slots := 0, locals := 25 } n sh μ [vr v0, vi v1] (some (.int x.1)) n sh x.2 := by
  refine Ct.of (lc := [some (vr v0), some (vi v1), none]) (by decide +kernel) (Nat.le_of_ble_eq_true rfl) rfl ?_
  show Sj l G (QI G n sh x) c_X7_keep n sh 0 0 μ 0 [some (vr v0), some (vi v1), none] []
  unfold m_X7_keep at h
  refine s_aload_n (pc := 0) d_X7_keep_0 rfl rfl ?_
  refine s_iconst (pc := 1) (v := 0) d_X7_keep_1 (by decide) ?_
  obtain ⟨g1, h⟩ := gd_1 h
  refine s_putI (pc := 2) (k := 0) cl_7 d_X7_keep_2 g1 (by decide) w_660 rfl rfl ?_
  obtain ⟨μ2, eμ2, h⟩ := bd_1 h
  refine s_mu eμ2 ?_
  refine s_iload_n (pc := 5) d_X7_keep_5 rfl rfl ?_
  refine s_i2l (pc := 6) d_X7_keep_6 ?_
  refine s_lconst (pc := 7) (v := 0) d_X7_keep_7 (by decide) ?_
  refine s_lconst (pc := 8) (v := 1) d_X7_keep_8 (by decide) ?_
  obtain ⟨r3, μ4, er3, h⟩ := ca2_1 h
  refine s_callS (pc := 9) (as := [vl (v1.toInt64), vl 0, vl 1]) (st := []) (vo := [vi r3]) (t_X7_in er3) d_X7_keep_9 y_X7_in w_754 w_755 ⟨by decide, by decide⟩ ⟨Nat.le_of_ble_eq_true rfl, Nat.le_of_ble_eq_true rfl⟩ (Nat.le_of_ble_eq_true rfl) rfl rfl rfl ?_
  refine s_as (kc' := 0) (js' := 0) (pc' := 12) (st' := [vi r3]) ⟨rfl, rfl, rfl, rfl⟩ ?_
  refine s_if_ne (pc := 12) (tgt := 17) d_X7_keep_12 (by decide) (fun c5 => ?_) (fun c5 => ?_)
  · have h := it_f c5 h
    refine s_aload_n (pc := 17) d_X7_keep_17 rfl rfl ?_
    refine s_getR (pc := 18) (k := 23) cl_7 d_X7_keep_18 g1 (by decide) w_683 (rt_arr _) ?_
    obtain ⟨a6, ea6, h⟩ := bd_1 h
    refine s_topR ea6 ?_
    refine s_iload_n (pc := 21) d_X7_keep_21 rfl rfl ?_
    refine s_iconst (pc := 22) (v := 1) d_X7_keep_22 (by decide) ?_
    obtain ⟨g7, h⟩ := gd_1 h
    refine s_zast (pc := 23) d_X7_keep_23 g7 ?_
    obtain ⟨μ8, eμ8, h⟩ := bd_1 h
    refine s_mu eμ8 ?_
    refine s_iconst (pc := 24) (v := 0) d_X7_keep_24 (by decide) ?_
    refine s_istore_n (pc := 25) (lc' := [some (vr v0), some (vi v1), some (vi 0)]) d_X7_keep_25 rfl (by decide) rfl ?_
    exact t_X7_keep_h26 FU _ _ h
  · have h := it_t c5 h
    refine s_iconst (pc := 15) (v := (-1)) d_X7_keep_15 (by decide) ?_
    obtain rfl := Option.some.inj h
    exact s_iret (pc := 16) d_X7_keep_16 rfl
/-! StripsOfFourModel.leave -/
abbrev c_X7_leave : Cf := (prog_9_method_30_code, 3, "StripsOfFourModel", "leave", (some .int), { frames := 2, cells := 0, slots := 0, locals := 46 })
theorem d_X7_leave_0 : decode prog_9_method_30_code 0 = .ok (.aload_n 0, 1) := by decide +kernel
theorem d_X7_leave_1 : decode prog_9_method_30_code 1 = .ok (.iconst 0, 1) := by decide +kernel
theorem d_X7_leave_2 : decode prog_9_method_30_code 2 = .ok (.putfield 66, 3) := by decide +kernel
theorem d_X7_leave_5 : decode prog_9_method_30_code 5 = .ok (.aload_n 0, 1) := by decide +kernel
theorem d_X7_leave_6 : decode prog_9_method_30_code 6 = .ok (.iload_n 1, 1) := by decide +kernel
theorem d_X7_leave_7 : decode prog_9_method_30_code 7 = .ok (.invokevirtual 133, 3) := by decide +kernel
theorem d_X7_leave_10 : decode prog_9_method_30_code 10 = .ok (.ifCond .eq 5, 3) := by decide +kernel
theorem d_X7_leave_13 : decode prog_9_method_30_code 13 = .ok (.iconst (-1), 1) := by decide +kernel
theorem d_X7_leave_14 : decode prog_9_method_30_code 14 = .ok (.ireturn, 1) := by decide +kernel
theorem d_X7_leave_15 : decode prog_9_method_30_code 15 = .ok (.aload_n 0, 1) := by decide +kernel
theorem d_X7_leave_16 : decode prog_9_method_30_code 16 = .ok (.getfield 31, 3) := by decide +kernel
theorem d_X7_leave_19 : decode prog_9_method_30_code 19 = .ok (.iload_n 1, 1) := by decide +kernel
theorem d_X7_leave_20 : decode prog_9_method_30_code 20 = .ok (.iaload, 1) := by decide +kernel
theorem d_X7_leave_21 : decode prog_9_method_30_code 21 = .ok (.istore_n 2, 1) := by decide +kernel
theorem d_X7_leave_22 : decode prog_9_method_30_code 22 = .ok (.iload_n 2, 1) := by decide +kernel
theorem d_X7_leave_23 : decode prog_9_method_30_code 23 = .ok (.bipush (-9), 2) := by decide +kernel
theorem d_X7_leave_25 : decode prog_9_method_30_code 25 = .ok (.if_icmp .ne 6, 3) := by decide +kernel
theorem d_X7_leave_28 : decode prog_9_method_30_code 28 = .ok (.bipush (-3), 2) := by decide +kernel
theorem d_X7_leave_30 : decode prog_9_method_30_code 30 = .ok (.ireturn, 1) := by decide +kernel
theorem d_X7_leave_31 : decode prog_9_method_30_code 31 = .ok (.aload_n 0, 1) := by decide +kernel
theorem d_X7_leave_32 : decode prog_9_method_30_code 32 = .ok (.invokevirtual 154, 3) := by decide +kernel
theorem d_X7_leave_35 : decode prog_9_method_30_code 35 = .ok (.aload_n 0, 1) := by decide +kernel
theorem d_X7_leave_36 : decode prog_9_method_30_code 36 = .ok (.getfield 31, 3) := by decide +kernel
theorem d_X7_leave_39 : decode prog_9_method_30_code 39 = .ok (.iload_n 1, 1) := by decide +kernel
theorem d_X7_leave_40 : decode prog_9_method_30_code 40 = .ok (.bipush (-9), 2) := by decide +kernel
theorem d_X7_leave_42 : decode prog_9_method_30_code 42 = .ok (.iastore, 1) := by decide +kernel
theorem d_X7_leave_43 : decode prog_9_method_30_code 43 = .ok (.aload_n 0, 1) := by decide +kernel
theorem d_X7_leave_44 : decode prog_9_method_30_code 44 = .ok (.getfield 31, 3) := by decide +kernel
theorem d_X7_leave_47 : decode prog_9_method_30_code 47 = .ok (.iconst 5, 1) := by decide +kernel
theorem d_X7_leave_48 : decode prog_9_method_30_code 48 = .ok (.iload_n 1, 1) := by decide +kernel
theorem d_X7_leave_49 : decode prog_9_method_30_code 49 = .ok (.iadd, 1) := by decide +kernel
theorem d_X7_leave_50 : decode prog_9_method_30_code 50 = .ok (.iload_n 2, 1) := by decide +kernel
theorem d_X7_leave_51 : decode prog_9_method_30_code 51 = .ok (.iastore, 1) := by decide +kernel
theorem d_X7_leave_52 : decode prog_9_method_30_code 52 = .ok (.aload_n 0, 1) := by decide +kernel
theorem d_X7_leave_53 : decode prog_9_method_30_code 53 = .ok (.getfield 31, 3) := by decide +kernel
theorem d_X7_leave_56 : decode prog_9_method_30_code 56 = .ok (.bipush 10, 2) := by decide +kernel
theorem d_X7_leave_58 : decode prog_9_method_30_code 58 = .ok (.iload_n 1, 1) := by decide +kernel
theorem d_X7_leave_59 : decode prog_9_method_30_code 59 = .ok (.iadd, 1) := by decide +kernel
theorem d_X7_leave_60 : decode prog_9_method_30_code 60 = .ok (.aload_n 0, 1) := by decide +kernel
theorem d_X7_leave_61 : decode prog_9_method_30_code 61 = .ok (.getfield 31, 3) := by decide +kernel
theorem d_X7_leave_64 : decode prog_9_method_30_code 64 = .ok (.sipush 203, 3) := by decide +kernel
theorem d_X7_leave_67 : decode prog_9_method_30_code 67 = .ok (.iaload, 1) := by decide +kernel
theorem d_X7_leave_68 : decode prog_9_method_30_code 68 = .ok (.iastore, 1) := by decide +kernel
theorem d_X7_leave_69 : decode prog_9_method_30_code 69 = .ok (.aload_n 0, 1) := by decide +kernel
theorem d_X7_leave_70 : decode prog_9_method_30_code 70 = .ok (.getfield 31, 3) := by decide +kernel
theorem d_X7_leave_73 : decode prog_9_method_30_code 73 = .ok (.bipush 15, 2) := by decide +kernel
theorem d_X7_leave_75 : decode prog_9_method_30_code 75 = .ok (.aload_n 0, 1) := by decide +kernel
theorem d_X7_leave_76 : decode prog_9_method_30_code 76 = .ok (.getfield 31, 3) := by decide +kernel
theorem d_X7_leave_79 : decode prog_9_method_30_code 79 = .ok (.bipush 15, 2) := by decide +kernel
theorem d_X7_leave_81 : decode prog_9_method_30_code 81 = .ok (.iaload, 1) := by decide +kernel
theorem d_X7_leave_82 : decode prog_9_method_30_code 82 = .ok (.iload_n 1, 1) := by decide +kernel
theorem d_X7_leave_83 : decode prog_9_method_30_code 83 = .ok (.if_icmp .ne 8, 3) := by decide +kernel
theorem d_X7_leave_86 : decode prog_9_method_30_code 86 = .ok (.bipush (-9), 2) := by decide +kernel
theorem d_X7_leave_88 : decode prog_9_method_30_code 88 = .ok (.goto 10, 3) := by decide +kernel
theorem d_X7_leave_91 : decode prog_9_method_30_code 91 = .ok (.aload_n 0, 1) := by decide +kernel
theorem d_X7_leave_92 : decode prog_9_method_30_code 92 = .ok (.getfield 31, 3) := by decide +kernel
theorem d_X7_leave_95 : decode prog_9_method_30_code 95 = .ok (.bipush 15, 2) := by decide +kernel
theorem d_X7_leave_97 : decode prog_9_method_30_code 97 = .ok (.iaload, 1) := by decide +kernel
theorem d_X7_leave_98 : decode prog_9_method_30_code 98 = .ok (.iastore, 1) := by decide +kernel
theorem d_X7_leave_99 : decode prog_9_method_30_code 99 = .ok (.aload_n 0, 1) := by decide +kernel
theorem d_X7_leave_100 : decode prog_9_method_30_code 100 = .ok (.iload_n 2, 1) := by decide +kernel
theorem d_X7_leave_101 : decode prog_9_method_30_code 101 = .ok (.invokevirtual 129, 3) := by decide +kernel
theorem d_X7_leave_104 : decode prog_9_method_30_code 104 = .ok (.invokestatic 151, 3) := by decide +kernel
theorem d_X7_leave_107 : decode prog_9_method_30_code 107 = .ok (.ireturn, 1) := by decide +kernel
def m_X7_leave_b98 (sh : Sh) (v0 : Nat) (v2 : Int32) (s0 : Int32) (s1 : Int32) (s2 : Nat) (μ : Mu) : Option (Int32 × Mu) :=
  gd (ix sh 8 s2 s1) <|
  bd (sI μ s2 s1.toNatClampNeg s0) fun μ32 =>
  gd (iz sh 7 v0) <|
  ca2 (m_X7_inOf sh v0 v2 μ32) fun r34 μ35 =>
  ca2 (m_X7_many sh r34 μ35) fun r36 μ37 =>
  some (r36, μ37)
def m_X7_leave (sh : Sh) (v0 : Nat) (v1 : Int32) (μ : Mu) : Option (Int32 × Mu) :=
  gd (iz sh 7 v0) <|
  bd (sI μ v0 0 0) fun μ2 =>
  ca2 (m_X7_noOne sh v0 v1 μ2) fun r3 μ4 =>
  if r3 = 0 then
    bd (gR μ4 v0 16) fun a6 =>
    gd (ix sh 8 a6 v1) <|
    bd (gI μ4 a6 v1.toNatClampNeg) fun w8 =>
    if w8 = (-9) then
      some ((-3), μ4)
    else
      ca (m_X7_note sh v0 μ4) fun μ10 =>
      bd (gR μ10 v0 16) fun a11 =>
      gd (ix sh 8 a11 v1) <|
      bd (sI μ10 a11 v1.toNatClampNeg (-9)) fun μ13 =>
      bd (gR μ13 v0 16) fun a14 =>
      gd (ix sh 8 a14 (5 + v1)) <|
      bd (sI μ13 a14 (5 + v1).toNatClampNeg w8) fun μ16 =>
      bd (gR μ16 v0 16) fun a17 =>
      bd (gR μ16 v0 16) fun a18 =>
      gd (ix sh 8 a18 203) <|
      bd (gI μ16 a18 (203 : Int32).toNatClampNeg) fun w20 =>
      gd (ix sh 8 a17 (10 + v1)) <|
      bd (sI μ16 a17 (10 + v1).toNatClampNeg w20) fun μ22 =>
      bd (gR μ22 v0 16) fun a23 =>
      bd (gR μ22 v0 16) fun a24 =>
      gd (ix sh 8 a24 15) <|
      bd (gI μ22 a24 (15 : Int32).toNatClampNeg) fun w26 =>
      if w26 = v1 then
        m_X7_leave_b98 sh v0 w8 (-9) 15 a23 μ22
      else
        bd (gR μ22 v0 16) fun a28 =>
        gd (ix sh 8 a28 15) <|
        bd (gI μ22 a28 (15 : Int32).toNatClampNeg) fun w30 =>
        m_X7_leave_b98 sh v0 w8 w30 15 a23 μ22
  else
    some ((-1), μ4)
set_option maxHeartbeats 4000000 in
set_option maxRecDepth 20000 in
theorem t_X7_leave_b98 {l : Launch} {G : Gl} {n : Nat} {sh : Sh} {x : Int32 × Mu} {v0 : Nat} {v2 : Int32} {s0 : Int32} {s1 : Int32} {s2 : Nat} {μ : Mu} (h : m_X7_leave_b98 sh v0 v2 s0 s1 s2 μ = some x) : Sj l G (QI G n sh x) c_X7_leave n sh 0 0 μ 98 [some (vr v0), none, some (vi v2)] [vi s0, vi s1, vr s2] := by
  unfold m_X7_leave_b98 at h
  obtain ⟨g31, h⟩ := gd_1 h
  refine s_iast (pc := 98) d_X7_leave_98 g31 ?_
  obtain ⟨μ32, eμ32, h⟩ := bd_1 h
  refine s_mu eμ32 ?_
  refine s_aload_n (pc := 99) d_X7_leave_99 rfl rfl ?_
  refine s_iload_n (pc := 100) d_X7_leave_100 rfl rfl ?_
  obtain ⟨g33, h⟩ := gd_1 h
  obtain ⟨r34, μ35, er34, h⟩ := ca2_1 h
  refine s_callV (pc := 101) (as := [vi v2]) (st := []) (vo := [vi r34]) (t_X7_inOf er34) cl_7 g33 d_X7_leave_101 y_X7_inOf w_805 w_807 w_s18 ⟨by decide, by decide⟩ ⟨Nat.le_of_ble_eq_true rfl, Nat.le_of_ble_eq_true rfl⟩ (Nat.le_of_ble_eq_true rfl) rfl rfl rfl ?_
  refine s_as (kc' := 0) (js' := 0) (pc' := 104) (st' := [vi r34]) ⟨rfl, rfl, rfl, rfl⟩ ?_
  obtain ⟨r36, μ37, er36, h⟩ := ca2_1 h
  refine s_callS (pc := 104) (as := [vi r34]) (st := []) (vo := [vi r36]) (t_X7_many er36) d_X7_leave_104 y_X7_many w_843 w_844 ⟨by decide, by decide⟩ ⟨Nat.le_of_ble_eq_true rfl, Nat.le_of_ble_eq_true rfl⟩ (Nat.le_of_ble_eq_true rfl) rfl rfl rfl ?_
  refine s_as (kc' := 0) (js' := 0) (pc' := 107) (st' := [vi r36]) ⟨rfl, rfl, rfl, rfl⟩ ?_
  obtain rfl := Option.some.inj h
  exact s_iret (pc := 107) d_X7_leave_107 rfl
set_option maxHeartbeats 4000000 in
set_option maxRecDepth 20000 in
theorem t_X7_leave {l : Launch} {G : Gl} {n : Nat} {sh : Sh} {x : Int32 × Mu} {v0 : Nat} {v1 : Int32} {μ : Mu} (h : m_X7_leave sh v0 v1 μ = some x) : Ct l G ⟨"StripsOfFourModel", "leave", "(I)I"⟩ prog_9_method_30_code 3 (some .int) { frames := 2, cells := 0, slots := 0, locals := 46 } n sh μ [vr v0, vi v1] (some (.int x.1)) n sh x.2 := by
  refine Ct.of (lc := [some (vr v0), some (vi v1), none]) (by decide +kernel) (Nat.le_of_ble_eq_true rfl) rfl ?_
  show Sj l G (QI G n sh x) c_X7_leave n sh 0 0 μ 0 [some (vr v0), some (vi v1), none] []
  unfold m_X7_leave at h
  refine s_aload_n (pc := 0) d_X7_leave_0 rfl rfl ?_
  refine s_iconst (pc := 1) (v := 0) d_X7_leave_1 (by decide) ?_
  obtain ⟨g1, h⟩ := gd_1 h
  refine s_putI (pc := 2) (k := 0) cl_7 d_X7_leave_2 g1 (by decide) w_660 rfl rfl ?_
  obtain ⟨μ2, eμ2, h⟩ := bd_1 h
  refine s_mu eμ2 ?_
  refine s_aload_n (pc := 5) d_X7_leave_5 rfl rfl ?_
  refine s_iload_n (pc := 6) d_X7_leave_6 rfl rfl ?_
  obtain ⟨r3, μ4, er3, h⟩ := ca2_1 h
  refine s_callV (pc := 7) (as := [vi v1]) (st := []) (vo := [vi r3]) (t_X7_noOne er3) cl_7 g1 d_X7_leave_7 y_X7_noOne w_813 w_815 w_s19 ⟨by decide, by decide⟩ ⟨Nat.le_of_ble_eq_true rfl, Nat.le_of_ble_eq_true rfl⟩ (Nat.le_of_ble_eq_true rfl) rfl rfl rfl ?_
  refine s_as (kc' := 0) (js' := 0) (pc' := 10) (st' := [vi r3]) ⟨rfl, rfl, rfl, rfl⟩ ?_
  refine s_if_eq (pc := 10) (tgt := 15) d_X7_leave_10 (by decide) (fun c5 => ?_) (fun c5 => ?_)
  · have h := it_t c5 h
    refine s_aload_n (pc := 15) d_X7_leave_15 rfl rfl ?_
    refine s_getR (pc := 16) (k := 16) cl_7 d_X7_leave_16 g1 (by decide) w_676 (rt_arr _) ?_
    obtain ⟨a6, ea6, h⟩ := bd_1 h
    refine s_topR ea6 ?_
    refine s_iload_n (pc := 19) d_X7_leave_19 rfl rfl ?_
    obtain ⟨g7, h⟩ := gd_1 h
    refine s_iald (pc := 20) d_X7_leave_20 g7 ?_
    obtain ⟨w8, ew8, h⟩ := bd_1 h
    refine s_topI ew8 ?_
    refine s_istore_n (pc := 21) (lc' := [some (vr v0), some (vi v1), some (vi w8)]) d_X7_leave_21 rfl (by decide) rfl ?_
    refine s_iload_n (pc := 22) d_X7_leave_22 rfl rfl ?_
    refine s_bipush (pc := 23) (v := (-9)) d_X7_leave_23 (by decide) ?_
    refine s_icmp_ne (pc := 25) (tgt := 31) d_X7_leave_25 (by decide) (fun c9 => ?_) (fun c9 => ?_)
    · have h := it_f c9 h
      refine s_aload_n (pc := 31) d_X7_leave_31 rfl rfl ?_
      obtain ⟨μ10, eμ10, h⟩ := ca_1 h
      refine s_callV (pc := 32) (as := []) (st := []) (vo := []) (t_X7_note eμ10) cl_7 g1 d_X7_leave_32 y_X7_note w_846 w_848 w_s22 ⟨by decide, by decide⟩ ⟨Nat.le_of_ble_eq_true rfl, Nat.le_of_ble_eq_true rfl⟩ (Nat.le_of_ble_eq_true rfl) rfl rfl rfl ?_
      refine s_as (kc' := 0) (js' := 0) (pc' := 35) (st' := []) ⟨rfl, rfl, rfl, rfl⟩ ?_
      refine s_aload_n (pc := 35) d_X7_leave_35 rfl rfl ?_
      refine s_getR (pc := 36) (k := 16) cl_7 d_X7_leave_36 g1 (by decide) w_676 (rt_arr _) ?_
      obtain ⟨a11, ea11, h⟩ := bd_1 h
      refine s_topR ea11 ?_
      refine s_iload_n (pc := 39) d_X7_leave_39 rfl rfl ?_
      refine s_bipush (pc := 40) (v := (-9)) d_X7_leave_40 (by decide) ?_
      obtain ⟨g12, h⟩ := gd_1 h
      refine s_iast (pc := 42) d_X7_leave_42 g12 ?_
      obtain ⟨μ13, eμ13, h⟩ := bd_1 h
      refine s_mu eμ13 ?_
      refine s_aload_n (pc := 43) d_X7_leave_43 rfl rfl ?_
      refine s_getR (pc := 44) (k := 16) cl_7 d_X7_leave_44 g1 (by decide) w_676 (rt_arr _) ?_
      obtain ⟨a14, ea14, h⟩ := bd_1 h
      refine s_topR ea14 ?_
      refine s_iconst (pc := 47) (v := 5) d_X7_leave_47 (by decide) ?_
      refine s_iload_n (pc := 48) d_X7_leave_48 rfl rfl ?_
      refine s_iadd (pc := 49) d_X7_leave_49 ?_
      refine s_iload_n (pc := 50) d_X7_leave_50 rfl rfl ?_
      obtain ⟨g15, h⟩ := gd_1 h
      refine s_iast (pc := 51) d_X7_leave_51 g15 ?_
      obtain ⟨μ16, eμ16, h⟩ := bd_1 h
      refine s_mu eμ16 ?_
      refine s_aload_n (pc := 52) d_X7_leave_52 rfl rfl ?_
      refine s_getR (pc := 53) (k := 16) cl_7 d_X7_leave_53 g1 (by decide) w_676 (rt_arr _) ?_
      obtain ⟨a17, ea17, h⟩ := bd_1 h
      refine s_topR ea17 ?_
      refine s_bipush (pc := 56) (v := 10) d_X7_leave_56 (by decide) ?_
      refine s_iload_n (pc := 58) d_X7_leave_58 rfl rfl ?_
      refine s_iadd (pc := 59) d_X7_leave_59 ?_
      refine s_aload_n (pc := 60) d_X7_leave_60 rfl rfl ?_
      refine s_getR (pc := 61) (k := 16) cl_7 d_X7_leave_61 g1 (by decide) w_676 (rt_arr _) ?_
      obtain ⟨a18, ea18, h⟩ := bd_1 h
      refine s_topR ea18 ?_
      refine s_sipush (pc := 64) (v := 203) d_X7_leave_64 (by decide) ?_
      obtain ⟨g19, h⟩ := gd_1 h
      refine s_iald (pc := 67) d_X7_leave_67 g19 ?_
      obtain ⟨w20, ew20, h⟩ := bd_1 h
      refine s_topI ew20 ?_
      obtain ⟨g21, h⟩ := gd_1 h
      refine s_iast (pc := 68) d_X7_leave_68 g21 ?_
      obtain ⟨μ22, eμ22, h⟩ := bd_1 h
      refine s_mu eμ22 ?_
      refine s_aload_n (pc := 69) d_X7_leave_69 rfl rfl ?_
      refine s_getR (pc := 70) (k := 16) cl_7 d_X7_leave_70 g1 (by decide) w_676 (rt_arr _) ?_
      obtain ⟨a23, ea23, h⟩ := bd_1 h
      refine s_topR ea23 ?_
      refine s_bipush (pc := 73) (v := 15) d_X7_leave_73 (by decide) ?_
      refine s_aload_n (pc := 75) d_X7_leave_75 rfl rfl ?_
      refine s_getR (pc := 76) (k := 16) cl_7 d_X7_leave_76 g1 (by decide) w_676 (rt_arr _) ?_
      obtain ⟨a24, ea24, h⟩ := bd_1 h
      refine s_topR ea24 ?_
      refine s_bipush (pc := 79) (v := 15) d_X7_leave_79 (by decide) ?_
      obtain ⟨g25, h⟩ := gd_1 h
      refine s_iald (pc := 81) d_X7_leave_81 g25 ?_
      obtain ⟨w26, ew26, h⟩ := bd_1 h
      refine s_topI ew26 ?_
      refine s_iload_n (pc := 82) d_X7_leave_82 rfl rfl ?_
      refine s_icmp_ne (pc := 83) (tgt := 91) d_X7_leave_83 (by decide) (fun c27 => ?_) (fun c27 => ?_)
      · have h := it_f c27 h
        refine s_aload_n (pc := 91) d_X7_leave_91 rfl rfl ?_
        refine s_getR (pc := 92) (k := 16) cl_7 d_X7_leave_92 g1 (by decide) w_676 (rt_arr _) ?_
        obtain ⟨a28, ea28, h⟩ := bd_1 h
        refine s_topR ea28 ?_
        refine s_bipush (pc := 95) (v := 15) d_X7_leave_95 (by decide) ?_
        obtain ⟨g29, h⟩ := gd_1 h
        refine s_iald (pc := 97) d_X7_leave_97 g29 ?_
        obtain ⟨w30, ew30, h⟩ := bd_1 h
        refine s_topI ew30 ?_
        refine s_mask [true, false, true] rfl ?_
        exact t_X7_leave_b98 h
      · have h := it_t c27 h
        refine s_bipush (pc := 86) (v := (-9)) d_X7_leave_86 (by decide) ?_
        refine s_goto (pc := 88) (tgt := 98) d_X7_leave_88 (by decide) ?_
        refine s_mask [true, false, true] rfl ?_
        exact t_X7_leave_b98 h
    · have h := it_t c9 h
      refine s_bipush (pc := 28) (v := (-3)) d_X7_leave_28 (by decide) ?_
      obtain rfl := Option.some.inj h
      exact s_iret (pc := 30) d_X7_leave_30 rfl
  · have h := it_f c5 h
    refine s_iconst (pc := 13) (v := (-1)) d_X7_leave_13 (by decide) ?_
    obtain rfl := Option.some.inj h
    exact s_iret (pc := 14) d_X7_leave_14 rfl
/-! StripsOfFourModel.look -/
abbrev c_X7_look : Cf := (prog_9_method_26_code, 4, "StripsOfFourModel", "look", (some .int), { frames := 2, cells := 0, slots := 0, locals := 46 })
theorem d_X7_look_0 : decode prog_9_method_26_code 0 = .ok (.aload_n 0, 1) := by decide +kernel
theorem d_X7_look_1 : decode prog_9_method_26_code 1 = .ok (.iconst 0, 1) := by decide +kernel
theorem d_X7_look_2 : decode prog_9_method_26_code 2 = .ok (.putfield 66, 3) := by decide +kernel
theorem d_X7_look_5 : decode prog_9_method_26_code 5 = .ok (.aload_n 0, 1) := by decide +kernel
theorem d_X7_look_6 : decode prog_9_method_26_code 6 = .ok (.iload_n 1, 1) := by decide +kernel
theorem d_X7_look_7 : decode prog_9_method_26_code 7 = .ok (.invokevirtual 138, 3) := by decide +kernel
theorem d_X7_look_10 : decode prog_9_method_26_code 10 = .ok (.ifCond .eq 5, 3) := by decide +kernel
theorem d_X7_look_13 : decode prog_9_method_26_code 13 = .ok (.iconst (-1), 1) := by decide +kernel
theorem d_X7_look_14 : decode prog_9_method_26_code 14 = .ok (.ireturn, 1) := by decide +kernel
theorem d_X7_look_15 : decode prog_9_method_26_code 15 = .ok (.iload_n 2, 1) := by decide +kernel
theorem d_X7_look_16 : decode prog_9_method_26_code 16 = .ok (.i2l, 1) := by decide +kernel
theorem d_X7_look_17 : decode prog_9_method_26_code 17 = .ok (.lconst 0, 1) := by decide +kernel
theorem d_X7_look_18 : decode prog_9_method_26_code 18 = .ok (.ldc2_w 136, 3) := by decide +kernel
theorem d_X7_look_21 : decode prog_9_method_26_code 21 = .ok (.invokestatic 73, 3) := by decide +kernel
theorem d_X7_look_24 : decode prog_9_method_26_code 24 = .ok (.ifCond .eq 25, 3) := by decide +kernel
theorem d_X7_look_27 : decode prog_9_method_26_code 27 = .ok (.iload_n 3, 1) := by decide +kernel
theorem d_X7_look_28 : decode prog_9_method_26_code 28 = .ok (.i2l, 1) := by decide +kernel
theorem d_X7_look_29 : decode prog_9_method_26_code 29 = .ok (.lconst 0, 1) := by decide +kernel
theorem d_X7_look_30 : decode prog_9_method_26_code 30 = .ok (.ldc2_w 136, 3) := by decide +kernel
theorem d_X7_look_33 : decode prog_9_method_26_code 33 = .ok (.invokestatic 73, 3) := by decide +kernel
theorem d_X7_look_36 : decode prog_9_method_26_code 36 = .ok (.ifCond .eq 13, 3) := by decide +kernel
theorem d_X7_look_39 : decode prog_9_method_26_code 39 = .ok (.aload_n 0, 1) := by decide +kernel
theorem d_X7_look_40 : decode prog_9_method_26_code 40 = .ok (.iload_n 1, 1) := by decide +kernel
theorem d_X7_look_41 : decode prog_9_method_26_code 41 = .ok (.iload_n 2, 1) := by decide +kernel
theorem d_X7_look_42 : decode prog_9_method_26_code 42 = .ok (.iload_n 3, 1) := by decide +kernel
theorem d_X7_look_43 : decode prog_9_method_26_code 43 = .ok (.invokevirtual 141, 3) := by decide +kernel
theorem d_X7_look_46 : decode prog_9_method_26_code 46 = .ok (.goto 5, 3) := by decide +kernel
theorem d_X7_look_49 : decode prog_9_method_26_code 49 = .ok (.bipush (-2), 2) := by decide +kernel
theorem d_X7_look_51 : decode prog_9_method_26_code 51 = .ok (.ireturn, 1) := by decide +kernel
def m_X7_look (sh : Sh) (v0 : Nat) (v1 : Int32) (v2 : Int32) (v3 : Int32) (μ : Mu) : Option (Int32 × Mu) :=
  gd (iz sh 7 v0) <|
  bd (sI μ v0 0 0) fun μ2 =>
  ca2 (m_X7_noStrip sh v0 v1 μ2) fun r3 μ4 =>
  if r3 = 0 then
    ca2 (m_X7_in sh (v2.toInt64) 0 3 μ4) fun r6 μ7 =>
    if r6 = 0 then
      some ((-2), μ7)
    else
      ca2 (m_X7_in sh (v3.toInt64) 0 3 μ7) fun r9 μ10 =>
      if r9 = 0 then
        some ((-2), μ10)
      else
        ca2 (m_X7_lookOf sh v0 v1 v2 v3 μ10) fun r12 μ13 =>
        some (r12, μ13)
  else
    some ((-1), μ4)
set_option maxHeartbeats 4000000 in
set_option maxRecDepth 20000 in
theorem t_X7_look {l : Launch} {G : Gl} {n : Nat} {sh : Sh} {x : Int32 × Mu} {v0 : Nat} {v1 : Int32} {v2 : Int32} {v3 : Int32} {μ : Mu} (h : m_X7_look sh v0 v1 v2 v3 μ = some x) : Ct l G ⟨"StripsOfFourModel", "look", "(III)I"⟩ prog_9_method_26_code 4 (some .int) { frames := 2, cells := 0, slots := 0, locals := 46 } n sh μ [vr v0, vi v1, vi v2, vi v3] (some (.int x.1)) n sh x.2 := by
  refine Ct.of (lc := [some (vr v0), some (vi v1), some (vi v2), some (vi v3)]) (by decide +kernel) (Nat.le_of_ble_eq_true rfl) rfl ?_
  show Sj l G (QI G n sh x) c_X7_look n sh 0 0 μ 0 [some (vr v0), some (vi v1), some (vi v2), some (vi v3)] []
  unfold m_X7_look at h
  refine s_aload_n (pc := 0) d_X7_look_0 rfl rfl ?_
  refine s_iconst (pc := 1) (v := 0) d_X7_look_1 (by decide) ?_
  obtain ⟨g1, h⟩ := gd_1 h
  refine s_putI (pc := 2) (k := 0) cl_7 d_X7_look_2 g1 (by decide) w_660 rfl rfl ?_
  obtain ⟨μ2, eμ2, h⟩ := bd_1 h
  refine s_mu eμ2 ?_
  refine s_aload_n (pc := 5) d_X7_look_5 rfl rfl ?_
  refine s_iload_n (pc := 6) d_X7_look_6 rfl rfl ?_
  obtain ⟨r3, μ4, er3, h⟩ := ca2_1 h
  refine s_callV (pc := 7) (as := [vi v1]) (st := []) (vo := [vi r3]) (t_X7_noStrip er3) cl_7 g1 d_X7_look_7 y_X7_noStrip w_822 w_824 w_s20 ⟨by decide, by decide⟩ ⟨Nat.le_of_ble_eq_true rfl, Nat.le_of_ble_eq_true rfl⟩ (Nat.le_of_ble_eq_true rfl) rfl rfl rfl ?_
  refine s_as (kc' := 0) (js' := 0) (pc' := 10) (st' := [vi r3]) ⟨rfl, rfl, rfl, rfl⟩ ?_
  refine s_if_eq (pc := 10) (tgt := 15) d_X7_look_10 (by decide) (fun c5 => ?_) (fun c5 => ?_)
  · have h := it_t c5 h
    refine s_iload_n (pc := 15) d_X7_look_15 rfl rfl ?_
    refine s_i2l (pc := 16) d_X7_look_16 ?_
    refine s_lconst (pc := 17) (v := 0) d_X7_look_17 (by decide) ?_
    refine s_ldc2 (pc := 18) (v := 3) d_X7_look_18 w_817 ?_
    obtain ⟨r6, μ7, er6, h⟩ := ca2_1 h
    refine s_callS (pc := 21) (as := [vl (v2.toInt64), vl 0, vl 3]) (st := []) (vo := [vi r6]) (t_X7_in er6) d_X7_look_21 y_X7_in w_754 w_755 ⟨by decide, by decide⟩ ⟨Nat.le_of_ble_eq_true rfl, Nat.le_of_ble_eq_true rfl⟩ (Nat.le_of_ble_eq_true rfl) rfl rfl rfl ?_
    refine s_as (kc' := 0) (js' := 0) (pc' := 24) (st' := [vi r6]) ⟨rfl, rfl, rfl, rfl⟩ ?_
    refine s_if_eq (pc := 24) (tgt := 49) d_X7_look_24 (by decide) (fun c8 => ?_) (fun c8 => ?_)
    · have h := it_t c8 h
      refine s_bipush (pc := 49) (v := (-2)) d_X7_look_49 (by decide) ?_
      obtain rfl := Option.some.inj h
      exact s_iret (pc := 51) d_X7_look_51 rfl
    · have h := it_f c8 h
      refine s_iload_n (pc := 27) d_X7_look_27 rfl rfl ?_
      refine s_i2l (pc := 28) d_X7_look_28 ?_
      refine s_lconst (pc := 29) (v := 0) d_X7_look_29 (by decide) ?_
      refine s_ldc2 (pc := 30) (v := 3) d_X7_look_30 w_817 ?_
      obtain ⟨r9, μ10, er9, h⟩ := ca2_1 h
      refine s_callS (pc := 33) (as := [vl (v3.toInt64), vl 0, vl 3]) (st := []) (vo := [vi r9]) (t_X7_in er9) d_X7_look_33 y_X7_in w_754 w_755 ⟨by decide, by decide⟩ ⟨Nat.le_of_ble_eq_true rfl, Nat.le_of_ble_eq_true rfl⟩ (Nat.le_of_ble_eq_true rfl) rfl rfl rfl ?_
      refine s_as (kc' := 0) (js' := 0) (pc' := 36) (st' := [vi r9]) ⟨rfl, rfl, rfl, rfl⟩ ?_
      refine s_if_eq (pc := 36) (tgt := 49) d_X7_look_36 (by decide) (fun c11 => ?_) (fun c11 => ?_)
      · have h := it_t c11 h
        refine s_bipush (pc := 49) (v := (-2)) d_X7_look_49 (by decide) ?_
        obtain rfl := Option.some.inj h
        exact s_iret (pc := 51) d_X7_look_51 rfl
      · have h := it_f c11 h
        refine s_aload_n (pc := 39) d_X7_look_39 rfl rfl ?_
        refine s_iload_n (pc := 40) d_X7_look_40 rfl rfl ?_
        refine s_iload_n (pc := 41) d_X7_look_41 rfl rfl ?_
        refine s_iload_n (pc := 42) d_X7_look_42 rfl rfl ?_
        obtain ⟨r12, μ13, er12, h⟩ := ca2_1 h
        refine s_callV (pc := 43) (as := [vi v1, vi v2, vi v3]) (st := []) (vo := [vi r12]) (t_X7_lookOf er12) cl_7 g1 d_X7_look_43 y_X7_lookOf w_826 w_828 w_s21 ⟨by decide, by decide⟩ ⟨Nat.le_of_ble_eq_true rfl, Nat.le_of_ble_eq_true rfl⟩ (Nat.le_of_ble_eq_true rfl) rfl rfl rfl ?_
        refine s_as (kc' := 0) (js' := 0) (pc' := 46) (st' := [vi r12]) ⟨rfl, rfl, rfl, rfl⟩ ?_
        refine s_goto (pc := 46) (tgt := 51) d_X7_look_46 (by decide) ?_
        obtain rfl := Option.some.inj h
        exact s_iret (pc := 51) d_X7_look_51 rfl
  · have h := it_f c5 h
    refine s_iconst (pc := 13) (v := (-1)) d_X7_look_13 (by decide) ?_
    obtain rfl := Option.some.inj h
    exact s_iret (pc := 14) d_X7_look_14 rfl
/-! StripsOfFourModel.flash -/
abbrev c_X7_flash : Cf := (prog_9_method_32_code, 6, "StripsOfFourModel", "flash", (some .boolean), { frames := 1, cells := 0, slots := 0, locals := 23 })
theorem d_X7_flash_0 : decode prog_9_method_32_code 0 = .ok (.bipush 16, 2) := by decide +kernel
theorem d_X7_flash_2 : decode prog_9_method_32_code 2 = .ok (.bipush 17, 2) := by decide +kernel
theorem d_X7_flash_4 : decode prog_9_method_32_code 4 = .ok (.iload_n 1, 1) := by decide +kernel
theorem d_X7_flash_5 : decode prog_9_method_32_code 5 = .ok (.imul, 1) := by decide +kernel
theorem d_X7_flash_6 : decode prog_9_method_32_code 6 = .ok (.iadd, 1) := by decide +kernel
theorem d_X7_flash_7 : decode prog_9_method_32_code 7 = .ok (.istore_n 2, 1) := by decide +kernel
theorem d_X7_flash_8 : decode prog_9_method_32_code 8 = .ok (.aload_n 0, 1) := by decide +kernel
theorem d_X7_flash_9 : decode prog_9_method_32_code 9 = .ok (.getfield 31, 3) := by decide +kernel
theorem d_X7_flash_12 : decode prog_9_method_32_code 12 = .ok (.sipush 202, 3) := by decide +kernel
theorem d_X7_flash_15 : decode prog_9_method_32_code 15 = .ok (.iaload, 1) := by decide +kernel
theorem d_X7_flash_16 : decode prog_9_method_32_code 16 = .ok (.bipush 8, 2) := by decide +kernel
theorem d_X7_flash_18 : decode prog_9_method_32_code 18 = .ok (.if_icmp .eq 20, 3) := by decide +kernel
theorem d_X7_flash_21 : decode prog_9_method_32_code 21 = .ok (.aload_n 0, 1) := by decide +kernel
theorem d_X7_flash_22 : decode prog_9_method_32_code 22 = .ok (.iload_n 1, 1) := by decide +kernel
theorem d_X7_flash_23 : decode prog_9_method_32_code 23 = .ok (.invokevirtual 129, 3) := by decide +kernel
theorem d_X7_flash_26 : decode prog_9_method_32_code 26 = .ok (.ifCond .ne 14, 3) := by decide +kernel
theorem d_X7_flash_29 : decode prog_9_method_32_code 29 = .ok (.aload_n 0, 1) := by decide +kernel
theorem d_X7_flash_30 : decode prog_9_method_32_code 30 = .ok (.getfield 31, 3) := by decide +kernel
theorem d_X7_flash_33 : decode prog_9_method_32_code 33 = .ok (.iload_n 2, 1) := by decide +kernel
theorem d_X7_flash_34 : decode prog_9_method_32_code 34 = .ok (.iaload, 1) := by decide +kernel
theorem d_X7_flash_35 : decode prog_9_method_32_code 35 = .ok (.ifCond .ne 5, 3) := by decide +kernel
theorem d_X7_flash_38 : decode prog_9_method_32_code 38 = .ok (.iconst 0, 1) := by decide +kernel
theorem d_X7_flash_39 : decode prog_9_method_32_code 39 = .ok (.ireturn, 1) := by decide +kernel
theorem d_X7_flash_40 : decode prog_9_method_32_code 40 = .ok (.iload_n 2, 1) := by decide +kernel
theorem d_X7_flash_41 : decode prog_9_method_32_code 41 = .ok (.iconst 1, 1) := by decide +kernel
theorem d_X7_flash_42 : decode prog_9_method_32_code 42 = .ok (.iadd, 1) := by decide +kernel
theorem d_X7_flash_43 : decode prog_9_method_32_code 43 = .ok (.iconst 4, 1) := by decide +kernel
theorem d_X7_flash_44 : decode prog_9_method_32_code 44 = .ok (.aload_n 0, 1) := by decide +kernel
theorem d_X7_flash_45 : decode prog_9_method_32_code 45 = .ok (.getfield 31, 3) := by decide +kernel
theorem d_X7_flash_48 : decode prog_9_method_32_code 48 = .ok (.iload_n 2, 1) := by decide +kernel
theorem d_X7_flash_49 : decode prog_9_method_32_code 49 = .ok (.iaload, 1) := by decide +kernel
theorem d_X7_flash_50 : decode prog_9_method_32_code 50 = .ok (.imul, 1) := by decide +kernel
theorem d_X7_flash_51 : decode prog_9_method_32_code 51 = .ok (.iadd, 1) := by decide +kernel
theorem d_X7_flash_52 : decode prog_9_method_32_code 52 = .ok (.istore_n 3, 1) := by decide +kernel
theorem d_X7_flash_53 : decode prog_9_method_32_code 53 = .ok (.aload_n 0, 1) := by decide +kernel
theorem d_X7_flash_54 : decode prog_9_method_32_code 54 = .ok (.getfield 31, 3) := by decide +kernel
theorem d_X7_flash_57 : decode prog_9_method_32_code 57 = .ok (.iload_n 3, 1) := by decide +kernel
theorem d_X7_flash_58 : decode prog_9_method_32_code 58 = .ok (.aload_n 0, 1) := by decide +kernel
theorem d_X7_flash_59 : decode prog_9_method_32_code 59 = .ok (.getfield 31, 3) := by decide +kernel
theorem d_X7_flash_62 : decode prog_9_method_32_code 62 = .ok (.sipush 203, 3) := by decide +kernel
theorem d_X7_flash_65 : decode prog_9_method_32_code 65 = .ok (.iaload, 1) := by decide +kernel
theorem d_X7_flash_66 : decode prog_9_method_32_code 66 = .ok (.iastore, 1) := by decide +kernel
theorem d_X7_flash_67 : decode prog_9_method_32_code 67 = .ok (.aload_n 0, 1) := by decide +kernel
theorem d_X7_flash_68 : decode prog_9_method_32_code 68 = .ok (.getfield 31, 3) := by decide +kernel
theorem d_X7_flash_71 : decode prog_9_method_32_code 71 = .ok (.iload_n 3, 1) := by decide +kernel
theorem d_X7_flash_72 : decode prog_9_method_32_code 72 = .ok (.iconst 1, 1) := by decide +kernel
theorem d_X7_flash_73 : decode prog_9_method_32_code 73 = .ok (.iadd, 1) := by decide +kernel
theorem d_X7_flash_74 : decode prog_9_method_32_code 74 = .ok (.aload_n 0, 1) := by decide +kernel
theorem d_X7_flash_75 : decode prog_9_method_32_code 75 = .ok (.iload_n 1, 1) := by decide +kernel
theorem d_X7_flash_76 : decode prog_9_method_32_code 76 = .ok (.invokevirtual 129, 3) := by decide +kernel
theorem d_X7_flash_79 : decode prog_9_method_32_code 79 = .ok (.iastore, 1) := by decide +kernel
theorem d_X7_flash_80 : decode prog_9_method_32_code 80 = .ok (.aload_n 0, 1) := by decide +kernel
theorem d_X7_flash_81 : decode prog_9_method_32_code 81 = .ok (.getfield 31, 3) := by decide +kernel
theorem d_X7_flash_84 : decode prog_9_method_32_code 84 = .ok (.iload_n 3, 1) := by decide +kernel
theorem d_X7_flash_85 : decode prog_9_method_32_code 85 = .ok (.iconst 2, 1) := by decide +kernel
theorem d_X7_flash_86 : decode prog_9_method_32_code 86 = .ok (.iadd, 1) := by decide +kernel
theorem d_X7_flash_87 : decode prog_9_method_32_code 87 = .ok (.aload_n 0, 1) := by decide +kernel
theorem d_X7_flash_88 : decode prog_9_method_32_code 88 = .ok (.getfield 31, 3) := by decide +kernel
theorem d_X7_flash_91 : decode prog_9_method_32_code 91 = .ok (.bipush 15, 2) := by decide +kernel
theorem d_X7_flash_93 : decode prog_9_method_32_code 93 = .ok (.iaload, 1) := by decide +kernel
theorem d_X7_flash_94 : decode prog_9_method_32_code 94 = .ok (.bipush (-9), 2) := by decide +kernel
theorem d_X7_flash_96 : decode prog_9_method_32_code 96 = .ok (.if_icmp .eq 29, 3) := by decide +kernel
theorem d_X7_flash_99 : decode prog_9_method_32_code 99 = .ok (.aload_n 0, 1) := by decide +kernel
theorem d_X7_flash_100 : decode prog_9_method_32_code 100 = .ok (.getfield 31, 3) := by decide +kernel
theorem d_X7_flash_103 : decode prog_9_method_32_code 103 = .ok (.aload_n 0, 1) := by decide +kernel
theorem d_X7_flash_104 : decode prog_9_method_32_code 104 = .ok (.getfield 31, 3) := by decide +kernel
theorem d_X7_flash_107 : decode prog_9_method_32_code 107 = .ok (.bipush 15, 2) := by decide +kernel
theorem d_X7_flash_109 : decode prog_9_method_32_code 109 = .ok (.iaload, 1) := by decide +kernel
theorem d_X7_flash_110 : decode prog_9_method_32_code 110 = .ok (.iaload, 1) := by decide +kernel
theorem d_X7_flash_111 : decode prog_9_method_32_code 111 = .ok (.iload_n 1, 1) := by decide +kernel
theorem d_X7_flash_112 : decode prog_9_method_32_code 112 = .ok (.if_icmp .ne 13, 3) := by decide +kernel
theorem d_X7_flash_115 : decode prog_9_method_32_code 115 = .ok (.aload_n 0, 1) := by decide +kernel
theorem d_X7_flash_116 : decode prog_9_method_32_code 116 = .ok (.getfield 31, 3) := by decide +kernel
theorem d_X7_flash_119 : decode prog_9_method_32_code 119 = .ok (.bipush 15, 2) := by decide +kernel
theorem d_X7_flash_121 : decode prog_9_method_32_code 121 = .ok (.iaload, 1) := by decide +kernel
theorem d_X7_flash_122 : decode prog_9_method_32_code 122 = .ok (.goto 5, 3) := by decide +kernel
theorem d_X7_flash_125 : decode prog_9_method_32_code 125 = .ok (.bipush (-9), 2) := by decide +kernel
theorem d_X7_flash_127 : decode prog_9_method_32_code 127 = .ok (.iastore, 1) := by decide +kernel
theorem d_X7_flash_128 : decode prog_9_method_32_code 128 = .ok (.aload_n 0, 1) := by decide +kernel
theorem d_X7_flash_129 : decode prog_9_method_32_code 129 = .ok (.getfield 31, 3) := by decide +kernel
theorem d_X7_flash_132 : decode prog_9_method_32_code 132 = .ok (.iload_n 3, 1) := by decide +kernel
theorem d_X7_flash_133 : decode prog_9_method_32_code 133 = .ok (.iconst 3, 1) := by decide +kernel
theorem d_X7_flash_134 : decode prog_9_method_32_code 134 = .ok (.iadd, 1) := by decide +kernel
theorem d_X7_flash_135 : decode prog_9_method_32_code 135 = .ok (.iconst 0, 1) := by decide +kernel
theorem d_X7_flash_136 : decode prog_9_method_32_code 136 = .ok (.iastore, 1) := by decide +kernel
theorem d_X7_flash_137 : decode prog_9_method_32_code 137 = .ok (.iconst 0, 1) := by decide +kernel
theorem d_X7_flash_138 : decode prog_9_method_32_code 138 = .ok (.istore 4, 2) := by decide +kernel
theorem d_X7_flash_140 : decode prog_9_method_32_code 140 = .ok (.iload 4, 2) := by decide +kernel
theorem d_X7_flash_142 : decode prog_9_method_32_code 142 = .ok (.aload_n 0, 1) := by decide +kernel
theorem d_X7_flash_143 : decode prog_9_method_32_code 143 = .ok (.getfield 77, 3) := by decide +kernel
theorem d_X7_flash_146 : decode prog_9_method_32_code 146 = .ok (.if_icmp .ge 78, 3) := by decide +kernel
theorem d_X7_flash_149 : decode prog_9_method_32_code 149 = .ok (.aload_n 0, 1) := by decide +kernel
theorem d_X7_flash_150 : decode prog_9_method_32_code 150 = .ok (.getfield 31, 3) := by decide +kernel
theorem d_X7_flash_153 : decode prog_9_method_32_code 153 = .ok (.iload 4, 2) := by decide +kernel
theorem d_X7_flash_155 : decode prog_9_method_32_code 155 = .ok (.iaload, 1) := by decide +kernel
theorem d_X7_flash_156 : decode prog_9_method_32_code 156 = .ok (.iload_n 1, 1) := by decide +kernel
theorem d_X7_flash_157 : decode prog_9_method_32_code 157 = .ok (.if_icmp .ne 61, 3) := by decide +kernel
theorem d_X7_flash_160 : decode prog_9_method_32_code 160 = .ok (.aload_n 0, 1) := by decide +kernel
theorem d_X7_flash_161 : decode prog_9_method_32_code 161 = .ok (.aload_n 0, 1) := by decide +kernel
theorem d_X7_flash_162 : decode prog_9_method_32_code 162 = .ok (.getfield 147, 3) := by decide +kernel
theorem d_X7_flash_165 : decode prog_9_method_32_code 165 = .ok (.ldc2_w 157, 3) := by decide +kernel
theorem d_X7_flash_168 : decode prog_9_method_32_code 168 = .ok (.lmul, 1) := by decide +kernel
theorem d_X7_flash_169 : decode prog_9_method_32_code 169 = .ok (.ldc2_w 159, 3) := by decide +kernel
theorem d_X7_flash_172 : decode prog_9_method_32_code 172 = .ok (.ladd, 1) := by decide +kernel
theorem d_X7_flash_173 : decode prog_9_method_32_code 173 = .ok (.putfield 147, 3) := by decide +kernel
theorem d_X7_flash_176 : decode prog_9_method_32_code 176 = .ok (.aload_n 0, 1) := by decide +kernel
theorem d_X7_flash_177 : decode prog_9_method_32_code 177 = .ok (.getfield 31, 3) := by decide +kernel
theorem d_X7_flash_180 : decode prog_9_method_32_code 180 = .ok (.iload_n 3, 1) := by decide +kernel
theorem d_X7_flash_181 : decode prog_9_method_32_code 181 = .ok (.iconst 3, 1) := by decide +kernel
theorem d_X7_flash_182 : decode prog_9_method_32_code 182 = .ok (.iadd, 1) := by decide +kernel
theorem d_X7_flash_183 : decode prog_9_method_32_code 183 = .ok (.dup2, 1) := by decide +kernel
theorem d_X7_flash_184 : decode prog_9_method_32_code 184 = .ok (.iaload, 1) := by decide +kernel
theorem d_X7_flash_185 : decode prog_9_method_32_code 185 = .ok (.aload_n 0, 1) := by decide +kernel
theorem d_X7_flash_186 : decode prog_9_method_32_code 186 = .ok (.getfield 147, 3) := by decide +kernel
theorem d_X7_flash_189 : decode prog_9_method_32_code 189 = .ok (.bipush 33, 2) := by decide +kernel
theorem d_X7_flash_191 : decode prog_9_method_32_code 191 = .ok (.lushr, 1) := by decide +kernel
theorem d_X7_flash_192 : decode prog_9_method_32_code 192 = .ok (.ldc2_w 161, 3) := by decide +kernel
theorem d_X7_flash_195 : decode prog_9_method_32_code 195 = .ok (.lrem, 1) := by decide +kernel
theorem d_X7_flash_196 : decode prog_9_method_32_code 196 = .ok (.aload_n 0, 1) := by decide +kernel
theorem d_X7_flash_197 : decode prog_9_method_32_code 197 = .ok (.getfield 19, 3) := by decide +kernel
theorem d_X7_flash_200 : decode prog_9_method_32_code 200 = .ok (.iload 4, 2) := by decide +kernel
theorem d_X7_flash_202 : decode prog_9_method_32_code 202 = .ok (.iaload, 1) := by decide +kernel
theorem d_X7_flash_203 : decode prog_9_method_32_code 203 = .ok (.i2l, 1) := by decide +kernel
theorem d_X7_flash_204 : decode prog_9_method_32_code 204 = .ok (.lcmp, 1) := by decide +kernel
theorem d_X7_flash_205 : decode prog_9_method_32_code 205 = .ok (.ifCond .ge 10, 3) := by decide +kernel
theorem d_X7_flash_208 : decode prog_9_method_32_code 208 = .ok (.iconst 1, 1) := by decide +kernel
theorem d_X7_flash_209 : decode prog_9_method_32_code 209 = .ok (.iload 4, 2) := by decide +kernel
theorem d_X7_flash_211 : decode prog_9_method_32_code 211 = .ok (.ishl, 1) := by decide +kernel
theorem d_X7_flash_212 : decode prog_9_method_32_code 212 = .ok (.goto 4, 3) := by decide +kernel
theorem d_X7_flash_215 : decode prog_9_method_32_code 215 = .ok (.iconst 0, 1) := by decide +kernel
theorem d_X7_flash_216 : decode prog_9_method_32_code 216 = .ok (.ior, 1) := by decide +kernel
theorem d_X7_flash_217 : decode prog_9_method_32_code 217 = .ok (.iastore, 1) := by decide +kernel
theorem d_X7_flash_218 : decode prog_9_method_32_code 218 = .ok (.iinc 4 1, 3) := by decide +kernel
theorem d_X7_flash_221 : decode prog_9_method_32_code 221 = .ok (.goto (-81), 3) := by decide +kernel
theorem d_X7_flash_224 : decode prog_9_method_32_code 224 = .ok (.aload_n 0, 1) := by decide +kernel
theorem d_X7_flash_225 : decode prog_9_method_32_code 225 = .ok (.getfield 31, 3) := by decide +kernel
theorem d_X7_flash_228 : decode prog_9_method_32_code 228 = .ok (.iload_n 2, 1) := by decide +kernel
theorem d_X7_flash_229 : decode prog_9_method_32_code 229 = .ok (.dup2, 1) := by decide +kernel
theorem d_X7_flash_230 : decode prog_9_method_32_code 230 = .ok (.iaload, 1) := by decide +kernel
theorem d_X7_flash_231 : decode prog_9_method_32_code 231 = .ok (.iconst 1, 1) := by decide +kernel
theorem d_X7_flash_232 : decode prog_9_method_32_code 232 = .ok (.iadd, 1) := by decide +kernel
theorem d_X7_flash_233 : decode prog_9_method_32_code 233 = .ok (.iastore, 1) := by decide +kernel
theorem d_X7_flash_234 : decode prog_9_method_32_code 234 = .ok (.aload_n 0, 1) := by decide +kernel
theorem d_X7_flash_235 : decode prog_9_method_32_code 235 = .ok (.getfield 31, 3) := by decide +kernel
theorem d_X7_flash_238 : decode prog_9_method_32_code 238 = .ok (.iload_n 2, 1) := by decide +kernel
theorem d_X7_flash_239 : decode prog_9_method_32_code 239 = .ok (.iaload, 1) := by decide +kernel
theorem d_X7_flash_240 : decode prog_9_method_32_code 240 = .ok (.iconst 4, 1) := by decide +kernel
theorem d_X7_flash_241 : decode prog_9_method_32_code 241 = .ok (.if_icmp .ge 5, 3) := by decide +kernel
theorem d_X7_flash_244 : decode prog_9_method_32_code 244 = .ok (.iconst 0, 1) := by decide +kernel
theorem d_X7_flash_245 : decode prog_9_method_32_code 245 = .ok (.ireturn, 1) := by decide +kernel
theorem d_X7_flash_246 : decode prog_9_method_32_code 246 = .ok (.bipush 50, 2) := by decide +kernel
theorem d_X7_flash_248 : decode prog_9_method_32_code 248 = .ok (.bipush 19, 2) := by decide +kernel
theorem d_X7_flash_250 : decode prog_9_method_32_code 250 = .ok (.aload_n 0, 1) := by decide +kernel
theorem d_X7_flash_251 : decode prog_9_method_32_code 251 = .ok (.getfield 31, 3) := by decide +kernel
theorem d_X7_flash_254 : decode prog_9_method_32_code 254 = .ok (.sipush 202, 3) := by decide +kernel
theorem d_X7_flash_257 : decode prog_9_method_32_code 257 = .ok (.iaload, 1) := by decide +kernel
theorem d_X7_flash_258 : decode prog_9_method_32_code 258 = .ok (.imul, 1) := by decide +kernel
theorem d_X7_flash_259 : decode prog_9_method_32_code 259 = .ok (.iadd, 1) := by decide +kernel
theorem d_X7_flash_260 : decode prog_9_method_32_code 260 = .ok (.istore 4, 2) := by decide +kernel
theorem d_X7_flash_262 : decode prog_9_method_32_code 262 = .ok (.aload_n 0, 1) := by decide +kernel
theorem d_X7_flash_263 : decode prog_9_method_32_code 263 = .ok (.getfield 31, 3) := by decide +kernel
theorem d_X7_flash_266 : decode prog_9_method_32_code 266 = .ok (.iload 4, 2) := by decide +kernel
theorem d_X7_flash_268 : decode prog_9_method_32_code 268 = .ok (.iload_n 1, 1) := by decide +kernel
theorem d_X7_flash_269 : decode prog_9_method_32_code 269 = .ok (.iastore, 1) := by decide +kernel
theorem d_X7_flash_270 : decode prog_9_method_32_code 270 = .ok (.aload_n 0, 1) := by decide +kernel
theorem d_X7_flash_271 : decode prog_9_method_32_code 271 = .ok (.getfield 31, 3) := by decide +kernel
theorem d_X7_flash_274 : decode prog_9_method_32_code 274 = .ok (.iload 4, 2) := by decide +kernel
theorem d_X7_flash_276 : decode prog_9_method_32_code 276 = .ok (.iconst 1, 1) := by decide +kernel
theorem d_X7_flash_277 : decode prog_9_method_32_code 277 = .ok (.iadd, 1) := by decide +kernel
theorem d_X7_flash_278 : decode prog_9_method_32_code 278 = .ok (.iconst 0, 1) := by decide +kernel
theorem d_X7_flash_279 : decode prog_9_method_32_code 279 = .ok (.iastore, 1) := by decide +kernel
theorem d_X7_flash_280 : decode prog_9_method_32_code 280 = .ok (.aload_n 0, 1) := by decide +kernel
theorem d_X7_flash_281 : decode prog_9_method_32_code 281 = .ok (.getfield 31, 3) := by decide +kernel
theorem d_X7_flash_284 : decode prog_9_method_32_code 284 = .ok (.iload 4, 2) := by decide +kernel
theorem d_X7_flash_286 : decode prog_9_method_32_code 286 = .ok (.iconst 2, 1) := by decide +kernel
theorem d_X7_flash_287 : decode prog_9_method_32_code 287 = .ok (.iadd, 1) := by decide +kernel
theorem d_X7_flash_288 : decode prog_9_method_32_code 288 = .ok (.iconst 0, 1) := by decide +kernel
theorem d_X7_flash_289 : decode prog_9_method_32_code 289 = .ok (.iastore, 1) := by decide +kernel
theorem d_X7_flash_290 : decode prog_9_method_32_code 290 = .ok (.iconst 0, 1) := by decide +kernel
theorem d_X7_flash_291 : decode prog_9_method_32_code 291 = .ok (.istore 5, 2) := by decide +kernel
theorem d_X7_flash_293 : decode prog_9_method_32_code 293 = .ok (.iload 5, 2) := by decide +kernel
theorem d_X7_flash_295 : decode prog_9_method_32_code 295 = .ok (.bipush 16, 2) := by decide +kernel
theorem d_X7_flash_297 : decode prog_9_method_32_code 297 = .ok (.if_icmp .ge 32, 3) := by decide +kernel
theorem d_X7_flash_300 : decode prog_9_method_32_code 300 = .ok (.aload_n 0, 1) := by decide +kernel
theorem d_X7_flash_301 : decode prog_9_method_32_code 301 = .ok (.getfield 31, 3) := by decide +kernel
theorem d_X7_flash_304 : decode prog_9_method_32_code 304 = .ok (.iload 4, 2) := by decide +kernel
theorem d_X7_flash_306 : decode prog_9_method_32_code 306 = .ok (.iconst 3, 1) := by decide +kernel
theorem d_X7_flash_307 : decode prog_9_method_32_code 307 = .ok (.iadd, 1) := by decide +kernel
theorem d_X7_flash_308 : decode prog_9_method_32_code 308 = .ok (.iload 5, 2) := by decide +kernel
theorem d_X7_flash_310 : decode prog_9_method_32_code 310 = .ok (.iadd, 1) := by decide +kernel
theorem d_X7_flash_311 : decode prog_9_method_32_code 311 = .ok (.aload_n 0, 1) := by decide +kernel
theorem d_X7_flash_312 : decode prog_9_method_32_code 312 = .ok (.getfield 31, 3) := by decide +kernel
theorem d_X7_flash_315 : decode prog_9_method_32_code 315 = .ok (.iload_n 2, 1) := by decide +kernel
theorem d_X7_flash_316 : decode prog_9_method_32_code 316 = .ok (.iconst 1, 1) := by decide +kernel
theorem d_X7_flash_317 : decode prog_9_method_32_code 317 = .ok (.iadd, 1) := by decide +kernel
theorem d_X7_flash_318 : decode prog_9_method_32_code 318 = .ok (.iload 5, 2) := by decide +kernel
theorem d_X7_flash_320 : decode prog_9_method_32_code 320 = .ok (.iadd, 1) := by decide +kernel
theorem d_X7_flash_321 : decode prog_9_method_32_code 321 = .ok (.iaload, 1) := by decide +kernel
theorem d_X7_flash_322 : decode prog_9_method_32_code 322 = .ok (.iastore, 1) := by decide +kernel
theorem d_X7_flash_323 : decode prog_9_method_32_code 323 = .ok (.iinc 5 1, 3) := by decide +kernel
theorem d_X7_flash_326 : decode prog_9_method_32_code 326 = .ok (.goto (-33), 3) := by decide +kernel
theorem d_X7_flash_329 : decode prog_9_method_32_code 329 = .ok (.aload_n 0, 1) := by decide +kernel
theorem d_X7_flash_330 : decode prog_9_method_32_code 330 = .ok (.getfield 31, 3) := by decide +kernel
theorem d_X7_flash_333 : decode prog_9_method_32_code 333 = .ok (.sipush 202, 3) := by decide +kernel
theorem d_X7_flash_336 : decode prog_9_method_32_code 336 = .ok (.dup2, 1) := by decide +kernel
theorem d_X7_flash_337 : decode prog_9_method_32_code 337 = .ok (.iaload, 1) := by decide +kernel
theorem d_X7_flash_338 : decode prog_9_method_32_code 338 = .ok (.iconst 1, 1) := by decide +kernel
theorem d_X7_flash_339 : decode prog_9_method_32_code 339 = .ok (.iadd, 1) := by decide +kernel
theorem d_X7_flash_340 : decode prog_9_method_32_code 340 = .ok (.iastore, 1) := by decide +kernel
theorem d_X7_flash_341 : decode prog_9_method_32_code 341 = .ok (.aload_n 0, 1) := by decide +kernel
theorem d_X7_flash_342 : decode prog_9_method_32_code 342 = .ok (.getfield 31, 3) := by decide +kernel
theorem d_X7_flash_345 : decode prog_9_method_32_code 345 = .ok (.iload_n 2, 1) := by decide +kernel
theorem d_X7_flash_346 : decode prog_9_method_32_code 346 = .ok (.iconst 0, 1) := by decide +kernel
theorem d_X7_flash_347 : decode prog_9_method_32_code 347 = .ok (.iastore, 1) := by decide +kernel
theorem d_X7_flash_348 : decode prog_9_method_32_code 348 = .ok (.iconst 1, 1) := by decide +kernel
theorem d_X7_flash_349 : decode prog_9_method_32_code 349 = .ok (.ireturn, 1) := by decide +kernel
def m_X7_flash_b218 (sh : Sh) (k140 : Int32 → Mu → Option (Int32 × Mu)) (v0 : Nat) (v1 : Int32) (v2 : Int32) (v3 : Int32) (v4 : Int32) (μ : Mu) : Option (Int32 × Mu) :=
  bd (v4 + 1) fun w88 =>
  k140 w88 μ
def m_X7_flash_b216 (sh : Sh) (k140 : Int32 → Mu → Option (Int32 × Mu)) (v0 : Nat) (v1 : Int32) (v2 : Int32) (v3 : Int32) (v4 : Int32) (s0 : Int32) (s1 : Int32) (s2 : Int32) (s3 : Nat) (μ : Mu) : Option (Int32 × Mu) :=
  gd (ix sh 8 s3 s2) <|
  bd (sI μ s3 s2.toNatClampNeg (s1 ||| s0)) fun μ90 =>
  m_X7_flash_b218 sh k140 v0 v1 v2 v3 v4 μ90
def m_X7_flash_b329 (sh : Sh) (v0 : Nat) (v2 : Int32) (μ : Mu) : Option (Int32 × Mu) :=
  gd (iz sh 7 v0) <|
  bd (gR μ v0 16) fun a101 =>
  gd (ix sh 8 a101 202) <|
  bd (gI μ a101 (202 : Int32).toNatClampNeg) fun w103 =>
  bd (sI μ a101 (202 : Int32).toNatClampNeg (w103 + 1)) fun μ104 =>
  bd (gR μ104 v0 16) fun a105 =>
  gd (ix sh 8 a105 v2) <|
  bd (sI μ104 a105 v2.toNatClampNeg 0) fun μ107 =>
  some (1, μ107)
def m_X7_flash_b293 (sh : Sh) (k293 : Int32 → Mu → Option (Int32 × Mu)) (v0 : Nat) (v2 : Int32) (v4 : Int32) (v5 : Int32) (μ : Mu) : Option (Int32 × Mu) :=
  if 16 ≤ v5 then
    m_X7_flash_b329 sh v0 v2 μ
  else
    gd (iz sh 7 v0) <|
    bd (gR μ v0 16) fun a93 =>
    bd (gR μ v0 16) fun a94 =>
    gd (ix sh 8 a94 ((v2 + 1) + v5)) <|
    bd (gI μ a94 ((v2 + 1) + v5).toNatClampNeg) fun w96 =>
    gd (ix sh 8 a93 ((v4 + 3) + v5)) <|
    bd (sI μ a93 ((v4 + 3) + v5).toNatClampNeg w96) fun μ98 =>
    bd (v5 + 1) fun w99 =>
    k293 w99 μ98
def m_X7_flash_h293 (sh : Sh) (v0 : Nat) (v2 : Int32) (v4 : Int32) : Nat → Int32 → Mu → Option (Int32 × Mu)
  | 0 => fun _ _ => none
  | f + 1 => fun v5 μ => m_X7_flash_b293 sh (m_X7_flash_h293 sh v0 v2 v4 f) v0 v2 v4 v5 μ
def m_X7_flash_b224 (sh : Sh) (v0 : Nat) (v1 : Int32) (v2 : Int32) (μ : Mu) : Option (Int32 × Mu) :=
  gd (iz sh 7 v0) <|
  bd (gR μ v0 16) fun a67 =>
  gd (ix sh 8 a67 v2) <|
  bd (gI μ a67 v2.toNatClampNeg) fun w69 =>
  bd (sI μ a67 v2.toNatClampNeg (w69 + 1)) fun μ70 =>
  bd (gR μ70 v0 16) fun a71 =>
  gd (ix sh 8 a71 v2) <|
  bd (gI μ70 a71 v2.toNatClampNeg) fun w73 =>
  if 4 ≤ w73 then
    bd (gR μ70 v0 16) fun a75 =>
    gd (ix sh 8 a75 202) <|
    bd (gI μ70 a75 (202 : Int32).toNatClampNeg) fun w77 =>
    bd (50 + (19 * w77)) fun w78 =>
    bd (gR μ70 v0 16) fun a79 =>
    gd (ix sh 8 a79 w78) <|
    bd (sI μ70 a79 w78.toNatClampNeg v1) fun μ81 =>
    bd (gR μ81 v0 16) fun a82 =>
    gd (ix sh 8 a82 (w78 + 1)) <|
    bd (sI μ81 a82 (w78 + 1).toNatClampNeg 0) fun μ84 =>
    bd (gR μ84 v0 16) fun a85 =>
    gd (ix sh 8 a85 (w78 + 2)) <|
    bd (sI μ84 a85 (w78 + 2).toNatClampNeg 0) fun μ87 =>
    m_X7_flash_h293 sh v0 v2 w78 FU 0 μ87
  else
    some (0, μ70)
def m_X7_flash_b140 (sh : Sh) (k140 : Int32 → Mu → Option (Int32 × Mu)) (v0 : Nat) (v1 : Int32) (v2 : Int32) (v3 : Int32) (v4 : Int32) (μ : Mu) : Option (Int32 × Mu) :=
  gd (iz sh 7 v0) <|
  if (gI μ v0 6) ≤ v4 then
    m_X7_flash_b224 sh v0 v1 v2 μ
  else
    bd (gR μ v0 16) fun a53 =>
    gd (ix sh 8 a53 v4) <|
    bd (gI μ a53 v4.toNatClampNeg) fun w55 =>
    if w55 = v1 then
      bd (sJ μ v0 17 (((gJ μ v0 17) * 6364136223846793005) + 1442695040888963407)) fun μ57 =>
      bd (gR μ57 v0 16) fun a58 =>
      gd (ix sh 8 a58 (v3 + 3)) <|
      bd (gI μ57 a58 (v3 + 3).toNatClampNeg) fun w60 =>
      gd (nzJ 10) <|
      bd (gR μ57 v0 9) fun a62 =>
      gd (ix sh 8 a62 v4) <|
      bd (gI μ57 a62 v4.toNatClampNeg) fun w64 =>
      if 0 ≤ (lg_cmp ((((gJ μ57 v0 17).toUInt64 >>> ((33 : Int32).toInt64.toUInt64 &&& Int64.toUInt64 63)).toInt64) - (((gJ μ57 v0 17).toUInt64 >>> ((33 : Int32).toInt64.toUInt64 &&& Int64.toUInt64 63)).toInt64) / 10 * 10) (w64.toInt64)) then
        m_X7_flash_b216 sh k140 v0 v1 v2 v3 v4 0 w60 (v3 + 3) a58 μ57
      else
        m_X7_flash_b216 sh k140 v0 v1 v2 v3 v4 (1 <<< (v4 &&& 31)) w60 (v3 + 3) a58 μ57
    else
      m_X7_flash_b218 sh k140 v0 v1 v2 v3 v4 μ
def m_X7_flash_h140 (sh : Sh) (v0 : Nat) (v1 : Int32) (v2 : Int32) (v3 : Int32) : Nat → Int32 → Mu → Option (Int32 × Mu)
  | 0 => fun _ _ => none
  | f + 1 => fun v4 μ => m_X7_flash_b140 sh (m_X7_flash_h140 sh v0 v1 v2 v3 f) v0 v1 v2 v3 v4 μ
def m_X7_flash_b127 (sh : Sh) (v0 : Nat) (v1 : Int32) (v2 : Int32) (v3 : Int32) (s0 : Int32) (s1 : Int32) (s2 : Nat) (μ : Mu) : Option (Int32 × Mu) :=
  gd (ix sh 8 s2 s1) <|
  bd (sI μ s2 s1.toNatClampNeg s0) fun μ46 =>
  gd (iz sh 7 v0) <|
  bd (gR μ46 v0 16) fun a48 =>
  gd (ix sh 8 a48 (v3 + 3)) <|
  bd (sI μ46 a48 (v3 + 3).toNatClampNeg 0) fun μ50 =>
  m_X7_flash_h140 sh v0 v1 v2 v3 FU 0 μ50
def m_X7_flash_b125 (sh : Sh) (v0 : Nat) (v1 : Int32) (v2 : Int32) (v3 : Int32) (s0 : Int32) (s1 : Nat) (μ : Mu) : Option (Int32 × Mu) :=
  m_X7_flash_b127 sh v0 v1 v2 v3 (-9) s0 s1 μ
def m_X7_flash_b40 (sh : Sh) (v0 : Nat) (v1 : Int32) (v2 : Int32) (μ : Mu) : Option (Int32 × Mu) :=
  gd (iz sh 7 v0) <|
  bd (gR μ v0 16) fun a15 =>
  gd (ix sh 8 a15 v2) <|
  bd (gI μ a15 v2.toNatClampNeg) fun w17 =>
  bd ((v2 + 1) + (4 * w17)) fun w18 =>
  bd (gR μ v0 16) fun a19 =>
  bd (gR μ v0 16) fun a20 =>
  gd (ix sh 8 a20 203) <|
  bd (gI μ a20 (203 : Int32).toNatClampNeg) fun w22 =>
  gd (ix sh 8 a19 w18) <|
  bd (sI μ a19 w18.toNatClampNeg w22) fun μ24 =>
  bd (gR μ24 v0 16) fun a25 =>
  ca2 (m_X7_inOf sh v0 v1 μ24) fun r26 μ27 =>
  gd (ix sh 8 a25 (w18 + 1)) <|
  bd (sI μ27 a25 (w18 + 1).toNatClampNeg r26) fun μ29 =>
  bd (gR μ29 v0 16) fun a30 =>
  bd (gR μ29 v0 16) fun a31 =>
  gd (ix sh 8 a31 15) <|
  bd (gI μ29 a31 (15 : Int32).toNatClampNeg) fun w33 =>
  if w33 = (-9) then
    m_X7_flash_b125 sh v0 v1 v2 w18 (w18 + 2) a30 μ29
  else
    bd (gR μ29 v0 16) fun a35 =>
    bd (gR μ29 v0 16) fun a36 =>
    gd (ix sh 8 a36 15) <|
    bd (gI μ29 a36 (15 : Int32).toNatClampNeg) fun w38 =>
    gd (ix sh 8 a35 w38) <|
    bd (gI μ29 a35 w38.toNatClampNeg) fun w40 =>
    if w40 = v1 then
      bd (gR μ29 v0 16) fun a42 =>
      gd (ix sh 8 a42 15) <|
      bd (gI μ29 a42 (15 : Int32).toNatClampNeg) fun w44 =>
      m_X7_flash_b127 sh v0 v1 v2 w18 w44 (w18 + 2) a30 μ29
    else
      m_X7_flash_b125 sh v0 v1 v2 w18 (w18 + 2) a30 μ29
def m_X7_flash (sh : Sh) (v0 : Nat) (v1 : Int32) (μ : Mu) : Option (Int32 × Mu) :=
  bd (16 + (17 * v1)) fun w1 =>
  gd (iz sh 7 v0) <|
  bd (gR μ v0 16) fun a3 =>
  gd (ix sh 8 a3 202) <|
  bd (gI μ a3 (202 : Int32).toNatClampNeg) fun w5 =>
  if w5 = 8 then
    some (0, μ)
  else
    ca2 (m_X7_inOf sh v0 v1 μ) fun r7 μ8 =>
    if r7 = 0 then
      bd (gR μ8 v0 16) fun a10 =>
      gd (ix sh 8 a10 w1) <|
      bd (gI μ8 a10 w1.toNatClampNeg) fun w12 =>
      if w12 = 0 then
        some (0, μ8)
      else
        m_X7_flash_b40 sh v0 v1 w1 μ8
    else
      m_X7_flash_b40 sh v0 v1 w1 μ8
set_option maxHeartbeats 4000000 in
set_option maxRecDepth 20000 in
theorem t_X7_flash_b218 {l : Launch} {G : Gl} {n : Nat} {sh : Sh} {x : Int32 × Mu} {k140 : Int32 → Mu → Option (Int32 × Mu)} {v0 : Nat} {v1 : Int32} {v2 : Int32} {v3 : Int32} {v4 : Int32} {μ : Mu} (hk140 : ∀ (v4 : Int32) (μ : Mu), k140 v4 μ = some x → Sj l G (QI G n sh x) c_X7_flash n sh 0 0 μ 140 [some (vr v0), some (vi v1), some (vi v2), some (vi v3), some (vi v4), none] []) (h : m_X7_flash_b218 sh k140 v0 v1 v2 v3 v4 μ = some x) : Sj l G (QI G n sh x) c_X7_flash n sh 0 0 μ 218 [some (vr v0), some (vi v1), some (vi v2), some (vi v3), some (vi v4), none] [] := by
  unfold m_X7_flash_b218 at h
  obtain ⟨w88, ew88, h⟩ := bd_1 h
  refine s_iinc (pc := 218) (v := w88) (lc' := [some (vr v0), some (vi v1), some (vi v2), some (vi v3), some (vi w88), none]) d_X7_flash_218 rfl (by rw [ew88]; rfl) (by decide) rfl ?_
  refine s_goto (pc := 221) (tgt := 140) d_X7_flash_221 (by decide) ?_
  exact hk140 _ _ h
set_option maxHeartbeats 4000000 in
set_option maxRecDepth 20000 in
theorem t_X7_flash_b216 {l : Launch} {G : Gl} {n : Nat} {sh : Sh} {x : Int32 × Mu} {k140 : Int32 → Mu → Option (Int32 × Mu)} {v0 : Nat} {v1 : Int32} {v2 : Int32} {v3 : Int32} {v4 : Int32} {s0 : Int32} {s1 : Int32} {s2 : Int32} {s3 : Nat} {μ : Mu} (hk140 : ∀ (v4 : Int32) (μ : Mu), k140 v4 μ = some x → Sj l G (QI G n sh x) c_X7_flash n sh 0 0 μ 140 [some (vr v0), some (vi v1), some (vi v2), some (vi v3), some (vi v4), none] []) (h : m_X7_flash_b216 sh k140 v0 v1 v2 v3 v4 s0 s1 s2 s3 μ = some x) : Sj l G (QI G n sh x) c_X7_flash n sh 0 0 μ 216 [some (vr v0), some (vi v1), some (vi v2), some (vi v3), some (vi v4), none] [vi s0, vi s1, vi s2, vr s3] := by
  unfold m_X7_flash_b216 at h
  refine s_ior (pc := 216) d_X7_flash_216 ?_
  obtain ⟨g89, h⟩ := gd_1 h
  refine s_iast (pc := 217) d_X7_flash_217 g89 ?_
  obtain ⟨μ90, eμ90, h⟩ := bd_1 h
  refine s_mu eμ90 ?_
  exact t_X7_flash_b218 hk140 h
set_option maxHeartbeats 4000000 in
set_option maxRecDepth 20000 in
theorem t_X7_flash_b329 {l : Launch} {G : Gl} {n : Nat} {sh : Sh} {x : Int32 × Mu} {v0 : Nat} {v2 : Int32} {μ : Mu} (h : m_X7_flash_b329 sh v0 v2 μ = some x) : Sj l G (QI G n sh x) c_X7_flash n sh 0 0 μ 329 [some (vr v0), none, some (vi v2), none, none, none] [] := by
  unfold m_X7_flash_b329 at h
  refine s_aload_n (pc := 329) d_X7_flash_329 rfl rfl ?_
  obtain ⟨g100, h⟩ := gd_1 h
  refine s_getR (pc := 330) (k := 16) cl_7 d_X7_flash_330 g100 (by decide) w_676 (rt_arr _) ?_
  obtain ⟨a101, ea101, h⟩ := bd_1 h
  refine s_topR ea101 ?_
  refine s_sipush (pc := 333) (v := 202) d_X7_flash_333 (by decide) ?_
  refine s_dup2 (pc := 336) d_X7_flash_336 rfl rfl ?_
  obtain ⟨g102, h⟩ := gd_1 h
  refine s_iald (pc := 337) d_X7_flash_337 g102 ?_
  obtain ⟨w103, ew103, h⟩ := bd_1 h
  refine s_topI ew103 ?_
  refine s_iconst (pc := 338) (v := 1) d_X7_flash_338 (by decide) ?_
  refine s_iadd (pc := 339) d_X7_flash_339 ?_
  refine s_iast (pc := 340) d_X7_flash_340 g102 ?_
  obtain ⟨μ104, eμ104, h⟩ := bd_1 h
  refine s_mu eμ104 ?_
  refine s_aload_n (pc := 341) d_X7_flash_341 rfl rfl ?_
  refine s_getR (pc := 342) (k := 16) cl_7 d_X7_flash_342 g100 (by decide) w_676 (rt_arr _) ?_
  obtain ⟨a105, ea105, h⟩ := bd_1 h
  refine s_topR ea105 ?_
  refine s_iload_n (pc := 345) d_X7_flash_345 rfl rfl ?_
  refine s_iconst (pc := 346) (v := 0) d_X7_flash_346 (by decide) ?_
  obtain ⟨g106, h⟩ := gd_1 h
  refine s_iast (pc := 347) d_X7_flash_347 g106 ?_
  obtain ⟨μ107, eμ107, h⟩ := bd_1 h
  refine s_mu eμ107 ?_
  refine s_iconst (pc := 348) (v := 1) d_X7_flash_348 (by decide) ?_
  obtain rfl := Option.some.inj h
  exact s_zret0 (pc := 349) rfl d_X7_flash_349 rfl
set_option maxHeartbeats 4000000 in
set_option maxRecDepth 20000 in
theorem t_X7_flash_b293 {l : Launch} {G : Gl} {n : Nat} {sh : Sh} {x : Int32 × Mu} {k293 : Int32 → Mu → Option (Int32 × Mu)} {v0 : Nat} {v2 : Int32} {v4 : Int32} {v5 : Int32} {μ : Mu} (hk293 : ∀ (v5 : Int32) (μ : Mu), k293 v5 μ = some x → Sj l G (QI G n sh x) c_X7_flash n sh 0 0 μ 293 [some (vr v0), none, some (vi v2), none, some (vi v4), some (vi v5)] []) (h : m_X7_flash_b293 sh k293 v0 v2 v4 v5 μ = some x) : Sj l G (QI G n sh x) c_X7_flash n sh 0 0 μ 293 [some (vr v0), none, some (vi v2), none, some (vi v4), some (vi v5)] [] := by
  unfold m_X7_flash_b293 at h
  refine s_iload (pc := 293) d_X7_flash_293 rfl ?_
  refine s_bipush (pc := 295) (v := 16) d_X7_flash_295 (by decide) ?_
  refine s_icmp_ge (pc := 297) (tgt := 329) d_X7_flash_297 (by decide) (fun c91 => ?_) (fun c91 => ?_)
  · have h := it_t c91 h
    refine s_mask [true, true, true, true, false, false] rfl ?_
    exact t_X7_flash_b329 h
  · have h := it_f c91 h
    refine s_aload_n (pc := 300) d_X7_flash_300 rfl rfl ?_
    obtain ⟨g92, h⟩ := gd_1 h
    refine s_getR (pc := 301) (k := 16) cl_7 d_X7_flash_301 g92 (by decide) w_676 (rt_arr _) ?_
    obtain ⟨a93, ea93, h⟩ := bd_1 h
    refine s_topR ea93 ?_
    refine s_iload (pc := 304) d_X7_flash_304 rfl ?_
    refine s_iconst (pc := 306) (v := 3) d_X7_flash_306 (by decide) ?_
    refine s_iadd (pc := 307) d_X7_flash_307 ?_
    refine s_iload (pc := 308) d_X7_flash_308 rfl ?_
    refine s_iadd (pc := 310) d_X7_flash_310 ?_
    refine s_aload_n (pc := 311) d_X7_flash_311 rfl rfl ?_
    refine s_getR (pc := 312) (k := 16) cl_7 d_X7_flash_312 g92 (by decide) w_676 (rt_arr _) ?_
    obtain ⟨a94, ea94, h⟩ := bd_1 h
    refine s_topR ea94 ?_
    refine s_iload_n (pc := 315) d_X7_flash_315 rfl rfl ?_
    refine s_iconst (pc := 316) (v := 1) d_X7_flash_316 (by decide) ?_
    refine s_iadd (pc := 317) d_X7_flash_317 ?_
    refine s_iload (pc := 318) d_X7_flash_318 rfl ?_
    refine s_iadd (pc := 320) d_X7_flash_320 ?_
    obtain ⟨g95, h⟩ := gd_1 h
    refine s_iald (pc := 321) d_X7_flash_321 g95 ?_
    obtain ⟨w96, ew96, h⟩ := bd_1 h
    refine s_topI ew96 ?_
    obtain ⟨g97, h⟩ := gd_1 h
    refine s_iast (pc := 322) d_X7_flash_322 g97 ?_
    obtain ⟨μ98, eμ98, h⟩ := bd_1 h
    refine s_mu eμ98 ?_
    obtain ⟨w99, ew99, h⟩ := bd_1 h
    refine s_iinc (pc := 323) (v := w99) (lc' := [some (vr v0), none, some (vi v2), none, some (vi v4), some (vi w99)]) d_X7_flash_323 rfl (by rw [ew99]; rfl) (by decide) rfl ?_
    refine s_goto (pc := 326) (tgt := 293) d_X7_flash_326 (by decide) ?_
    exact hk293 _ _ h
set_option maxHeartbeats 4000000 in
set_option maxRecDepth 20000 in
theorem t_X7_flash_h293 {l : Launch} {G : Gl} {n : Nat} {sh : Sh} {x : Int32 × Mu} {v0 : Nat} {v2 : Int32} {v4 : Int32} : ∀ (f : Nat) (v5 : Int32) (μ : Mu), m_X7_flash_h293 sh v0 v2 v4 f v5 μ = some x → Sj l G (QI G n sh x) c_X7_flash n sh 0 0 μ 293 [some (vr v0), none, some (vi v2), none, some (vi v4), some (vi v5)] [] := by
  intro f
  induction f with
  | zero =>
    intro v5 μ h
    cases h
  | succ f ih =>
    intro v5 μ h
    exact t_X7_flash_b293 ih h
set_option maxHeartbeats 4000000 in
set_option maxRecDepth 20000 in
theorem t_X7_flash_b224 {l : Launch} {G : Gl} {n : Nat} {sh : Sh} {x : Int32 × Mu} {v0 : Nat} {v1 : Int32} {v2 : Int32} {μ : Mu} (h : m_X7_flash_b224 sh v0 v1 v2 μ = some x) : Sj l G (QI G n sh x) c_X7_flash n sh 0 0 μ 224 [some (vr v0), some (vi v1), some (vi v2), none, none, none] [] := by
  unfold m_X7_flash_b224 at h
  refine s_aload_n (pc := 224) d_X7_flash_224 rfl rfl ?_
  obtain ⟨g66, h⟩ := gd_1 h
  refine s_getR (pc := 225) (k := 16) cl_7 d_X7_flash_225 g66 (by decide) w_676 (rt_arr _) ?_
  obtain ⟨a67, ea67, h⟩ := bd_1 h
  refine s_topR ea67 ?_
  refine s_iload_n (pc := 228) d_X7_flash_228 rfl rfl ?_
  refine s_dup2 (pc := 229) d_X7_flash_229 rfl rfl ?_
  obtain ⟨g68, h⟩ := gd_1 h
  refine s_iald (pc := 230) d_X7_flash_230 g68 ?_
  obtain ⟨w69, ew69, h⟩ := bd_1 h
  refine s_topI ew69 ?_
  refine s_iconst (pc := 231) (v := 1) d_X7_flash_231 (by decide) ?_
  refine s_iadd (pc := 232) d_X7_flash_232 ?_
  refine s_iast (pc := 233) d_X7_flash_233 g68 ?_
  obtain ⟨μ70, eμ70, h⟩ := bd_1 h
  refine s_mu eμ70 ?_
  refine s_aload_n (pc := 234) d_X7_flash_234 rfl rfl ?_
  refine s_getR (pc := 235) (k := 16) cl_7 d_X7_flash_235 g66 (by decide) w_676 (rt_arr _) ?_
  obtain ⟨a71, ea71, h⟩ := bd_1 h
  refine s_topR ea71 ?_
  refine s_iload_n (pc := 238) d_X7_flash_238 rfl rfl ?_
  obtain ⟨g72, h⟩ := gd_1 h
  refine s_iald (pc := 239) d_X7_flash_239 g72 ?_
  obtain ⟨w73, ew73, h⟩ := bd_1 h
  refine s_topI ew73 ?_
  refine s_iconst (pc := 240) (v := 4) d_X7_flash_240 (by decide) ?_
  refine s_icmp_ge (pc := 241) (tgt := 246) d_X7_flash_241 (by decide) (fun c74 => ?_) (fun c74 => ?_)
  · have h := it_t c74 h
    refine s_bipush (pc := 246) (v := 50) d_X7_flash_246 (by decide) ?_
    refine s_bipush (pc := 248) (v := 19) d_X7_flash_248 (by decide) ?_
    refine s_aload_n (pc := 250) d_X7_flash_250 rfl rfl ?_
    refine s_getR (pc := 251) (k := 16) cl_7 d_X7_flash_251 g66 (by decide) w_676 (rt_arr _) ?_
    obtain ⟨a75, ea75, h⟩ := bd_1 h
    refine s_topR ea75 ?_
    refine s_sipush (pc := 254) (v := 202) d_X7_flash_254 (by decide) ?_
    obtain ⟨g76, h⟩ := gd_1 h
    refine s_iald (pc := 257) d_X7_flash_257 g76 ?_
    obtain ⟨w77, ew77, h⟩ := bd_1 h
    refine s_topI ew77 ?_
    refine s_imul (pc := 258) d_X7_flash_258 ?_
    refine s_iadd (pc := 259) d_X7_flash_259 ?_
    obtain ⟨w78, ew78, h⟩ := bd_1 h
    refine s_topI ew78 ?_
    refine s_istore (pc := 260) (lc' := [some (vr v0), some (vi v1), some (vi v2), none, some (vi w78), none]) d_X7_flash_260 (by decide) rfl ?_
    refine s_aload_n (pc := 262) d_X7_flash_262 rfl rfl ?_
    refine s_getR (pc := 263) (k := 16) cl_7 d_X7_flash_263 g66 (by decide) w_676 (rt_arr _) ?_
    obtain ⟨a79, ea79, h⟩ := bd_1 h
    refine s_topR ea79 ?_
    refine s_iload (pc := 266) d_X7_flash_266 rfl ?_
    refine s_iload_n (pc := 268) d_X7_flash_268 rfl rfl ?_
    obtain ⟨g80, h⟩ := gd_1 h
    refine s_iast (pc := 269) d_X7_flash_269 g80 ?_
    obtain ⟨μ81, eμ81, h⟩ := bd_1 h
    refine s_mu eμ81 ?_
    refine s_aload_n (pc := 270) d_X7_flash_270 rfl rfl ?_
    refine s_getR (pc := 271) (k := 16) cl_7 d_X7_flash_271 g66 (by decide) w_676 (rt_arr _) ?_
    obtain ⟨a82, ea82, h⟩ := bd_1 h
    refine s_topR ea82 ?_
    refine s_iload (pc := 274) d_X7_flash_274 rfl ?_
    refine s_iconst (pc := 276) (v := 1) d_X7_flash_276 (by decide) ?_
    refine s_iadd (pc := 277) d_X7_flash_277 ?_
    refine s_iconst (pc := 278) (v := 0) d_X7_flash_278 (by decide) ?_
    obtain ⟨g83, h⟩ := gd_1 h
    refine s_iast (pc := 279) d_X7_flash_279 g83 ?_
    obtain ⟨μ84, eμ84, h⟩ := bd_1 h
    refine s_mu eμ84 ?_
    refine s_aload_n (pc := 280) d_X7_flash_280 rfl rfl ?_
    refine s_getR (pc := 281) (k := 16) cl_7 d_X7_flash_281 g66 (by decide) w_676 (rt_arr _) ?_
    obtain ⟨a85, ea85, h⟩ := bd_1 h
    refine s_topR ea85 ?_
    refine s_iload (pc := 284) d_X7_flash_284 rfl ?_
    refine s_iconst (pc := 286) (v := 2) d_X7_flash_286 (by decide) ?_
    refine s_iadd (pc := 287) d_X7_flash_287 ?_
    refine s_iconst (pc := 288) (v := 0) d_X7_flash_288 (by decide) ?_
    obtain ⟨g86, h⟩ := gd_1 h
    refine s_iast (pc := 289) d_X7_flash_289 g86 ?_
    obtain ⟨μ87, eμ87, h⟩ := bd_1 h
    refine s_mu eμ87 ?_
    refine s_iconst (pc := 290) (v := 0) d_X7_flash_290 (by decide) ?_
    refine s_istore (pc := 291) (lc' := [some (vr v0), some (vi v1), some (vi v2), none, some (vi w78), some (vi 0)]) d_X7_flash_291 (by decide) rfl ?_
    refine s_mask [true, false, true, true, true, true] rfl ?_
    exact t_X7_flash_h293 FU _ _ h
  · have h := it_f c74 h
    refine s_iconst (pc := 244) (v := 0) d_X7_flash_244 (by decide) ?_
    obtain rfl := Option.some.inj h
    exact s_zret0 (pc := 245) rfl d_X7_flash_245 rfl
set_option maxHeartbeats 4000000 in
set_option maxRecDepth 20000 in
theorem t_X7_flash_b140 {l : Launch} {G : Gl} {n : Nat} {sh : Sh} {x : Int32 × Mu} {k140 : Int32 → Mu → Option (Int32 × Mu)} {v0 : Nat} {v1 : Int32} {v2 : Int32} {v3 : Int32} {v4 : Int32} {μ : Mu} (hk140 : ∀ (v4 : Int32) (μ : Mu), k140 v4 μ = some x → Sj l G (QI G n sh x) c_X7_flash n sh 0 0 μ 140 [some (vr v0), some (vi v1), some (vi v2), some (vi v3), some (vi v4), none] []) (h : m_X7_flash_b140 sh k140 v0 v1 v2 v3 v4 μ = some x) : Sj l G (QI G n sh x) c_X7_flash n sh 0 0 μ 140 [some (vr v0), some (vi v1), some (vi v2), some (vi v3), some (vi v4), none] [] := by
  unfold m_X7_flash_b140 at h
  refine s_iload (pc := 140) d_X7_flash_140 rfl ?_
  refine s_aload_n (pc := 142) d_X7_flash_142 rfl rfl ?_
  obtain ⟨g51, h⟩ := gd_1 h
  refine s_getI (pc := 143) (k := 6) cl_7 d_X7_flash_143 g51 (by decide) w_666 rfl ?_
  refine s_icmp_ge (pc := 146) (tgt := 224) d_X7_flash_146 (by decide) (fun c52 => ?_) (fun c52 => ?_)
  · have h := it_t c52 h
    refine s_mask [true, true, true, false, false, true] rfl ?_
    exact t_X7_flash_b224 h
  · have h := it_f c52 h
    refine s_aload_n (pc := 149) d_X7_flash_149 rfl rfl ?_
    refine s_getR (pc := 150) (k := 16) cl_7 d_X7_flash_150 g51 (by decide) w_676 (rt_arr _) ?_
    obtain ⟨a53, ea53, h⟩ := bd_1 h
    refine s_topR ea53 ?_
    refine s_iload (pc := 153) d_X7_flash_153 rfl ?_
    obtain ⟨g54, h⟩ := gd_1 h
    refine s_iald (pc := 155) d_X7_flash_155 g54 ?_
    obtain ⟨w55, ew55, h⟩ := bd_1 h
    refine s_topI ew55 ?_
    refine s_iload_n (pc := 156) d_X7_flash_156 rfl rfl ?_
    refine s_icmp_ne (pc := 157) (tgt := 218) d_X7_flash_157 (by decide) (fun c56 => ?_) (fun c56 => ?_)
    · have h := it_f c56 h
      exact t_X7_flash_b218 hk140 h
    · have h := it_t c56 h
      refine s_aload_n (pc := 160) d_X7_flash_160 rfl rfl ?_
      refine s_aload_n (pc := 161) d_X7_flash_161 rfl rfl ?_
      refine s_getJ (pc := 162) (k := 17) cl_7 d_X7_flash_162 g51 (by decide) w_677 rfl ?_
      refine s_ldc2 (pc := 165) (v := 6364136223846793005) d_X7_flash_165 w_866 ?_
      refine s_lmul (pc := 168) d_X7_flash_168 ?_
      refine s_ldc2 (pc := 169) (v := 1442695040888963407) d_X7_flash_169 w_867 ?_
      refine s_ladd (pc := 172) d_X7_flash_172 ?_
      refine s_putJ (pc := 173) (k := 17) cl_7 d_X7_flash_173 g51 (by decide) w_677 rfl rfl ?_
      obtain ⟨μ57, eμ57, h⟩ := bd_1 h
      refine s_mu eμ57 ?_
      refine s_aload_n (pc := 176) d_X7_flash_176 rfl rfl ?_
      refine s_getR (pc := 177) (k := 16) cl_7 d_X7_flash_177 g51 (by decide) w_676 (rt_arr _) ?_
      obtain ⟨a58, ea58, h⟩ := bd_1 h
      refine s_topR ea58 ?_
      refine s_iload_n (pc := 180) d_X7_flash_180 rfl rfl ?_
      refine s_iconst (pc := 181) (v := 3) d_X7_flash_181 (by decide) ?_
      refine s_iadd (pc := 182) d_X7_flash_182 ?_
      refine s_dup2 (pc := 183) d_X7_flash_183 rfl rfl ?_
      obtain ⟨g59, h⟩ := gd_1 h
      refine s_iald (pc := 184) d_X7_flash_184 g59 ?_
      obtain ⟨w60, ew60, h⟩ := bd_1 h
      refine s_topI ew60 ?_
      refine s_aload_n (pc := 185) d_X7_flash_185 rfl rfl ?_
      refine s_getJ (pc := 186) (k := 17) cl_7 d_X7_flash_186 g51 (by decide) w_677 rfl ?_
      refine s_bipush (pc := 189) (v := 33) d_X7_flash_189 (by decide) ?_
      refine s_lushr (pc := 191) d_X7_flash_191 ?_
      refine s_ldc2 (pc := 192) (v := 10) d_X7_flash_192 w_868 ?_
      obtain ⟨g61, h⟩ := gd_1 h
      refine s_lrem (pc := 195) d_X7_flash_195 (nzJ_eq g61) ?_
      refine s_aload_n (pc := 196) d_X7_flash_196 rfl rfl ?_
      refine s_getR (pc := 197) (k := 9) cl_7 d_X7_flash_197 g51 (by decide) w_669 (rt_arr _) ?_
      obtain ⟨a62, ea62, h⟩ := bd_1 h
      refine s_topR ea62 ?_
      refine s_iload (pc := 200) d_X7_flash_200 rfl ?_
      obtain ⟨g63, h⟩ := gd_1 h
      refine s_iald (pc := 202) d_X7_flash_202 g63 ?_
      obtain ⟨w64, ew64, h⟩ := bd_1 h
      refine s_topI ew64 ?_
      refine s_i2l (pc := 203) d_X7_flash_203 ?_
      refine s_lcmp (pc := 204) d_X7_flash_204 ?_
      refine s_if_ge (pc := 205) (tgt := 215) d_X7_flash_205 (by decide) (fun c65 => ?_) (fun c65 => ?_)
      · have h := it_t c65 h
        refine s_iconst (pc := 215) (v := 0) d_X7_flash_215 (by decide) ?_
        exact t_X7_flash_b216 hk140 h
      · have h := it_f c65 h
        refine s_iconst (pc := 208) (v := 1) d_X7_flash_208 (by decide) ?_
        refine s_iload (pc := 209) d_X7_flash_209 rfl ?_
        refine s_ishl (pc := 211) d_X7_flash_211 ?_
        refine s_goto (pc := 212) (tgt := 216) d_X7_flash_212 (by decide) ?_
        exact t_X7_flash_b216 hk140 h
set_option maxHeartbeats 4000000 in
set_option maxRecDepth 20000 in
theorem t_X7_flash_h140 {l : Launch} {G : Gl} {n : Nat} {sh : Sh} {x : Int32 × Mu} {v0 : Nat} {v1 : Int32} {v2 : Int32} {v3 : Int32} : ∀ (f : Nat) (v4 : Int32) (μ : Mu), m_X7_flash_h140 sh v0 v1 v2 v3 f v4 μ = some x → Sj l G (QI G n sh x) c_X7_flash n sh 0 0 μ 140 [some (vr v0), some (vi v1), some (vi v2), some (vi v3), some (vi v4), none] [] := by
  intro f
  induction f with
  | zero =>
    intro v4 μ h
    cases h
  | succ f ih =>
    intro v4 μ h
    exact t_X7_flash_b140 ih h
set_option maxHeartbeats 4000000 in
set_option maxRecDepth 20000 in
theorem t_X7_flash_b127 {l : Launch} {G : Gl} {n : Nat} {sh : Sh} {x : Int32 × Mu} {v0 : Nat} {v1 : Int32} {v2 : Int32} {v3 : Int32} {s0 : Int32} {s1 : Int32} {s2 : Nat} {μ : Mu} (h : m_X7_flash_b127 sh v0 v1 v2 v3 s0 s1 s2 μ = some x) : Sj l G (QI G n sh x) c_X7_flash n sh 0 0 μ 127 [some (vr v0), some (vi v1), some (vi v2), some (vi v3), none, none] [vi s0, vi s1, vr s2] := by
  unfold m_X7_flash_b127 at h
  obtain ⟨g45, h⟩ := gd_1 h
  refine s_iast (pc := 127) d_X7_flash_127 g45 ?_
  obtain ⟨μ46, eμ46, h⟩ := bd_1 h
  refine s_mu eμ46 ?_
  refine s_aload_n (pc := 128) d_X7_flash_128 rfl rfl ?_
  obtain ⟨g47, h⟩ := gd_1 h
  refine s_getR (pc := 129) (k := 16) cl_7 d_X7_flash_129 g47 (by decide) w_676 (rt_arr _) ?_
  obtain ⟨a48, ea48, h⟩ := bd_1 h
  refine s_topR ea48 ?_
  refine s_iload_n (pc := 132) d_X7_flash_132 rfl rfl ?_
  refine s_iconst (pc := 133) (v := 3) d_X7_flash_133 (by decide) ?_
  refine s_iadd (pc := 134) d_X7_flash_134 ?_
  refine s_iconst (pc := 135) (v := 0) d_X7_flash_135 (by decide) ?_
  obtain ⟨g49, h⟩ := gd_1 h
  refine s_iast (pc := 136) d_X7_flash_136 g49 ?_
  obtain ⟨μ50, eμ50, h⟩ := bd_1 h
  refine s_mu eμ50 ?_
  refine s_iconst (pc := 137) (v := 0) d_X7_flash_137 (by decide) ?_
  refine s_istore (pc := 138) (lc' := [some (vr v0), some (vi v1), some (vi v2), some (vi v3), some (vi 0), none]) d_X7_flash_138 (by decide) rfl ?_
  exact t_X7_flash_h140 FU _ _ h
set_option maxHeartbeats 4000000 in
set_option maxRecDepth 20000 in
theorem t_X7_flash_b125 {l : Launch} {G : Gl} {n : Nat} {sh : Sh} {x : Int32 × Mu} {v0 : Nat} {v1 : Int32} {v2 : Int32} {v3 : Int32} {s0 : Int32} {s1 : Nat} {μ : Mu} (h : m_X7_flash_b125 sh v0 v1 v2 v3 s0 s1 μ = some x) : Sj l G (QI G n sh x) c_X7_flash n sh 0 0 μ 125 [some (vr v0), some (vi v1), some (vi v2), some (vi v3), none, none] [vi s0, vr s1] := by
  unfold m_X7_flash_b125 at h
  refine s_bipush (pc := 125) (v := (-9)) d_X7_flash_125 (by decide) ?_
  exact t_X7_flash_b127 h
set_option maxHeartbeats 4000000 in
set_option maxRecDepth 20000 in
theorem t_X7_flash_b40 {l : Launch} {G : Gl} {n : Nat} {sh : Sh} {x : Int32 × Mu} {v0 : Nat} {v1 : Int32} {v2 : Int32} {μ : Mu} (h : m_X7_flash_b40 sh v0 v1 v2 μ = some x) : Sj l G (QI G n sh x) c_X7_flash n sh 0 0 μ 40 [some (vr v0), some (vi v1), some (vi v2), none, none, none] [] := by
  unfold m_X7_flash_b40 at h
  refine s_iload_n (pc := 40) d_X7_flash_40 rfl rfl ?_
  refine s_iconst (pc := 41) (v := 1) d_X7_flash_41 (by decide) ?_
  refine s_iadd (pc := 42) d_X7_flash_42 ?_
  refine s_iconst (pc := 43) (v := 4) d_X7_flash_43 (by decide) ?_
  refine s_aload_n (pc := 44) d_X7_flash_44 rfl rfl ?_
  obtain ⟨g14, h⟩ := gd_1 h
  refine s_getR (pc := 45) (k := 16) cl_7 d_X7_flash_45 g14 (by decide) w_676 (rt_arr _) ?_
  obtain ⟨a15, ea15, h⟩ := bd_1 h
  refine s_topR ea15 ?_
  refine s_iload_n (pc := 48) d_X7_flash_48 rfl rfl ?_
  obtain ⟨g16, h⟩ := gd_1 h
  refine s_iald (pc := 49) d_X7_flash_49 g16 ?_
  obtain ⟨w17, ew17, h⟩ := bd_1 h
  refine s_topI ew17 ?_
  refine s_imul (pc := 50) d_X7_flash_50 ?_
  refine s_iadd (pc := 51) d_X7_flash_51 ?_
  obtain ⟨w18, ew18, h⟩ := bd_1 h
  refine s_topI ew18 ?_
  refine s_istore_n (pc := 52) (lc' := [some (vr v0), some (vi v1), some (vi v2), some (vi w18), none, none]) d_X7_flash_52 rfl (by decide) rfl ?_
  refine s_aload_n (pc := 53) d_X7_flash_53 rfl rfl ?_
  refine s_getR (pc := 54) (k := 16) cl_7 d_X7_flash_54 g14 (by decide) w_676 (rt_arr _) ?_
  obtain ⟨a19, ea19, h⟩ := bd_1 h
  refine s_topR ea19 ?_
  refine s_iload_n (pc := 57) d_X7_flash_57 rfl rfl ?_
  refine s_aload_n (pc := 58) d_X7_flash_58 rfl rfl ?_
  refine s_getR (pc := 59) (k := 16) cl_7 d_X7_flash_59 g14 (by decide) w_676 (rt_arr _) ?_
  obtain ⟨a20, ea20, h⟩ := bd_1 h
  refine s_topR ea20 ?_
  refine s_sipush (pc := 62) (v := 203) d_X7_flash_62 (by decide) ?_
  obtain ⟨g21, h⟩ := gd_1 h
  refine s_iald (pc := 65) d_X7_flash_65 g21 ?_
  obtain ⟨w22, ew22, h⟩ := bd_1 h
  refine s_topI ew22 ?_
  obtain ⟨g23, h⟩ := gd_1 h
  refine s_iast (pc := 66) d_X7_flash_66 g23 ?_
  obtain ⟨μ24, eμ24, h⟩ := bd_1 h
  refine s_mu eμ24 ?_
  refine s_aload_n (pc := 67) d_X7_flash_67 rfl rfl ?_
  refine s_getR (pc := 68) (k := 16) cl_7 d_X7_flash_68 g14 (by decide) w_676 (rt_arr _) ?_
  obtain ⟨a25, ea25, h⟩ := bd_1 h
  refine s_topR ea25 ?_
  refine s_iload_n (pc := 71) d_X7_flash_71 rfl rfl ?_
  refine s_iconst (pc := 72) (v := 1) d_X7_flash_72 (by decide) ?_
  refine s_iadd (pc := 73) d_X7_flash_73 ?_
  refine s_aload_n (pc := 74) d_X7_flash_74 rfl rfl ?_
  refine s_iload_n (pc := 75) d_X7_flash_75 rfl rfl ?_
  obtain ⟨r26, μ27, er26, h⟩ := ca2_1 h
  refine s_callV (pc := 76) (as := [vi v1]) (st := [vi (w18 + 1), vr a25]) (vo := [vi r26]) (t_X7_inOf er26) cl_7 g14 d_X7_flash_76 y_X7_inOf w_805 w_807 w_s18 ⟨by decide, by decide⟩ ⟨Nat.le_of_ble_eq_true rfl, Nat.le_of_ble_eq_true rfl⟩ (Nat.le_of_ble_eq_true rfl) rfl rfl rfl ?_
  refine s_as (kc' := 0) (js' := 0) (pc' := 79) (st' := [vi r26, vi (w18 + 1), vr a25]) ⟨rfl, rfl, rfl, rfl⟩ ?_
  obtain ⟨g28, h⟩ := gd_1 h
  refine s_iast (pc := 79) d_X7_flash_79 g28 ?_
  obtain ⟨μ29, eμ29, h⟩ := bd_1 h
  refine s_mu eμ29 ?_
  refine s_aload_n (pc := 80) d_X7_flash_80 rfl rfl ?_
  refine s_getR (pc := 81) (k := 16) cl_7 d_X7_flash_81 g14 (by decide) w_676 (rt_arr _) ?_
  obtain ⟨a30, ea30, h⟩ := bd_1 h
  refine s_topR ea30 ?_
  refine s_iload_n (pc := 84) d_X7_flash_84 rfl rfl ?_
  refine s_iconst (pc := 85) (v := 2) d_X7_flash_85 (by decide) ?_
  refine s_iadd (pc := 86) d_X7_flash_86 ?_
  refine s_aload_n (pc := 87) d_X7_flash_87 rfl rfl ?_
  refine s_getR (pc := 88) (k := 16) cl_7 d_X7_flash_88 g14 (by decide) w_676 (rt_arr _) ?_
  obtain ⟨a31, ea31, h⟩ := bd_1 h
  refine s_topR ea31 ?_
  refine s_bipush (pc := 91) (v := 15) d_X7_flash_91 (by decide) ?_
  obtain ⟨g32, h⟩ := gd_1 h
  refine s_iald (pc := 93) d_X7_flash_93 g32 ?_
  obtain ⟨w33, ew33, h⟩ := bd_1 h
  refine s_topI ew33 ?_
  refine s_bipush (pc := 94) (v := (-9)) d_X7_flash_94 (by decide) ?_
  refine s_icmp_eq (pc := 96) (tgt := 125) d_X7_flash_96 (by decide) (fun c34 => ?_) (fun c34 => ?_)
  · have h := it_t c34 h
    exact t_X7_flash_b125 h
  · have h := it_f c34 h
    refine s_aload_n (pc := 99) d_X7_flash_99 rfl rfl ?_
    refine s_getR (pc := 100) (k := 16) cl_7 d_X7_flash_100 g14 (by decide) w_676 (rt_arr _) ?_
    obtain ⟨a35, ea35, h⟩ := bd_1 h
    refine s_topR ea35 ?_
    refine s_aload_n (pc := 103) d_X7_flash_103 rfl rfl ?_
    refine s_getR (pc := 104) (k := 16) cl_7 d_X7_flash_104 g14 (by decide) w_676 (rt_arr _) ?_
    obtain ⟨a36, ea36, h⟩ := bd_1 h
    refine s_topR ea36 ?_
    refine s_bipush (pc := 107) (v := 15) d_X7_flash_107 (by decide) ?_
    obtain ⟨g37, h⟩ := gd_1 h
    refine s_iald (pc := 109) d_X7_flash_109 g37 ?_
    obtain ⟨w38, ew38, h⟩ := bd_1 h
    refine s_topI ew38 ?_
    obtain ⟨g39, h⟩ := gd_1 h
    refine s_iald (pc := 110) d_X7_flash_110 g39 ?_
    obtain ⟨w40, ew40, h⟩ := bd_1 h
    refine s_topI ew40 ?_
    refine s_iload_n (pc := 111) d_X7_flash_111 rfl rfl ?_
    refine s_icmp_ne (pc := 112) (tgt := 125) d_X7_flash_112 (by decide) (fun c41 => ?_) (fun c41 => ?_)
    · have h := it_f c41 h
      exact t_X7_flash_b125 h
    · have h := it_t c41 h
      refine s_aload_n (pc := 115) d_X7_flash_115 rfl rfl ?_
      refine s_getR (pc := 116) (k := 16) cl_7 d_X7_flash_116 g14 (by decide) w_676 (rt_arr _) ?_
      obtain ⟨a42, ea42, h⟩ := bd_1 h
      refine s_topR ea42 ?_
      refine s_bipush (pc := 119) (v := 15) d_X7_flash_119 (by decide) ?_
      obtain ⟨g43, h⟩ := gd_1 h
      refine s_iald (pc := 121) d_X7_flash_121 g43 ?_
      obtain ⟨w44, ew44, h⟩ := bd_1 h
      refine s_topI ew44 ?_
      refine s_goto (pc := 122) (tgt := 127) d_X7_flash_122 (by decide) ?_
      exact t_X7_flash_b127 h
set_option maxHeartbeats 4000000 in
set_option maxRecDepth 20000 in
theorem t_X7_flash {l : Launch} {G : Gl} {n : Nat} {sh : Sh} {x : Int32 × Mu} {v0 : Nat} {v1 : Int32} {μ : Mu} (h : m_X7_flash sh v0 v1 μ = some x) : Ct l G ⟨"StripsOfFourModel", "flash", "(I)Z"⟩ prog_9_method_32_code 6 (some .boolean) { frames := 1, cells := 0, slots := 0, locals := 23 } n sh μ [vr v0, vi v1] (some (.int x.1)) n sh x.2 := by
  refine Ct.of (lc := [some (vr v0), some (vi v1), none, none, none, none]) (by decide +kernel) (Nat.le_of_ble_eq_true rfl) rfl ?_
  show Sj l G (QI G n sh x) c_X7_flash n sh 0 0 μ 0 [some (vr v0), some (vi v1), none, none, none, none] []
  unfold m_X7_flash at h
  refine s_bipush (pc := 0) (v := 16) d_X7_flash_0 (by decide) ?_
  refine s_bipush (pc := 2) (v := 17) d_X7_flash_2 (by decide) ?_
  refine s_iload_n (pc := 4) d_X7_flash_4 rfl rfl ?_
  refine s_imul (pc := 5) d_X7_flash_5 ?_
  refine s_iadd (pc := 6) d_X7_flash_6 ?_
  obtain ⟨w1, ew1, h⟩ := bd_1 h
  refine s_topI ew1 ?_
  refine s_istore_n (pc := 7) (lc' := [some (vr v0), some (vi v1), some (vi w1), none, none, none]) d_X7_flash_7 rfl (by decide) rfl ?_
  refine s_aload_n (pc := 8) d_X7_flash_8 rfl rfl ?_
  obtain ⟨g2, h⟩ := gd_1 h
  refine s_getR (pc := 9) (k := 16) cl_7 d_X7_flash_9 g2 (by decide) w_676 (rt_arr _) ?_
  obtain ⟨a3, ea3, h⟩ := bd_1 h
  refine s_topR ea3 ?_
  refine s_sipush (pc := 12) (v := 202) d_X7_flash_12 (by decide) ?_
  obtain ⟨g4, h⟩ := gd_1 h
  refine s_iald (pc := 15) d_X7_flash_15 g4 ?_
  obtain ⟨w5, ew5, h⟩ := bd_1 h
  refine s_topI ew5 ?_
  refine s_bipush (pc := 16) (v := 8) d_X7_flash_16 (by decide) ?_
  refine s_icmp_eq (pc := 18) (tgt := 38) d_X7_flash_18 (by decide) (fun c6 => ?_) (fun c6 => ?_)
  · have h := it_t c6 h
    refine s_iconst (pc := 38) (v := 0) d_X7_flash_38 (by decide) ?_
    obtain rfl := Option.some.inj h
    exact s_zret0 (pc := 39) rfl d_X7_flash_39 rfl
  · have h := it_f c6 h
    refine s_aload_n (pc := 21) d_X7_flash_21 rfl rfl ?_
    refine s_iload_n (pc := 22) d_X7_flash_22 rfl rfl ?_
    obtain ⟨r7, μ8, er7, h⟩ := ca2_1 h
    refine s_callV (pc := 23) (as := [vi v1]) (st := []) (vo := [vi r7]) (t_X7_inOf er7) cl_7 g2 d_X7_flash_23 y_X7_inOf w_805 w_807 w_s18 ⟨by decide, by decide⟩ ⟨Nat.le_of_ble_eq_true rfl, Nat.le_of_ble_eq_true rfl⟩ (Nat.le_of_ble_eq_true rfl) rfl rfl rfl ?_
    refine s_as (kc' := 0) (js' := 0) (pc' := 26) (st' := [vi r7]) ⟨rfl, rfl, rfl, rfl⟩ ?_
    refine s_if_ne (pc := 26) (tgt := 40) d_X7_flash_26 (by decide) (fun c9 => ?_) (fun c9 => ?_)
    · have h := it_f c9 h
      exact t_X7_flash_b40 h
    · have h := it_t c9 h
      refine s_aload_n (pc := 29) d_X7_flash_29 rfl rfl ?_
      refine s_getR (pc := 30) (k := 16) cl_7 d_X7_flash_30 g2 (by decide) w_676 (rt_arr _) ?_
      obtain ⟨a10, ea10, h⟩ := bd_1 h
      refine s_topR ea10 ?_
      refine s_iload_n (pc := 33) d_X7_flash_33 rfl rfl ?_
      obtain ⟨g11, h⟩ := gd_1 h
      refine s_iald (pc := 34) d_X7_flash_34 g11 ?_
      obtain ⟨w12, ew12, h⟩ := bd_1 h
      refine s_topI ew12 ?_
      refine s_if_ne (pc := 35) (tgt := 40) d_X7_flash_35 (by decide) (fun c13 => ?_) (fun c13 => ?_)
      · have h := it_f c13 h
        exact t_X7_flash_b40 h
      · have h := it_t c13 h
        refine s_iconst (pc := 38) (v := 0) d_X7_flash_38 (by decide) ?_
        obtain rfl := Option.some.inj h
        exact s_zret0 (pc := 39) rfl d_X7_flash_39 rfl
/-! StripsOfFourModel.minute -/
abbrev c_X7_minute : Cf := (prog_9_method_33_code, 3, "StripsOfFourModel", "minute", (some .int), { frames := 2, cells := 0, slots := 0, locals := 48 })
theorem d_X7_minute_0 : decode prog_9_method_33_code 0 = .ok (.aload_n 0, 1) := by decide +kernel
theorem d_X7_minute_1 : decode prog_9_method_33_code 1 = .ok (.iconst 0, 1) := by decide +kernel
theorem d_X7_minute_2 : decode prog_9_method_33_code 2 = .ok (.putfield 66, 3) := by decide +kernel
theorem d_X7_minute_5 : decode prog_9_method_33_code 5 = .ok (.aload_n 0, 1) := by decide +kernel
theorem d_X7_minute_6 : decode prog_9_method_33_code 6 = .ok (.invokevirtual 154, 3) := by decide +kernel
theorem d_X7_minute_9 : decode prog_9_method_33_code 9 = .ok (.iconst 0, 1) := by decide +kernel
theorem d_X7_minute_10 : decode prog_9_method_33_code 10 = .ok (.istore_n 1, 1) := by decide +kernel
theorem d_X7_minute_11 : decode prog_9_method_33_code 11 = .ok (.iconst 0, 1) := by decide +kernel
theorem d_X7_minute_12 : decode prog_9_method_33_code 12 = .ok (.istore_n 2, 1) := by decide +kernel
theorem d_X7_minute_13 : decode prog_9_method_33_code 13 = .ok (.iload_n 2, 1) := by decide +kernel
theorem d_X7_minute_14 : decode prog_9_method_33_code 14 = .ok (.aload_n 0, 1) := by decide +kernel
theorem d_X7_minute_15 : decode prog_9_method_33_code 15 = .ok (.getfield 70, 3) := by decide +kernel
theorem d_X7_minute_18 : decode prog_9_method_33_code 18 = .ok (.if_icmp .ge 41, 3) := by decide +kernel
theorem d_X7_minute_21 : decode prog_9_method_33_code 21 = .ok (.aload_n 0, 1) := by decide +kernel
theorem d_X7_minute_22 : decode prog_9_method_33_code 22 = .ok (.iload_n 2, 1) := by decide +kernel
theorem d_X7_minute_23 : decode prog_9_method_33_code 23 = .ok (.aload_n 0, 1) := by decide +kernel
theorem d_X7_minute_24 : decode prog_9_method_33_code 24 = .ok (.getfield 31, 3) := by decide +kernel
theorem d_X7_minute_27 : decode prog_9_method_33_code 27 = .ok (.sipush 203, 3) := by decide +kernel
theorem d_X7_minute_30 : decode prog_9_method_33_code 30 = .ok (.iaload, 1) := by decide +kernel
theorem d_X7_minute_31 : decode prog_9_method_33_code 31 = .ok (.invokevirtual 125, 3) := by decide +kernel
theorem d_X7_minute_34 : decode prog_9_method_33_code 34 = .ok (.ifCond .eq 19, 3) := by decide +kernel
theorem d_X7_minute_37 : decode prog_9_method_33_code 37 = .ok (.iload_n 1, 1) := by decide +kernel
theorem d_X7_minute_38 : decode prog_9_method_33_code 38 = .ok (.aload_n 0, 1) := by decide +kernel
theorem d_X7_minute_39 : decode prog_9_method_33_code 39 = .ok (.iload_n 2, 1) := by decide +kernel
theorem d_X7_minute_40 : decode prog_9_method_33_code 40 = .ok (.invokevirtual 163, 3) := by decide +kernel
theorem d_X7_minute_43 : decode prog_9_method_33_code 43 = .ok (.ifCond .eq 7, 3) := by decide +kernel
theorem d_X7_minute_46 : decode prog_9_method_33_code 46 = .ok (.iconst 1, 1) := by decide +kernel
theorem d_X7_minute_47 : decode prog_9_method_33_code 47 = .ok (.goto 4, 3) := by decide +kernel
theorem d_X7_minute_50 : decode prog_9_method_33_code 50 = .ok (.iconst 0, 1) := by decide +kernel
theorem d_X7_minute_51 : decode prog_9_method_33_code 51 = .ok (.iadd, 1) := by decide +kernel
theorem d_X7_minute_52 : decode prog_9_method_33_code 52 = .ok (.istore_n 1, 1) := by decide +kernel
theorem d_X7_minute_53 : decode prog_9_method_33_code 53 = .ok (.iinc 2 1, 3) := by decide +kernel
theorem d_X7_minute_56 : decode prog_9_method_33_code 56 = .ok (.goto (-43), 3) := by decide +kernel
theorem d_X7_minute_59 : decode prog_9_method_33_code 59 = .ok (.aload_n 0, 1) := by decide +kernel
theorem d_X7_minute_60 : decode prog_9_method_33_code 60 = .ok (.getfield 31, 3) := by decide +kernel
theorem d_X7_minute_63 : decode prog_9_method_33_code 63 = .ok (.sipush 203, 3) := by decide +kernel
theorem d_X7_minute_66 : decode prog_9_method_33_code 66 = .ok (.dup2, 1) := by decide +kernel
theorem d_X7_minute_67 : decode prog_9_method_33_code 67 = .ok (.iaload, 1) := by decide +kernel
theorem d_X7_minute_68 : decode prog_9_method_33_code 68 = .ok (.iconst 1, 1) := by decide +kernel
theorem d_X7_minute_69 : decode prog_9_method_33_code 69 = .ok (.iadd, 1) := by decide +kernel
theorem d_X7_minute_70 : decode prog_9_method_33_code 70 = .ok (.iastore, 1) := by decide +kernel
theorem d_X7_minute_71 : decode prog_9_method_33_code 71 = .ok (.iload_n 1, 1) := by decide +kernel
theorem d_X7_minute_72 : decode prog_9_method_33_code 72 = .ok (.ireturn, 1) := by decide +kernel
def m_X7_minute_b53 (sh : Sh) (k13 : Int32 → Int32 → Mu → Option (Int32 × Mu)) (v0 : Nat) (v1 : Int32) (v2 : Int32) (μ : Mu) : Option (Int32 × Mu) :=
  bd (v2 + 1) fun w20 =>
  k13 v1 w20 μ
def m_X7_minute_b51 (sh : Sh) (k13 : Int32 → Int32 → Mu → Option (Int32 × Mu)) (v0 : Nat) (v2 : Int32) (s0 : Int32) (s1 : Int32) (μ : Mu) : Option (Int32 × Mu) :=
  bd (s1 + s0) fun w21 =>
  m_X7_minute_b53 sh k13 v0 w21 v2 μ
def m_X7_minute_b59 (sh : Sh) (v0 : Nat) (v1 : Int32) (μ : Mu) : Option (Int32 × Mu) :=
  gd (iz sh 7 v0) <|
  bd (gR μ v0 16) fun a16 =>
  gd (ix sh 8 a16 203) <|
  bd (gI μ a16 (203 : Int32).toNatClampNeg) fun w18 =>
  bd (sI μ a16 (203 : Int32).toNatClampNeg (w18 + 1)) fun μ19 =>
  some (v1, μ19)
def m_X7_minute_b13 (sh : Sh) (k13 : Int32 → Int32 → Mu → Option (Int32 × Mu)) (v0 : Nat) (v1 : Int32) (v2 : Int32) (μ : Mu) : Option (Int32 × Mu) :=
  gd (iz sh 7 v0) <|
  if (gI μ v0 5) ≤ v2 then
    m_X7_minute_b59 sh v0 v1 μ
  else
    bd (gR μ v0 16) fun a6 =>
    gd (ix sh 8 a6 203) <|
    bd (gI μ a6 (203 : Int32).toNatClampNeg) fun w8 =>
    ca2 (m_X7_isFlash sh v0 v2 w8 μ) fun r9 μ10 =>
    if r9 = 0 then
      m_X7_minute_b53 sh k13 v0 v1 v2 μ10
    else
      ca2 (m_X7_flash sh v0 v2 μ10) fun r12 μ13 =>
      if r12 = 0 then
        m_X7_minute_b51 sh k13 v0 v2 0 v1 μ13
      else
        m_X7_minute_b51 sh k13 v0 v2 1 v1 μ13
def m_X7_minute_h13 (sh : Sh) (v0 : Nat) : Nat → Int32 → Int32 → Mu → Option (Int32 × Mu)
  | 0 => fun _ _ _ => none
  | f + 1 => fun v1 v2 μ => m_X7_minute_b13 sh (m_X7_minute_h13 sh v0 f) v0 v1 v2 μ
def m_X7_minute (sh : Sh) (v0 : Nat) (μ : Mu) : Option (Int32 × Mu) :=
  gd (iz sh 7 v0) <|
  bd (sI μ v0 0 0) fun μ2 =>
  ca (m_X7_note sh v0 μ2) fun μ3 =>
  m_X7_minute_h13 sh v0 FU 0 0 μ3
set_option maxHeartbeats 4000000 in
set_option maxRecDepth 20000 in
theorem t_X7_minute_b53 {l : Launch} {G : Gl} {n : Nat} {sh : Sh} {x : Int32 × Mu} {k13 : Int32 → Int32 → Mu → Option (Int32 × Mu)} {v0 : Nat} {v1 : Int32} {v2 : Int32} {μ : Mu} (hk13 : ∀ (v1 : Int32) (v2 : Int32) (μ : Mu), k13 v1 v2 μ = some x → Sj l G (QI G n sh x) c_X7_minute n sh 0 0 μ 13 [some (vr v0), some (vi v1), some (vi v2)] []) (h : m_X7_minute_b53 sh k13 v0 v1 v2 μ = some x) : Sj l G (QI G n sh x) c_X7_minute n sh 0 0 μ 53 [some (vr v0), some (vi v1), some (vi v2)] [] := by
  unfold m_X7_minute_b53 at h
  obtain ⟨w20, ew20, h⟩ := bd_1 h
  refine s_iinc (pc := 53) (v := w20) (lc' := [some (vr v0), some (vi v1), some (vi w20)]) d_X7_minute_53 rfl (by rw [ew20]; rfl) (by decide) rfl ?_
  refine s_goto (pc := 56) (tgt := 13) d_X7_minute_56 (by decide) ?_
  exact hk13 _ _ _ h
set_option maxHeartbeats 4000000 in
set_option maxRecDepth 20000 in
theorem t_X7_minute_b51 {l : Launch} {G : Gl} {n : Nat} {sh : Sh} {x : Int32 × Mu} {k13 : Int32 → Int32 → Mu → Option (Int32 × Mu)} {v0 : Nat} {v2 : Int32} {s0 : Int32} {s1 : Int32} {μ : Mu} (hk13 : ∀ (v1 : Int32) (v2 : Int32) (μ : Mu), k13 v1 v2 μ = some x → Sj l G (QI G n sh x) c_X7_minute n sh 0 0 μ 13 [some (vr v0), some (vi v1), some (vi v2)] []) (h : m_X7_minute_b51 sh k13 v0 v2 s0 s1 μ = some x) : Sj l G (QI G n sh x) c_X7_minute n sh 0 0 μ 51 [some (vr v0), none, some (vi v2)] [vi s0, vi s1] := by
  unfold m_X7_minute_b51 at h
  refine s_iadd (pc := 51) d_X7_minute_51 ?_
  obtain ⟨w21, ew21, h⟩ := bd_1 h
  refine s_topI ew21 ?_
  refine s_istore_n (pc := 52) (lc' := [some (vr v0), some (vi w21), some (vi v2)]) d_X7_minute_52 rfl (by decide) rfl ?_
  exact t_X7_minute_b53 hk13 h
set_option maxHeartbeats 4000000 in
set_option maxRecDepth 20000 in
theorem t_X7_minute_b59 {l : Launch} {G : Gl} {n : Nat} {sh : Sh} {x : Int32 × Mu} {v0 : Nat} {v1 : Int32} {μ : Mu} (h : m_X7_minute_b59 sh v0 v1 μ = some x) : Sj l G (QI G n sh x) c_X7_minute n sh 0 0 μ 59 [some (vr v0), some (vi v1), none] [] := by
  unfold m_X7_minute_b59 at h
  refine s_aload_n (pc := 59) d_X7_minute_59 rfl rfl ?_
  obtain ⟨g15, h⟩ := gd_1 h
  refine s_getR (pc := 60) (k := 16) cl_7 d_X7_minute_60 g15 (by decide) w_676 (rt_arr _) ?_
  obtain ⟨a16, ea16, h⟩ := bd_1 h
  refine s_topR ea16 ?_
  refine s_sipush (pc := 63) (v := 203) d_X7_minute_63 (by decide) ?_
  refine s_dup2 (pc := 66) d_X7_minute_66 rfl rfl ?_
  obtain ⟨g17, h⟩ := gd_1 h
  refine s_iald (pc := 67) d_X7_minute_67 g17 ?_
  obtain ⟨w18, ew18, h⟩ := bd_1 h
  refine s_topI ew18 ?_
  refine s_iconst (pc := 68) (v := 1) d_X7_minute_68 (by decide) ?_
  refine s_iadd (pc := 69) d_X7_minute_69 ?_
  refine s_iast (pc := 70) d_X7_minute_70 g17 ?_
  obtain ⟨μ19, eμ19, h⟩ := bd_1 h
  refine s_mu eμ19 ?_
  refine s_iload_n (pc := 71) d_X7_minute_71 rfl rfl ?_
  obtain rfl := Option.some.inj h
  exact s_iret (pc := 72) d_X7_minute_72 rfl
set_option maxHeartbeats 4000000 in
set_option maxRecDepth 20000 in
theorem t_X7_minute_b13 {l : Launch} {G : Gl} {n : Nat} {sh : Sh} {x : Int32 × Mu} {k13 : Int32 → Int32 → Mu → Option (Int32 × Mu)} {v0 : Nat} {v1 : Int32} {v2 : Int32} {μ : Mu} (hk13 : ∀ (v1 : Int32) (v2 : Int32) (μ : Mu), k13 v1 v2 μ = some x → Sj l G (QI G n sh x) c_X7_minute n sh 0 0 μ 13 [some (vr v0), some (vi v1), some (vi v2)] []) (h : m_X7_minute_b13 sh k13 v0 v1 v2 μ = some x) : Sj l G (QI G n sh x) c_X7_minute n sh 0 0 μ 13 [some (vr v0), some (vi v1), some (vi v2)] [] := by
  unfold m_X7_minute_b13 at h
  refine s_iload_n (pc := 13) d_X7_minute_13 rfl rfl ?_
  refine s_aload_n (pc := 14) d_X7_minute_14 rfl rfl ?_
  obtain ⟨g4, h⟩ := gd_1 h
  refine s_getI (pc := 15) (k := 5) cl_7 d_X7_minute_15 g4 (by decide) w_665 rfl ?_
  refine s_icmp_ge (pc := 18) (tgt := 59) d_X7_minute_18 (by decide) (fun c5 => ?_) (fun c5 => ?_)
  · have h := it_t c5 h
    refine s_mask [true, true, false] rfl ?_
    exact t_X7_minute_b59 h
  · have h := it_f c5 h
    refine s_aload_n (pc := 21) d_X7_minute_21 rfl rfl ?_
    refine s_iload_n (pc := 22) d_X7_minute_22 rfl rfl ?_
    refine s_aload_n (pc := 23) d_X7_minute_23 rfl rfl ?_
    refine s_getR (pc := 24) (k := 16) cl_7 d_X7_minute_24 g4 (by decide) w_676 (rt_arr _) ?_
    obtain ⟨a6, ea6, h⟩ := bd_1 h
    refine s_topR ea6 ?_
    refine s_sipush (pc := 27) (v := 203) d_X7_minute_27 (by decide) ?_
    obtain ⟨g7, h⟩ := gd_1 h
    refine s_iald (pc := 30) d_X7_minute_30 g7 ?_
    obtain ⟨w8, ew8, h⟩ := bd_1 h
    refine s_topI ew8 ?_
    obtain ⟨r9, μ10, er9, h⟩ := ca2_1 h
    refine s_callV (pc := 31) (as := [vi v2, vi w8]) (st := []) (vo := [vi r9]) (t_X7_isFlash er9) cl_7 g4 d_X7_minute_31 y_X7_isFlash w_801 w_803 w_s17 ⟨by decide, by decide⟩ ⟨Nat.le_of_ble_eq_true rfl, Nat.le_of_ble_eq_true rfl⟩ (Nat.le_of_ble_eq_true rfl) rfl rfl rfl ?_
    refine s_as (kc' := 0) (js' := 0) (pc' := 34) (st' := [vi r9]) ⟨rfl, rfl, rfl, rfl⟩ ?_
    refine s_if_eq (pc := 34) (tgt := 53) d_X7_minute_34 (by decide) (fun c11 => ?_) (fun c11 => ?_)
    · have h := it_t c11 h
      exact t_X7_minute_b53 hk13 h
    · have h := it_f c11 h
      refine s_iload_n (pc := 37) d_X7_minute_37 rfl rfl ?_
      refine s_aload_n (pc := 38) d_X7_minute_38 rfl rfl ?_
      refine s_iload_n (pc := 39) d_X7_minute_39 rfl rfl ?_
      obtain ⟨r12, μ13, er12, h⟩ := ca2_1 h
      refine s_callV (pc := 40) (as := [vi v2]) (st := [vi v1]) (vo := [vi r12]) (t_X7_flash er12) cl_7 g4 d_X7_minute_40 y_X7_flash w_862 w_864 w_s23 ⟨by decide, by decide⟩ ⟨Nat.le_of_ble_eq_true rfl, Nat.le_of_ble_eq_true rfl⟩ (Nat.le_of_ble_eq_true rfl) rfl rfl rfl ?_
      refine s_as (kc' := 0) (js' := 0) (pc' := 43) (st' := [vi r12, vi v1]) ⟨rfl, rfl, rfl, rfl⟩ ?_
      refine s_if_eq (pc := 43) (tgt := 50) d_X7_minute_43 (by decide) (fun c14 => ?_) (fun c14 => ?_)
      · have h := it_t c14 h
        refine s_iconst (pc := 50) (v := 0) d_X7_minute_50 (by decide) ?_
        refine s_mask [true, false, true] rfl ?_
        exact t_X7_minute_b51 hk13 h
      · have h := it_f c14 h
        refine s_iconst (pc := 46) (v := 1) d_X7_minute_46 (by decide) ?_
        refine s_goto (pc := 47) (tgt := 51) d_X7_minute_47 (by decide) ?_
        refine s_mask [true, false, true] rfl ?_
        exact t_X7_minute_b51 hk13 h
set_option maxHeartbeats 4000000 in
set_option maxRecDepth 20000 in
theorem t_X7_minute_h13 {l : Launch} {G : Gl} {n : Nat} {sh : Sh} {x : Int32 × Mu} {v0 : Nat} : ∀ (f : Nat) (v1 : Int32) (v2 : Int32) (μ : Mu), m_X7_minute_h13 sh v0 f v1 v2 μ = some x → Sj l G (QI G n sh x) c_X7_minute n sh 0 0 μ 13 [some (vr v0), some (vi v1), some (vi v2)] [] := by
  intro f
  induction f with
  | zero =>
    intro v1 v2 μ h
    cases h
  | succ f ih =>
    intro v1 v2 μ h
    exact t_X7_minute_b13 ih h
set_option maxHeartbeats 4000000 in
set_option maxRecDepth 20000 in
theorem t_X7_minute {l : Launch} {G : Gl} {n : Nat} {sh : Sh} {x : Int32 × Mu} {v0 : Nat} {μ : Mu} (h : m_X7_minute sh v0 μ = some x) : Ct l G ⟨"StripsOfFourModel", "minute", "()I"⟩ prog_9_method_33_code 3 (some .int) { frames := 2, cells := 0, slots := 0, locals := 48 } n sh μ [vr v0] (some (.int x.1)) n sh x.2 := by
  refine Ct.of (lc := [some (vr v0), none, none]) (by decide +kernel) (Nat.le_of_ble_eq_true rfl) rfl ?_
  show Sj l G (QI G n sh x) c_X7_minute n sh 0 0 μ 0 [some (vr v0), none, none] []
  unfold m_X7_minute at h
  refine s_aload_n (pc := 0) d_X7_minute_0 rfl rfl ?_
  refine s_iconst (pc := 1) (v := 0) d_X7_minute_1 (by decide) ?_
  obtain ⟨g1, h⟩ := gd_1 h
  refine s_putI (pc := 2) (k := 0) cl_7 d_X7_minute_2 g1 (by decide) w_660 rfl rfl ?_
  obtain ⟨μ2, eμ2, h⟩ := bd_1 h
  refine s_mu eμ2 ?_
  refine s_aload_n (pc := 5) d_X7_minute_5 rfl rfl ?_
  obtain ⟨μ3, eμ3, h⟩ := ca_1 h
  refine s_callV (pc := 6) (as := []) (st := []) (vo := []) (t_X7_note eμ3) cl_7 g1 d_X7_minute_6 y_X7_note w_846 w_848 w_s22 ⟨by decide, by decide⟩ ⟨Nat.le_of_ble_eq_true rfl, Nat.le_of_ble_eq_true rfl⟩ (Nat.le_of_ble_eq_true rfl) rfl rfl rfl ?_
  refine s_as (kc' := 0) (js' := 0) (pc' := 9) (st' := []) ⟨rfl, rfl, rfl, rfl⟩ ?_
  refine s_iconst (pc := 9) (v := 0) d_X7_minute_9 (by decide) ?_
  refine s_istore_n (pc := 10) (lc' := [some (vr v0), some (vi 0), none]) d_X7_minute_10 rfl (by decide) rfl ?_
  refine s_iconst (pc := 11) (v := 0) d_X7_minute_11 (by decide) ?_
  refine s_istore_n (pc := 12) (lc' := [some (vr v0), some (vi 0), some (vi 0)]) d_X7_minute_12 rfl (by decide) rfl ?_
  exact t_X7_minute_h13 FU _ _ _ h
/-! StripsOfFourModel.most -/
abbrev c_X7_most : Cf := (prog_9_method_53_code, 5, "StripsOfFourModel", "most", (some .int), { frames := 2, cells := 0, slots := 0, locals := 46 })
theorem d_X7_most_0 : decode prog_9_method_53_code 0 = .ok (.aload_n 0, 1) := by decide +kernel
theorem d_X7_most_1 : decode prog_9_method_53_code 1 = .ok (.iconst 0, 1) := by decide +kernel
theorem d_X7_most_2 : decode prog_9_method_53_code 2 = .ok (.putfield 66, 3) := by decide +kernel
theorem d_X7_most_5 : decode prog_9_method_53_code 5 = .ok (.aload_n 0, 1) := by decide +kernel
theorem d_X7_most_6 : decode prog_9_method_53_code 6 = .ok (.iload_n 1, 1) := by decide +kernel
theorem d_X7_most_7 : decode prog_9_method_53_code 7 = .ok (.invokevirtual 121, 3) := by decide +kernel
theorem d_X7_most_10 : decode prog_9_method_53_code 10 = .ok (.ifCond .eq 5, 3) := by decide +kernel
theorem d_X7_most_13 : decode prog_9_method_53_code 13 = .ok (.iconst (-1), 1) := by decide +kernel
theorem d_X7_most_14 : decode prog_9_method_53_code 14 = .ok (.ireturn, 1) := by decide +kernel
theorem d_X7_most_15 : decode prog_9_method_53_code 15 = .ok (.iload_n 2, 1) := by decide +kernel
theorem d_X7_most_16 : decode prog_9_method_53_code 16 = .ok (.i2l, 1) := by decide +kernel
theorem d_X7_most_17 : decode prog_9_method_53_code 17 = .ok (.lconst 0, 1) := by decide +kernel
theorem d_X7_most_18 : decode prog_9_method_53_code 18 = .ok (.ldc2_w 193, 3) := by decide +kernel
theorem d_X7_most_21 : decode prog_9_method_53_code 21 = .ok (.invokestatic 73, 3) := by decide +kernel
theorem d_X7_most_24 : decode prog_9_method_53_code 24 = .ok (.ifCond .ne 6, 3) := by decide +kernel
theorem d_X7_most_27 : decode prog_9_method_53_code 27 = .ok (.bipush (-2), 2) := by decide +kernel
theorem d_X7_most_29 : decode prog_9_method_53_code 29 = .ok (.ireturn, 1) := by decide +kernel
theorem d_X7_most_30 : decode prog_9_method_53_code 30 = .ok (.aload_n 0, 1) := by decide +kernel
theorem d_X7_most_31 : decode prog_9_method_53_code 31 = .ok (.getfield 31, 3) := by decide +kernel
theorem d_X7_most_34 : decode prog_9_method_53_code 34 = .ok (.bipush 16, 2) := by decide +kernel
theorem d_X7_most_36 : decode prog_9_method_53_code 36 = .ok (.bipush 17, 2) := by decide +kernel
theorem d_X7_most_38 : decode prog_9_method_53_code 38 = .ok (.iload_n 1, 1) := by decide +kernel
theorem d_X7_most_39 : decode prog_9_method_53_code 39 = .ok (.imul, 1) := by decide +kernel
theorem d_X7_most_40 : decode prog_9_method_53_code 40 = .ok (.iadd, 1) := by decide +kernel
theorem d_X7_most_41 : decode prog_9_method_53_code 41 = .ok (.iaload, 1) := by decide +kernel
theorem d_X7_most_42 : decode prog_9_method_53_code 42 = .ok (.istore_n 3, 1) := by decide +kernel
theorem d_X7_most_43 : decode prog_9_method_53_code 43 = .ok (.aload_n 0, 1) := by decide +kernel
theorem d_X7_most_44 : decode prog_9_method_53_code 44 = .ok (.getfield 31, 3) := by decide +kernel
theorem d_X7_most_47 : decode prog_9_method_53_code 47 = .ok (.sipush 203, 3) := by decide +kernel
theorem d_X7_most_50 : decode prog_9_method_53_code 50 = .ok (.iaload, 1) := by decide +kernel
theorem d_X7_most_51 : decode prog_9_method_53_code 51 = .ok (.istore 4, 2) := by decide +kernel
theorem d_X7_most_53 : decode prog_9_method_53_code 53 = .ok (.iload 4, 2) := by decide +kernel
theorem d_X7_most_55 : decode prog_9_method_53_code 55 = .ok (.iload_n 2, 1) := by decide +kernel
theorem d_X7_most_56 : decode prog_9_method_53_code 56 = .ok (.if_icmp .gt 27, 3) := by decide +kernel
theorem d_X7_most_59 : decode prog_9_method_53_code 59 = .ok (.iload_n 3, 1) := by decide +kernel
theorem d_X7_most_60 : decode prog_9_method_53_code 60 = .ok (.aload_n 0, 1) := by decide +kernel
theorem d_X7_most_61 : decode prog_9_method_53_code 61 = .ok (.iload_n 1, 1) := by decide +kernel
theorem d_X7_most_62 : decode prog_9_method_53_code 62 = .ok (.iload 4, 2) := by decide +kernel
theorem d_X7_most_64 : decode prog_9_method_53_code 64 = .ok (.invokevirtual 125, 3) := by decide +kernel
theorem d_X7_most_67 : decode prog_9_method_53_code 67 = .ok (.ifCond .eq 7, 3) := by decide +kernel
theorem d_X7_most_70 : decode prog_9_method_53_code 70 = .ok (.iconst 1, 1) := by decide +kernel
theorem d_X7_most_71 : decode prog_9_method_53_code 71 = .ok (.goto 4, 3) := by decide +kernel
theorem d_X7_most_74 : decode prog_9_method_53_code 74 = .ok (.iconst 0, 1) := by decide +kernel
theorem d_X7_most_75 : decode prog_9_method_53_code 75 = .ok (.iadd, 1) := by decide +kernel
theorem d_X7_most_76 : decode prog_9_method_53_code 76 = .ok (.istore_n 3, 1) := by decide +kernel
theorem d_X7_most_77 : decode prog_9_method_53_code 77 = .ok (.iinc 4 1, 3) := by decide +kernel
theorem d_X7_most_80 : decode prog_9_method_53_code 80 = .ok (.goto (-27), 3) := by decide +kernel
theorem d_X7_most_83 : decode prog_9_method_53_code 83 = .ok (.iload_n 3, 1) := by decide +kernel
theorem d_X7_most_84 : decode prog_9_method_53_code 84 = .ok (.iconst 4, 1) := by decide +kernel
theorem d_X7_most_85 : decode prog_9_method_53_code 85 = .ok (.idiv, 1) := by decide +kernel
theorem d_X7_most_86 : decode prog_9_method_53_code 86 = .ok (.ireturn, 1) := by decide +kernel
def m_X7_most_b75 (sh : Sh) (k53 : Int32 → Int32 → Mu → Option (Int32 × Mu)) (v0 : Nat) (v1 : Int32) (v2 : Int32) (v4 : Int32) (s0 : Int32) (s1 : Int32) (μ : Mu) : Option (Int32 × Mu) :=
  bd (s1 + s0) fun w21 =>
  bd (v4 + 1) fun w22 =>
  k53 w21 w22 μ
def m_X7_most_b53 (sh : Sh) (k53 : Int32 → Int32 → Mu → Option (Int32 × Mu)) (v0 : Nat) (v1 : Int32) (v2 : Int32) (v3 : Int32) (v4 : Int32) (μ : Mu) : Option (Int32 × Mu) :=
  if v2 < v4 then
    gd (nzI 4) <|
    some (v3 / 4, μ)
  else
    gd (iz sh 7 v0) <|
    ca2 (m_X7_isFlash sh v0 v1 v4 μ) fun r18 μ19 =>
    if r18 = 0 then
      m_X7_most_b75 sh k53 v0 v1 v2 v4 0 v3 μ19
    else
      m_X7_most_b75 sh k53 v0 v1 v2 v4 1 v3 μ19
def m_X7_most_h53 (sh : Sh) (v0 : Nat) (v1 : Int32) (v2 : Int32) : Nat → Int32 → Int32 → Mu → Option (Int32 × Mu)
  | 0 => fun _ _ _ => none
  | f + 1 => fun v3 v4 μ => m_X7_most_b53 sh (m_X7_most_h53 sh v0 v1 v2 f) v0 v1 v2 v3 v4 μ
def m_X7_most (sh : Sh) (v0 : Nat) (v1 : Int32) (v2 : Int32) (μ : Mu) : Option (Int32 × Mu) :=
  gd (iz sh 7 v0) <|
  bd (sI μ v0 0 0) fun μ2 =>
  ca2 (m_X7_noBooth sh v0 v1 μ2) fun r3 μ4 =>
  if r3 = 0 then
    ca2 (m_X7_in sh (v2.toInt64) 0 999 μ4) fun r6 μ7 =>
    if r6 = 0 then
      some ((-2), μ7)
    else
      bd (gR μ7 v0 16) fun a9 =>
      gd (ix sh 8 a9 (16 + (17 * v1))) <|
      bd (gI μ7 a9 (16 + (17 * v1)).toNatClampNeg) fun w11 =>
      bd (gR μ7 v0 16) fun a12 =>
      gd (ix sh 8 a12 203) <|
      bd (gI μ7 a12 (203 : Int32).toNatClampNeg) fun w14 =>
      m_X7_most_h53 sh v0 v1 v2 FU w11 w14 μ7
  else
    some ((-1), μ4)
set_option maxHeartbeats 4000000 in
set_option maxRecDepth 20000 in
theorem t_X7_most_b75 {l : Launch} {G : Gl} {n : Nat} {sh : Sh} {x : Int32 × Mu} {k53 : Int32 → Int32 → Mu → Option (Int32 × Mu)} {v0 : Nat} {v1 : Int32} {v2 : Int32} {v4 : Int32} {s0 : Int32} {s1 : Int32} {μ : Mu} (hk53 : ∀ (v3 : Int32) (v4 : Int32) (μ : Mu), k53 v3 v4 μ = some x → Sj l G (QI G n sh x) c_X7_most n sh 0 0 μ 53 [some (vr v0), some (vi v1), some (vi v2), some (vi v3), some (vi v4)] []) (h : m_X7_most_b75 sh k53 v0 v1 v2 v4 s0 s1 μ = some x) : Sj l G (QI G n sh x) c_X7_most n sh 0 0 μ 75 [some (vr v0), some (vi v1), some (vi v2), none, some (vi v4)] [vi s0, vi s1] := by
  unfold m_X7_most_b75 at h
  refine s_iadd (pc := 75) d_X7_most_75 ?_
  obtain ⟨w21, ew21, h⟩ := bd_1 h
  refine s_topI ew21 ?_
  refine s_istore_n (pc := 76) (lc' := [some (vr v0), some (vi v1), some (vi v2), some (vi w21), some (vi v4)]) d_X7_most_76 rfl (by decide) rfl ?_
  obtain ⟨w22, ew22, h⟩ := bd_1 h
  refine s_iinc (pc := 77) (v := w22) (lc' := [some (vr v0), some (vi v1), some (vi v2), some (vi w21), some (vi w22)]) d_X7_most_77 rfl (by rw [ew22]; rfl) (by decide) rfl ?_
  refine s_goto (pc := 80) (tgt := 53) d_X7_most_80 (by decide) ?_
  exact hk53 _ _ _ h
set_option maxHeartbeats 4000000 in
set_option maxRecDepth 20000 in
theorem t_X7_most_b53 {l : Launch} {G : Gl} {n : Nat} {sh : Sh} {x : Int32 × Mu} {k53 : Int32 → Int32 → Mu → Option (Int32 × Mu)} {v0 : Nat} {v1 : Int32} {v2 : Int32} {v3 : Int32} {v4 : Int32} {μ : Mu} (hk53 : ∀ (v3 : Int32) (v4 : Int32) (μ : Mu), k53 v3 v4 μ = some x → Sj l G (QI G n sh x) c_X7_most n sh 0 0 μ 53 [some (vr v0), some (vi v1), some (vi v2), some (vi v3), some (vi v4)] []) (h : m_X7_most_b53 sh k53 v0 v1 v2 v3 v4 μ = some x) : Sj l G (QI G n sh x) c_X7_most n sh 0 0 μ 53 [some (vr v0), some (vi v1), some (vi v2), some (vi v3), some (vi v4)] [] := by
  unfold m_X7_most_b53 at h
  refine s_iload (pc := 53) d_X7_most_53 rfl ?_
  refine s_iload_n (pc := 55) d_X7_most_55 rfl rfl ?_
  refine s_icmp_gt (pc := 56) (tgt := 83) d_X7_most_56 (by decide) (fun c15 => ?_) (fun c15 => ?_)
  · have h := it_t c15 h
    refine s_iload_n (pc := 83) d_X7_most_83 rfl rfl ?_
    refine s_iconst (pc := 84) (v := 4) d_X7_most_84 (by decide) ?_
    obtain ⟨g16, h⟩ := gd_1 h
    refine s_idiv (pc := 85) d_X7_most_85 (nzI_eq g16) ?_
    obtain rfl := Option.some.inj h
    exact s_iret (pc := 86) d_X7_most_86 rfl
  · have h := it_f c15 h
    refine s_iload_n (pc := 59) d_X7_most_59 rfl rfl ?_
    refine s_aload_n (pc := 60) d_X7_most_60 rfl rfl ?_
    refine s_iload_n (pc := 61) d_X7_most_61 rfl rfl ?_
    refine s_iload (pc := 62) d_X7_most_62 rfl ?_
    obtain ⟨g17, h⟩ := gd_1 h
    obtain ⟨r18, μ19, er18, h⟩ := ca2_1 h
    refine s_callV (pc := 64) (as := [vi v1, vi v4]) (st := [vi v3]) (vo := [vi r18]) (t_X7_isFlash er18) cl_7 g17 d_X7_most_64 y_X7_isFlash w_801 w_803 w_s17 ⟨by decide, by decide⟩ ⟨Nat.le_of_ble_eq_true rfl, Nat.le_of_ble_eq_true rfl⟩ (Nat.le_of_ble_eq_true rfl) rfl rfl rfl ?_
    refine s_as (kc' := 0) (js' := 0) (pc' := 67) (st' := [vi r18, vi v3]) ⟨rfl, rfl, rfl, rfl⟩ ?_
    refine s_if_eq (pc := 67) (tgt := 74) d_X7_most_67 (by decide) (fun c20 => ?_) (fun c20 => ?_)
    · have h := it_t c20 h
      refine s_iconst (pc := 74) (v := 0) d_X7_most_74 (by decide) ?_
      refine s_mask [true, true, true, false, true] rfl ?_
      exact t_X7_most_b75 hk53 h
    · have h := it_f c20 h
      refine s_iconst (pc := 70) (v := 1) d_X7_most_70 (by decide) ?_
      refine s_goto (pc := 71) (tgt := 75) d_X7_most_71 (by decide) ?_
      refine s_mask [true, true, true, false, true] rfl ?_
      exact t_X7_most_b75 hk53 h
set_option maxHeartbeats 4000000 in
set_option maxRecDepth 20000 in
theorem t_X7_most_h53 {l : Launch} {G : Gl} {n : Nat} {sh : Sh} {x : Int32 × Mu} {v0 : Nat} {v1 : Int32} {v2 : Int32} : ∀ (f : Nat) (v3 : Int32) (v4 : Int32) (μ : Mu), m_X7_most_h53 sh v0 v1 v2 f v3 v4 μ = some x → Sj l G (QI G n sh x) c_X7_most n sh 0 0 μ 53 [some (vr v0), some (vi v1), some (vi v2), some (vi v3), some (vi v4)] [] := by
  intro f
  induction f with
  | zero =>
    intro v3 v4 μ h
    cases h
  | succ f ih =>
    intro v3 v4 μ h
    exact t_X7_most_b53 ih h
set_option maxHeartbeats 4000000 in
set_option maxRecDepth 20000 in
theorem t_X7_most {l : Launch} {G : Gl} {n : Nat} {sh : Sh} {x : Int32 × Mu} {v0 : Nat} {v1 : Int32} {v2 : Int32} {μ : Mu} (h : m_X7_most sh v0 v1 v2 μ = some x) : Ct l G ⟨"StripsOfFourModel", "most", "(II)I"⟩ prog_9_method_53_code 5 (some .int) { frames := 2, cells := 0, slots := 0, locals := 46 } n sh μ [vr v0, vi v1, vi v2] (some (.int x.1)) n sh x.2 := by
  refine Ct.of (lc := [some (vr v0), some (vi v1), some (vi v2), none, none]) (by decide +kernel) (Nat.le_of_ble_eq_true rfl) rfl ?_
  show Sj l G (QI G n sh x) c_X7_most n sh 0 0 μ 0 [some (vr v0), some (vi v1), some (vi v2), none, none] []
  unfold m_X7_most at h
  refine s_aload_n (pc := 0) d_X7_most_0 rfl rfl ?_
  refine s_iconst (pc := 1) (v := 0) d_X7_most_1 (by decide) ?_
  obtain ⟨g1, h⟩ := gd_1 h
  refine s_putI (pc := 2) (k := 0) cl_7 d_X7_most_2 g1 (by decide) w_660 rfl rfl ?_
  obtain ⟨μ2, eμ2, h⟩ := bd_1 h
  refine s_mu eμ2 ?_
  refine s_aload_n (pc := 5) d_X7_most_5 rfl rfl ?_
  refine s_iload_n (pc := 6) d_X7_most_6 rfl rfl ?_
  obtain ⟨r3, μ4, er3, h⟩ := ca2_1 h
  refine s_callV (pc := 7) (as := [vi v1]) (st := []) (vo := [vi r3]) (t_X7_noBooth er3) cl_7 g1 d_X7_most_7 y_X7_noBooth w_797 w_799 w_s16 ⟨by decide, by decide⟩ ⟨Nat.le_of_ble_eq_true rfl, Nat.le_of_ble_eq_true rfl⟩ (Nat.le_of_ble_eq_true rfl) rfl rfl rfl ?_
  refine s_as (kc' := 0) (js' := 0) (pc' := 10) (st' := [vi r3]) ⟨rfl, rfl, rfl, rfl⟩ ?_
  refine s_if_eq (pc := 10) (tgt := 15) d_X7_most_10 (by decide) (fun c5 => ?_) (fun c5 => ?_)
  · have h := it_t c5 h
    refine s_iload_n (pc := 15) d_X7_most_15 rfl rfl ?_
    refine s_i2l (pc := 16) d_X7_most_16 ?_
    refine s_lconst (pc := 17) (v := 0) d_X7_most_17 (by decide) ?_
    refine s_ldc2 (pc := 18) (v := 999) d_X7_most_18 w_930 ?_
    obtain ⟨r6, μ7, er6, h⟩ := ca2_1 h
    refine s_callS (pc := 21) (as := [vl (v2.toInt64), vl 0, vl 999]) (st := []) (vo := [vi r6]) (t_X7_in er6) d_X7_most_21 y_X7_in w_754 w_755 ⟨by decide, by decide⟩ ⟨Nat.le_of_ble_eq_true rfl, Nat.le_of_ble_eq_true rfl⟩ (Nat.le_of_ble_eq_true rfl) rfl rfl rfl ?_
    refine s_as (kc' := 0) (js' := 0) (pc' := 24) (st' := [vi r6]) ⟨rfl, rfl, rfl, rfl⟩ ?_
    refine s_if_ne (pc := 24) (tgt := 30) d_X7_most_24 (by decide) (fun c8 => ?_) (fun c8 => ?_)
    · have h := it_f c8 h
      refine s_aload_n (pc := 30) d_X7_most_30 rfl rfl ?_
      refine s_getR (pc := 31) (k := 16) cl_7 d_X7_most_31 g1 (by decide) w_676 (rt_arr _) ?_
      obtain ⟨a9, ea9, h⟩ := bd_1 h
      refine s_topR ea9 ?_
      refine s_bipush (pc := 34) (v := 16) d_X7_most_34 (by decide) ?_
      refine s_bipush (pc := 36) (v := 17) d_X7_most_36 (by decide) ?_
      refine s_iload_n (pc := 38) d_X7_most_38 rfl rfl ?_
      refine s_imul (pc := 39) d_X7_most_39 ?_
      refine s_iadd (pc := 40) d_X7_most_40 ?_
      obtain ⟨g10, h⟩ := gd_1 h
      refine s_iald (pc := 41) d_X7_most_41 g10 ?_
      obtain ⟨w11, ew11, h⟩ := bd_1 h
      refine s_topI ew11 ?_
      refine s_istore_n (pc := 42) (lc' := [some (vr v0), some (vi v1), some (vi v2), some (vi w11), none]) d_X7_most_42 rfl (by decide) rfl ?_
      refine s_aload_n (pc := 43) d_X7_most_43 rfl rfl ?_
      refine s_getR (pc := 44) (k := 16) cl_7 d_X7_most_44 g1 (by decide) w_676 (rt_arr _) ?_
      obtain ⟨a12, ea12, h⟩ := bd_1 h
      refine s_topR ea12 ?_
      refine s_sipush (pc := 47) (v := 203) d_X7_most_47 (by decide) ?_
      obtain ⟨g13, h⟩ := gd_1 h
      refine s_iald (pc := 50) d_X7_most_50 g13 ?_
      obtain ⟨w14, ew14, h⟩ := bd_1 h
      refine s_topI ew14 ?_
      refine s_istore (pc := 51) (lc' := [some (vr v0), some (vi v1), some (vi v2), some (vi w11), some (vi w14)]) d_X7_most_51 (by decide) rfl ?_
      exact t_X7_most_h53 FU _ _ _ h
    · have h := it_t c8 h
      refine s_bipush (pc := 27) (v := (-2)) d_X7_most_27 (by decide) ?_
      obtain rfl := Option.some.inj h
      exact s_iret (pc := 29) d_X7_most_29 rfl
  · have h := it_f c5 h
    refine s_iconst (pc := 13) (v := (-1)) d_X7_most_13 (by decide) ?_
    obtain rfl := Option.some.inj h
    exact s_iret (pc := 14) d_X7_most_14 rfl
/-! StripsOfFourModel.divisor -/
abbrev c_X7_divisor : Cf := (prog_9_method_56_code, 10, "StripsOfFourModel", "divisor", (some .long), { frames := 0, cells := 0, slots := 0, locals := 0 })
theorem d_X7_divisor_0 : decode prog_9_method_56_code 0 = .ok (.lload_n 0, 1) := by decide +kernel
theorem d_X7_divisor_1 : decode prog_9_method_56_code 1 = .ok (.lstore 4, 2) := by decide +kernel
theorem d_X7_divisor_3 : decode prog_9_method_56_code 3 = .ok (.lload_n 2, 1) := by decide +kernel
theorem d_X7_divisor_4 : decode prog_9_method_56_code 4 = .ok (.lstore 6, 2) := by decide +kernel
theorem d_X7_divisor_6 : decode prog_9_method_56_code 6 = .ok (.lload 6, 2) := by decide +kernel
theorem d_X7_divisor_8 : decode prog_9_method_56_code 8 = .ok (.lconst 0, 1) := by decide +kernel
theorem d_X7_divisor_9 : decode prog_9_method_56_code 9 = .ok (.lcmp, 1) := by decide +kernel
theorem d_X7_divisor_10 : decode prog_9_method_56_code 10 = .ok (.ifCond .eq 21, 3) := by decide +kernel
theorem d_X7_divisor_13 : decode prog_9_method_56_code 13 = .ok (.lload 4, 2) := by decide +kernel
theorem d_X7_divisor_15 : decode prog_9_method_56_code 15 = .ok (.lload 6, 2) := by decide +kernel
theorem d_X7_divisor_17 : decode prog_9_method_56_code 17 = .ok (.lrem, 1) := by decide +kernel
theorem d_X7_divisor_18 : decode prog_9_method_56_code 18 = .ok (.lstore 8, 2) := by decide +kernel
theorem d_X7_divisor_20 : decode prog_9_method_56_code 20 = .ok (.lload 6, 2) := by decide +kernel
theorem d_X7_divisor_22 : decode prog_9_method_56_code 22 = .ok (.lstore 4, 2) := by decide +kernel
theorem d_X7_divisor_24 : decode prog_9_method_56_code 24 = .ok (.lload 8, 2) := by decide +kernel
theorem d_X7_divisor_26 : decode prog_9_method_56_code 26 = .ok (.lstore 6, 2) := by decide +kernel
theorem d_X7_divisor_28 : decode prog_9_method_56_code 28 = .ok (.goto (-22), 3) := by decide +kernel
theorem d_X7_divisor_31 : decode prog_9_method_56_code 31 = .ok (.lload 4, 2) := by decide +kernel
theorem d_X7_divisor_33 : decode prog_9_method_56_code 33 = .ok (.lreturn, 1) := by decide +kernel
def m_X7_divisor_b6 (sh : Sh) (k6 : Int64 → Int64 → Mu → Option (Int64 × Mu)) (v4 : Int64) (v6 : Int64) (μ : Mu) : Option (Int64 × Mu) :=
  if (lg_cmp v6 0) = 0 then
    some (v4, μ)
  else
    gd (nzJ v6) <|
    bd (v4 - v4 / v6 * v6) fun w3 =>
    k6 v6 w3 μ
def m_X7_divisor_h6 (sh : Sh) : Nat → Int64 → Int64 → Mu → Option (Int64 × Mu)
  | 0 => fun _ _ _ => none
  | f + 1 => fun v4 v6 μ => m_X7_divisor_b6 sh (m_X7_divisor_h6 sh f) v4 v6 μ
def m_X7_divisor (sh : Sh) (v0 : Int64) (v2 : Int64) (μ : Mu) : Option (Int64 × Mu) :=
  m_X7_divisor_h6 sh FU v0 v2 μ
set_option maxHeartbeats 4000000 in
set_option maxRecDepth 20000 in
theorem t_X7_divisor_b6 {l : Launch} {G : Gl} {n : Nat} {sh : Sh} {x : Int64 × Mu} {k6 : Int64 → Int64 → Mu → Option (Int64 × Mu)} {v4 : Int64} {v6 : Int64} {μ : Mu} (hk6 : ∀ (v4 : Int64) (v6 : Int64) (μ : Mu), k6 v4 v6 μ = some x → Sj l G (QJ G n sh x) c_X7_divisor n sh 0 0 μ 6 [none, none, none, none, some (vl v4), none, some (vl v6), none, none, none] []) (h : m_X7_divisor_b6 sh k6 v4 v6 μ = some x) : Sj l G (QJ G n sh x) c_X7_divisor n sh 0 0 μ 6 [none, none, none, none, some (vl v4), none, some (vl v6), none, none, none] [] := by
  unfold m_X7_divisor_b6 at h
  refine s_lload (pc := 6) d_X7_divisor_6 rfl ?_
  refine s_lconst (pc := 8) (v := 0) d_X7_divisor_8 (by decide) ?_
  refine s_lcmp (pc := 9) d_X7_divisor_9 ?_
  refine s_if_eq (pc := 10) (tgt := 31) d_X7_divisor_10 (by decide) (fun c1 => ?_) (fun c1 => ?_)
  · have h := it_t c1 h
    refine s_lload (pc := 31) d_X7_divisor_31 rfl ?_
    obtain rfl := Option.some.inj h
    exact s_lret (pc := 33) d_X7_divisor_33 rfl
  · have h := it_f c1 h
    refine s_lload (pc := 13) d_X7_divisor_13 rfl ?_
    refine s_lload (pc := 15) d_X7_divisor_15 rfl ?_
    obtain ⟨g2, h⟩ := gd_1 h
    refine s_lrem (pc := 17) d_X7_divisor_17 (nzJ_eq g2) ?_
    obtain ⟨w3, ew3, h⟩ := bd_1 h
    refine s_topJ ew3 ?_
    refine s_lstore (pc := 18) (lc' := [none, none, none, none, some (vl v4), none, some (vl v6), none, some (vl w3), none]) d_X7_divisor_18 (by decide) rfl ?_
    refine s_lload (pc := 20) d_X7_divisor_20 rfl ?_
    refine s_lstore (pc := 22) (lc' := [none, none, none, none, some (vl v6), none, some (vl v6), none, some (vl w3), none]) d_X7_divisor_22 (by decide) rfl ?_
    refine s_lload (pc := 24) d_X7_divisor_24 rfl ?_
    refine s_lstore (pc := 26) (lc' := [none, none, none, none, some (vl v6), none, some (vl w3), none, some (vl w3), none]) d_X7_divisor_26 (by decide) rfl ?_
    refine s_goto (pc := 28) (tgt := 6) d_X7_divisor_28 (by decide) ?_
    refine s_mask [true, true, true, true, true, true, true, true, false, true] rfl ?_
    exact hk6 _ _ _ h
set_option maxHeartbeats 4000000 in
set_option maxRecDepth 20000 in
theorem t_X7_divisor_h6 {l : Launch} {G : Gl} {n : Nat} {sh : Sh} {x : Int64 × Mu} : ∀ (f : Nat) (v4 : Int64) (v6 : Int64) (μ : Mu), m_X7_divisor_h6 sh f v4 v6 μ = some x → Sj l G (QJ G n sh x) c_X7_divisor n sh 0 0 μ 6 [none, none, none, none, some (vl v4), none, some (vl v6), none, none, none] [] := by
  intro f
  induction f with
  | zero =>
    intro v4 v6 μ h
    cases h
  | succ f ih =>
    intro v4 v6 μ h
    exact t_X7_divisor_b6 ih h
set_option maxHeartbeats 4000000 in
set_option maxRecDepth 20000 in
theorem t_X7_divisor {l : Launch} {G : Gl} {n : Nat} {sh : Sh} {x : Int64 × Mu} {v0 : Int64} {v2 : Int64} {μ : Mu} (h : m_X7_divisor sh v0 v2 μ = some x) : Ct l G ⟨"StripsOfFourModel", "divisor", "(JJ)J"⟩ prog_9_method_56_code 10 (some .long) { frames := 0, cells := 0, slots := 0, locals := 0 } n sh μ [vl v0, vl v2] (some (.long x.1)) n sh x.2 := by
  refine Ct.of (lc := [some (vl v0), none, some (vl v2), none, none, none, none, none, none, none]) (by decide +kernel) (Nat.le_of_ble_eq_true rfl) rfl ?_
  show Sj l G (QJ G n sh x) c_X7_divisor n sh 0 0 μ 0 [some (vl v0), none, some (vl v2), none, none, none, none, none, none, none] []
  unfold m_X7_divisor at h
  refine s_lload_n (pc := 0) d_X7_divisor_0 rfl rfl ?_
  refine s_lstore (pc := 1) (lc' := [some (vl v0), none, some (vl v2), none, some (vl v0), none, none, none, none, none]) d_X7_divisor_1 (by decide) rfl ?_
  refine s_lload_n (pc := 3) d_X7_divisor_3 rfl rfl ?_
  refine s_lstore (pc := 4) (lc' := [some (vl v0), none, some (vl v2), none, some (vl v0), none, some (vl v2), none, none, none]) d_X7_divisor_4 (by decide) rfl ?_
  refine s_mask [false, true, false, true, true, true, true, true, true, true] rfl ?_
  exact t_X7_divisor_h6 FU _ _ _ h
/-! StripsOfFourModel.power -/
abbrev c_X7_power : Cf := (prog_9_method_55_code, 6, "StripsOfFourModel", "power", (some .long), { frames := 0, cells := 0, slots := 0, locals := 0 })
theorem d_X7_power_0 : decode prog_9_method_55_code 0 = .ok (.lconst 1, 1) := by decide +kernel
theorem d_X7_power_1 : decode prog_9_method_55_code 1 = .ok (.lstore_n 3, 1) := by decide +kernel
theorem d_X7_power_2 : decode prog_9_method_55_code 2 = .ok (.iconst 0, 1) := by decide +kernel
theorem d_X7_power_3 : decode prog_9_method_55_code 3 = .ok (.istore 5, 2) := by decide +kernel
theorem d_X7_power_5 : decode prog_9_method_55_code 5 = .ok (.iload 5, 2) := by decide +kernel
theorem d_X7_power_7 : decode prog_9_method_55_code 7 = .ok (.iload_n 2, 1) := by decide +kernel
theorem d_X7_power_8 : decode prog_9_method_55_code 8 = .ok (.if_icmp .ge 13, 3) := by decide +kernel
theorem d_X7_power_11 : decode prog_9_method_55_code 11 = .ok (.lload_n 3, 1) := by decide +kernel
theorem d_X7_power_12 : decode prog_9_method_55_code 12 = .ok (.lload_n 0, 1) := by decide +kernel
theorem d_X7_power_13 : decode prog_9_method_55_code 13 = .ok (.lmul, 1) := by decide +kernel
theorem d_X7_power_14 : decode prog_9_method_55_code 14 = .ok (.lstore_n 3, 1) := by decide +kernel
theorem d_X7_power_15 : decode prog_9_method_55_code 15 = .ok (.iinc 5 1, 3) := by decide +kernel
theorem d_X7_power_18 : decode prog_9_method_55_code 18 = .ok (.goto (-13), 3) := by decide +kernel
theorem d_X7_power_21 : decode prog_9_method_55_code 21 = .ok (.lload_n 3, 1) := by decide +kernel
theorem d_X7_power_22 : decode prog_9_method_55_code 22 = .ok (.lreturn, 1) := by decide +kernel
def m_X7_power_b5 (sh : Sh) (k5 : Int64 → Int32 → Mu → Option (Int64 × Mu)) (v0 : Int64) (v2 : Int32) (v3 : Int64) (v5 : Int32) (μ : Mu) : Option (Int64 × Mu) :=
  if v2 ≤ v5 then
    some (v3, μ)
  else
    bd (v3 * v0) fun w2 =>
    bd (v5 + 1) fun w3 =>
    k5 w2 w3 μ
def m_X7_power_h5 (sh : Sh) (v0 : Int64) (v2 : Int32) : Nat → Int64 → Int32 → Mu → Option (Int64 × Mu)
  | 0 => fun _ _ _ => none
  | f + 1 => fun v3 v5 μ => m_X7_power_b5 sh (m_X7_power_h5 sh v0 v2 f) v0 v2 v3 v5 μ
def m_X7_power (sh : Sh) (v0 : Int64) (v2 : Int32) (μ : Mu) : Option (Int64 × Mu) :=
  m_X7_power_h5 sh v0 v2 FU 1 0 μ
set_option maxHeartbeats 4000000 in
set_option maxRecDepth 20000 in
theorem t_X7_power_b5 {l : Launch} {G : Gl} {n : Nat} {sh : Sh} {x : Int64 × Mu} {k5 : Int64 → Int32 → Mu → Option (Int64 × Mu)} {v0 : Int64} {v2 : Int32} {v3 : Int64} {v5 : Int32} {μ : Mu} (hk5 : ∀ (v3 : Int64) (v5 : Int32) (μ : Mu), k5 v3 v5 μ = some x → Sj l G (QJ G n sh x) c_X7_power n sh 0 0 μ 5 [some (vl v0), none, some (vi v2), some (vl v3), none, some (vi v5)] []) (h : m_X7_power_b5 sh k5 v0 v2 v3 v5 μ = some x) : Sj l G (QJ G n sh x) c_X7_power n sh 0 0 μ 5 [some (vl v0), none, some (vi v2), some (vl v3), none, some (vi v5)] [] := by
  unfold m_X7_power_b5 at h
  refine s_iload (pc := 5) d_X7_power_5 rfl ?_
  refine s_iload_n (pc := 7) d_X7_power_7 rfl rfl ?_
  refine s_icmp_ge (pc := 8) (tgt := 21) d_X7_power_8 (by decide) (fun c1 => ?_) (fun c1 => ?_)
  · have h := it_t c1 h
    refine s_lload_n (pc := 21) d_X7_power_21 rfl rfl ?_
    obtain rfl := Option.some.inj h
    exact s_lret (pc := 22) d_X7_power_22 rfl
  · have h := it_f c1 h
    refine s_lload_n (pc := 11) d_X7_power_11 rfl rfl ?_
    refine s_lload_n (pc := 12) d_X7_power_12 rfl rfl ?_
    refine s_lmul (pc := 13) d_X7_power_13 ?_
    obtain ⟨w2, ew2, h⟩ := bd_1 h
    refine s_topJ ew2 ?_
    refine s_lstore_n (pc := 14) (lc' := [some (vl v0), none, some (vi v2), some (vl w2), none, some (vi v5)]) d_X7_power_14 rfl (by decide) rfl ?_
    obtain ⟨w3, ew3, h⟩ := bd_1 h
    refine s_iinc (pc := 15) (v := w3) (lc' := [some (vl v0), none, some (vi v2), some (vl w2), none, some (vi w3)]) d_X7_power_15 rfl (by rw [ew3]; rfl) (by decide) rfl ?_
    refine s_goto (pc := 18) (tgt := 5) d_X7_power_18 (by decide) ?_
    exact hk5 _ _ _ h
set_option maxHeartbeats 4000000 in
set_option maxRecDepth 20000 in
theorem t_X7_power_h5 {l : Launch} {G : Gl} {n : Nat} {sh : Sh} {x : Int64 × Mu} {v0 : Int64} {v2 : Int32} : ∀ (f : Nat) (v3 : Int64) (v5 : Int32) (μ : Mu), m_X7_power_h5 sh v0 v2 f v3 v5 μ = some x → Sj l G (QJ G n sh x) c_X7_power n sh 0 0 μ 5 [some (vl v0), none, some (vi v2), some (vl v3), none, some (vi v5)] [] := by
  intro f
  induction f with
  | zero =>
    intro v3 v5 μ h
    cases h
  | succ f ih =>
    intro v3 v5 μ h
    exact t_X7_power_b5 ih h
set_option maxHeartbeats 4000000 in
set_option maxRecDepth 20000 in
theorem t_X7_power {l : Launch} {G : Gl} {n : Nat} {sh : Sh} {x : Int64 × Mu} {v0 : Int64} {v2 : Int32} {μ : Mu} (h : m_X7_power sh v0 v2 μ = some x) : Ct l G ⟨"StripsOfFourModel", "power", "(JI)J"⟩ prog_9_method_55_code 6 (some .long) { frames := 0, cells := 0, slots := 0, locals := 0 } n sh μ [vl v0, vi v2] (some (.long x.1)) n sh x.2 := by
  refine Ct.of (lc := [some (vl v0), none, some (vi v2), none, none, none]) (by decide +kernel) (Nat.le_of_ble_eq_true rfl) rfl ?_
  show Sj l G (QJ G n sh x) c_X7_power n sh 0 0 μ 0 [some (vl v0), none, some (vi v2), none, none, none] []
  unfold m_X7_power at h
  refine s_lconst (pc := 0) (v := 1) d_X7_power_0 (by decide) ?_
  refine s_lstore_n (pc := 1) (lc' := [some (vl v0), none, some (vi v2), some (vl 1), none, none]) d_X7_power_1 rfl (by decide) rfl ?_
  refine s_iconst (pc := 2) (v := 0) d_X7_power_2 (by decide) ?_
  refine s_istore (pc := 3) (lc' := [some (vl v0), none, some (vi v2), some (vl 1), none, some (vi 0)]) d_X7_power_3 (by decide) rfl ?_
  exact t_X7_power_h5 FU _ _ _ h
/-! StripsOfFourModel.open -/
abbrev c_X7_open : Cf := (prog_9_method_58_code, 11, "StripsOfFourModel", "open", (some .int), { frames := 2, cells := 0, slots := 0, locals := 46 })
theorem d_X7_open_0 : decode prog_9_method_58_code 0 = .ok (.aload_n 0, 1) := by decide +kernel
theorem d_X7_open_1 : decode prog_9_method_58_code 1 = .ok (.iconst 0, 1) := by decide +kernel
theorem d_X7_open_2 : decode prog_9_method_58_code 2 = .ok (.putfield 66, 3) := by decide +kernel
theorem d_X7_open_5 : decode prog_9_method_58_code 5 = .ok (.aload_n 0, 1) := by decide +kernel
theorem d_X7_open_6 : decode prog_9_method_58_code 6 = .ok (.iload_n 1, 1) := by decide +kernel
theorem d_X7_open_7 : decode prog_9_method_58_code 7 = .ok (.invokevirtual 121, 3) := by decide +kernel
theorem d_X7_open_10 : decode prog_9_method_58_code 10 = .ok (.ifCond .eq 5, 3) := by decide +kernel
theorem d_X7_open_13 : decode prog_9_method_58_code 13 = .ok (.iconst (-1), 1) := by decide +kernel
theorem d_X7_open_14 : decode prog_9_method_58_code 14 = .ok (.ireturn, 1) := by decide +kernel
theorem d_X7_open_15 : decode prog_9_method_58_code 15 = .ok (.iload_n 2, 1) := by decide +kernel
theorem d_X7_open_16 : decode prog_9_method_58_code 16 = .ok (.i2l, 1) := by decide +kernel
theorem d_X7_open_17 : decode prog_9_method_58_code 17 = .ok (.lconst 0, 1) := by decide +kernel
theorem d_X7_open_18 : decode prog_9_method_58_code 18 = .ok (.ldc2_w 217, 3) := by decide +kernel
theorem d_X7_open_21 : decode prog_9_method_58_code 21 = .ok (.invokestatic 73, 3) := by decide +kernel
theorem d_X7_open_24 : decode prog_9_method_58_code 24 = .ok (.ifCond .ne 6, 3) := by decide +kernel
theorem d_X7_open_27 : decode prog_9_method_58_code 27 = .ok (.bipush (-2), 2) := by decide +kernel
theorem d_X7_open_29 : decode prog_9_method_58_code 29 = .ok (.ireturn, 1) := by decide +kernel
theorem d_X7_open_30 : decode prog_9_method_58_code 30 = .ok (.aload_n 0, 1) := by decide +kernel
theorem d_X7_open_31 : decode prog_9_method_58_code 31 = .ok (.iload_n 1, 1) := by decide +kernel
theorem d_X7_open_32 : decode prog_9_method_58_code 32 = .ok (.invokevirtual 129, 3) := by decide +kernel
theorem d_X7_open_35 : decode prog_9_method_58_code 35 = .ok (.istore 4, 2) := by decide +kernel
theorem d_X7_open_37 : decode prog_9_method_58_code 37 = .ok (.lconst 0, 1) := by decide +kernel
theorem d_X7_open_38 : decode prog_9_method_58_code 38 = .ok (.lstore 5, 2) := by decide +kernel
theorem d_X7_open_40 : decode prog_9_method_58_code 40 = .ok (.iconst 0, 1) := by decide +kernel
theorem d_X7_open_41 : decode prog_9_method_58_code 41 = .ok (.istore 7, 2) := by decide +kernel
theorem d_X7_open_43 : decode prog_9_method_58_code 43 = .ok (.iload 7, 2) := by decide +kernel
theorem d_X7_open_45 : decode prog_9_method_58_code 45 = .ok (.bipush 32, 2) := by decide +kernel
theorem d_X7_open_47 : decode prog_9_method_58_code 47 = .ok (.if_icmp .ge 107, 3) := by decide +kernel
theorem d_X7_open_50 : decode prog_9_method_58_code 50 = .ok (.iload 7, 2) := by decide +kernel
theorem d_X7_open_52 : decode prog_9_method_58_code 52 = .ok (.iload 4, 2) := by decide +kernel
theorem d_X7_open_54 : decode prog_9_method_58_code 54 = .ok (.iconst (-1), 1) := by decide +kernel
theorem d_X7_open_55 : decode prog_9_method_58_code 55 = .ok (.ixor, 1) := by decide +kernel
theorem d_X7_open_56 : decode prog_9_method_58_code 56 = .ok (.iand, 1) := by decide +kernel
theorem d_X7_open_57 : decode prog_9_method_58_code 57 = .ok (.ifCond .ne 91, 3) := by decide +kernel
theorem d_X7_open_60 : decode prog_9_method_58_code 60 = .ok (.iload 7, 2) := by decide +kernel
theorem d_X7_open_62 : decode prog_9_method_58_code 62 = .ok (.invokestatic 151, 3) := by decide +kernel
theorem d_X7_open_65 : decode prog_9_method_58_code 65 = .ok (.iload_n 2, 1) := by decide +kernel
theorem d_X7_open_66 : decode prog_9_method_58_code 66 = .ok (.if_icmp .lt 82, 3) := by decide +kernel
theorem d_X7_open_69 : decode prog_9_method_58_code 69 = .ok (.lconst 1, 1) := by decide +kernel
theorem d_X7_open_70 : decode prog_9_method_58_code 70 = .ok (.lstore 8, 2) := by decide +kernel
theorem d_X7_open_72 : decode prog_9_method_58_code 72 = .ok (.iconst 0, 1) := by decide +kernel
theorem d_X7_open_73 : decode prog_9_method_58_code 73 = .ok (.istore 10, 2) := by decide +kernel
theorem d_X7_open_75 : decode prog_9_method_58_code 75 = .ok (.iload 10, 2) := by decide +kernel
theorem d_X7_open_77 : decode prog_9_method_58_code 77 = .ok (.aload_n 0, 1) := by decide +kernel
theorem d_X7_open_78 : decode prog_9_method_58_code 78 = .ok (.getfield 77, 3) := by decide +kernel
theorem d_X7_open_81 : decode prog_9_method_58_code 81 = .ok (.if_icmp .ge 60, 3) := by decide +kernel
theorem d_X7_open_84 : decode prog_9_method_58_code 84 = .ok (.lload 8, 2) := by decide +kernel
theorem d_X7_open_86 : decode prog_9_method_58_code 86 = .ok (.iload 4, 2) := by decide +kernel
theorem d_X7_open_88 : decode prog_9_method_58_code 88 = .ok (.iload 10, 2) := by decide +kernel
theorem d_X7_open_90 : decode prog_9_method_58_code 90 = .ok (.invokestatic 178, 3) := by decide +kernel
theorem d_X7_open_93 : decode prog_9_method_58_code 93 = .ok (.ifCond .ne 7, 3) := by decide +kernel
theorem d_X7_open_96 : decode prog_9_method_58_code 96 = .ok (.lconst 1, 1) := by decide +kernel
theorem d_X7_open_97 : decode prog_9_method_58_code 97 = .ok (.goto 35, 3) := by decide +kernel
theorem d_X7_open_100 : decode prog_9_method_58_code 100 = .ok (.iload 7, 2) := by decide +kernel
theorem d_X7_open_102 : decode prog_9_method_58_code 102 = .ok (.iload 10, 2) := by decide +kernel
theorem d_X7_open_104 : decode prog_9_method_58_code 104 = .ok (.invokestatic 178, 3) := by decide +kernel
theorem d_X7_open_107 : decode prog_9_method_58_code 107 = .ok (.ifCond .eq 17, 3) := by decide +kernel
theorem d_X7_open_110 : decode prog_9_method_58_code 110 = .ok (.bipush 10, 2) := by decide +kernel
theorem d_X7_open_112 : decode prog_9_method_58_code 112 = .ok (.aload_n 0, 1) := by decide +kernel
theorem d_X7_open_113 : decode prog_9_method_58_code 113 = .ok (.getfield 19, 3) := by decide +kernel
theorem d_X7_open_116 : decode prog_9_method_58_code 116 = .ok (.iload 10, 2) := by decide +kernel
theorem d_X7_open_118 : decode prog_9_method_58_code 118 = .ok (.iaload, 1) := by decide +kernel
theorem d_X7_open_119 : decode prog_9_method_58_code 119 = .ok (.isub, 1) := by decide +kernel
theorem d_X7_open_120 : decode prog_9_method_58_code 120 = .ok (.i2l, 1) := by decide +kernel
theorem d_X7_open_121 : decode prog_9_method_58_code 121 = .ok (.goto 11, 3) := by decide +kernel
theorem d_X7_open_124 : decode prog_9_method_58_code 124 = .ok (.aload_n 0, 1) := by decide +kernel
theorem d_X7_open_125 : decode prog_9_method_58_code 125 = .ok (.getfield 19, 3) := by decide +kernel
theorem d_X7_open_128 : decode prog_9_method_58_code 128 = .ok (.iload 10, 2) := by decide +kernel
theorem d_X7_open_130 : decode prog_9_method_58_code 130 = .ok (.iaload, 1) := by decide +kernel
theorem d_X7_open_131 : decode prog_9_method_58_code 131 = .ok (.i2l, 1) := by decide +kernel
theorem d_X7_open_132 : decode prog_9_method_58_code 132 = .ok (.lmul, 1) := by decide +kernel
theorem d_X7_open_133 : decode prog_9_method_58_code 133 = .ok (.lstore 8, 2) := by decide +kernel
theorem d_X7_open_135 : decode prog_9_method_58_code 135 = .ok (.iinc 10 1, 3) := by decide +kernel
theorem d_X7_open_138 : decode prog_9_method_58_code 138 = .ok (.goto (-63), 3) := by decide +kernel
theorem d_X7_open_141 : decode prog_9_method_58_code 141 = .ok (.lload 5, 2) := by decide +kernel
theorem d_X7_open_143 : decode prog_9_method_58_code 143 = .ok (.lload 8, 2) := by decide +kernel
theorem d_X7_open_145 : decode prog_9_method_58_code 145 = .ok (.ladd, 1) := by decide +kernel
theorem d_X7_open_146 : decode prog_9_method_58_code 146 = .ok (.lstore 5, 2) := by decide +kernel
theorem d_X7_open_148 : decode prog_9_method_58_code 148 = .ok (.iinc 7 1, 3) := by decide +kernel
theorem d_X7_open_151 : decode prog_9_method_58_code 151 = .ok (.goto (-108), 3) := by decide +kernel
theorem d_X7_open_154 : decode prog_9_method_58_code 154 = .ok (.ldc2_w 161, 3) := by decide +kernel
theorem d_X7_open_157 : decode prog_9_method_58_code 157 = .ok (.iload 4, 2) := by decide +kernel
theorem d_X7_open_159 : decode prog_9_method_58_code 159 = .ok (.invokestatic 151, 3) := by decide +kernel
theorem d_X7_open_162 : decode prog_9_method_58_code 162 = .ok (.invokestatic 207, 3) := by decide +kernel
theorem d_X7_open_165 : decode prog_9_method_58_code 165 = .ok (.lstore 7, 2) := by decide +kernel
theorem d_X7_open_167 : decode prog_9_method_58_code 167 = .ok (.lload 5, 2) := by decide +kernel
theorem d_X7_open_169 : decode prog_9_method_58_code 169 = .ok (.lload 7, 2) := by decide +kernel
theorem d_X7_open_171 : decode prog_9_method_58_code 171 = .ok (.invokestatic 213, 3) := by decide +kernel
theorem d_X7_open_174 : decode prog_9_method_58_code 174 = .ok (.lstore 9, 2) := by decide +kernel
theorem d_X7_open_176 : decode prog_9_method_58_code 176 = .ok (.iload_n 3, 1) := by decide +kernel
theorem d_X7_open_177 : decode prog_9_method_58_code 177 = .ok (.ifCond .eq 11, 3) := by decide +kernel
theorem d_X7_open_180 : decode prog_9_method_58_code 180 = .ok (.lload 5, 2) := by decide +kernel
theorem d_X7_open_182 : decode prog_9_method_58_code 182 = .ok (.lload 9, 2) := by decide +kernel
theorem d_X7_open_184 : decode prog_9_method_58_code 184 = .ok (.ldiv, 1) := by decide +kernel
theorem d_X7_open_185 : decode prog_9_method_58_code 185 = .ok (.goto 8, 3) := by decide +kernel
theorem d_X7_open_188 : decode prog_9_method_58_code 188 = .ok (.lload 7, 2) := by decide +kernel
theorem d_X7_open_190 : decode prog_9_method_58_code 190 = .ok (.lload 9, 2) := by decide +kernel
theorem d_X7_open_192 : decode prog_9_method_58_code 192 = .ok (.ldiv, 1) := by decide +kernel
theorem d_X7_open_193 : decode prog_9_method_58_code 193 = .ok (.l2i, 1) := by decide +kernel
theorem d_X7_open_194 : decode prog_9_method_58_code 194 = .ok (.ireturn, 1) := by decide +kernel
def m_X7_open_b132 (sh : Sh) (k43 : Int64 → Int32 → Mu → Option (Int32 × Mu)) (k75 : Int64 → Int32 → Mu → Option (Int32 × Mu)) (v0 : Nat) (v2 : Int32) (v3 : Int32) (v4 : Int32) (v5 : Int64) (v7 : Int32) (v10 : Int32) (s0 : Int64) (s1 : Int64) (μ : Mu) : Option (Int32 × Mu) :=
  bd (s1 * s0) fun w41 =>
  bd (v10 + 1) fun w42 =>
  k75 w41 w42 μ
def m_X7_open_b148 (sh : Sh) (k43 : Int64 → Int32 → Mu → Option (Int32 × Mu)) (v0 : Nat) (v2 : Int32) (v3 : Int32) (v4 : Int32) (v5 : Int64) (v7 : Int32) (μ : Mu) : Option (Int32 × Mu) :=
  bd (v7 + 1) fun w25 =>
  k43 v5 w25 μ
def m_X7_open_b141 (sh : Sh) (k43 : Int64 → Int32 → Mu → Option (Int32 × Mu)) (v0 : Nat) (v2 : Int32) (v3 : Int32) (v4 : Int32) (v5 : Int64) (v7 : Int32) (v8 : Int64) (μ : Mu) : Option (Int32 × Mu) :=
  bd (v5 + v8) fun w40 =>
  m_X7_open_b148 sh k43 v0 v2 v3 v4 w40 v7 μ
def m_X7_open_b75 (sh : Sh) (k43 : Int64 → Int32 → Mu → Option (Int32 × Mu)) (k75 : Int64 → Int32 → Mu → Option (Int32 × Mu)) (v0 : Nat) (v2 : Int32) (v3 : Int32) (v4 : Int32) (v5 : Int64) (v7 : Int32) (v8 : Int64) (v10 : Int32) (μ : Mu) : Option (Int32 × Mu) :=
  gd (iz sh 7 v0) <|
  if (gI μ v0 6) ≤ v10 then
    m_X7_open_b141 sh k43 v0 v2 v3 v4 v5 v7 v8 μ
  else
    ca2 (m_X7_has sh v4 v10 μ) fun r28 μ29 =>
    if r28 = 0 then
      m_X7_open_b132 sh k43 k75 v0 v2 v3 v4 v5 v7 v10 1 v8 μ29
    else
      ca2 (m_X7_has sh v7 v10 μ29) fun r31 μ32 =>
      if r31 = 0 then
        bd (gR μ32 v0 9) fun a34 =>
        gd (ix sh 8 a34 v10) <|
        bd (gI μ32 a34 v10.toNatClampNeg) fun w36 =>
        m_X7_open_b132 sh k43 k75 v0 v2 v3 v4 v5 v7 v10 (w36.toInt64) v8 μ32
      else
        bd (gR μ32 v0 9) fun a37 =>
        gd (ix sh 8 a37 v10) <|
        bd (gI μ32 a37 v10.toNatClampNeg) fun w39 =>
        m_X7_open_b132 sh k43 k75 v0 v2 v3 v4 v5 v7 v10 ((10 - w39).toInt64) v8 μ32
def m_X7_open_h75 (sh : Sh) (k43 : Int64 → Int32 → Mu → Option (Int32 × Mu)) (v0 : Nat) (v2 : Int32) (v3 : Int32) (v4 : Int32) (v5 : Int64) (v7 : Int32) : Nat → Int64 → Int32 → Mu → Option (Int32 × Mu)
  | 0 => fun _ _ _ => none
  | f + 1 => fun v8 v10 μ => m_X7_open_b75 sh k43 (m_X7_open_h75 sh k43 v0 v2 v3 v4 v5 v7 f) v0 v2 v3 v4 v5 v7 v8 v10 μ
def m_X7_open_b154 (sh : Sh) (v3 : Int32) (v4 : Int32) (v5 : Int64) (μ : Mu) : Option (Int32 × Mu) :=
  ca2 (m_X7_many sh v4 μ) fun r16 μ17 =>
  ca2 (m_X7_power sh 10 r16 μ17) fun r18 μ19 =>
  ca2 (m_X7_divisor sh v5 r18 μ19) fun r20 μ21 =>
  if v3 = 0 then
    gd (nzJ r20) <|
    some ((r18 / r20).toInt32, μ21)
  else
    gd (nzJ r20) <|
    some ((v5 / r20).toInt32, μ21)
def m_X7_open_b43 (sh : Sh) (k43 : Int64 → Int32 → Mu → Option (Int32 × Mu)) (v0 : Nat) (v2 : Int32) (v3 : Int32) (v4 : Int32) (v5 : Int64) (v7 : Int32) (μ : Mu) : Option (Int32 × Mu) :=
  if 32 ≤ v7 then
    m_X7_open_b154 sh v3 v4 v5 μ
  else
    if (v7 &&& (v4 ^^^ (-1))) = 0 then
      ca2 (m_X7_many sh v7 μ) fun r13 μ14 =>
      if r13 < v2 then
        m_X7_open_b148 sh k43 v0 v2 v3 v4 v5 v7 μ14
      else
        m_X7_open_h75 sh k43 v0 v2 v3 v4 v5 v7 FU 1 0 μ14
    else
      m_X7_open_b148 sh k43 v0 v2 v3 v4 v5 v7 μ
def m_X7_open_h43 (sh : Sh) (v0 : Nat) (v2 : Int32) (v3 : Int32) (v4 : Int32) : Nat → Int64 → Int32 → Mu → Option (Int32 × Mu)
  | 0 => fun _ _ _ => none
  | f + 1 => fun v5 v7 μ => m_X7_open_b43 sh (m_X7_open_h43 sh v0 v2 v3 v4 f) v0 v2 v3 v4 v5 v7 μ
def m_X7_open (sh : Sh) (v0 : Nat) (v1 : Int32) (v2 : Int32) (v3 : Int32) (μ : Mu) : Option (Int32 × Mu) :=
  gd (iz sh 7 v0) <|
  bd (sI μ v0 0 0) fun μ2 =>
  ca2 (m_X7_noBooth sh v0 v1 μ2) fun r3 μ4 =>
  if r3 = 0 then
    ca2 (m_X7_in sh (v2.toInt64) 0 5 μ4) fun r6 μ7 =>
    if r6 = 0 then
      some ((-2), μ7)
    else
      ca2 (m_X7_inOf sh v0 v1 μ7) fun r9 μ10 =>
      m_X7_open_h43 sh v0 v2 v3 r9 FU 0 0 μ10
  else
    some ((-1), μ4)
set_option maxHeartbeats 4000000 in
set_option maxRecDepth 20000 in
theorem t_X7_open_b132 {l : Launch} {G : Gl} {n : Nat} {sh : Sh} {x : Int32 × Mu} {k43 : Int64 → Int32 → Mu → Option (Int32 × Mu)} {k75 : Int64 → Int32 → Mu → Option (Int32 × Mu)} {v0 : Nat} {v2 : Int32} {v3 : Int32} {v4 : Int32} {v5 : Int64} {v7 : Int32} {v10 : Int32} {s0 : Int64} {s1 : Int64} {μ : Mu} (hk43 : ∀ (v5 : Int64) (v7 : Int32) (μ : Mu), k43 v5 v7 μ = some x → Sj l G (QI G n sh x) c_X7_open n sh 0 0 μ 43 [some (vr v0), none, some (vi v2), some (vi v3), some (vi v4), some (vl v5), none, some (vi v7), none, none, none] []) (hk75 : ∀ (v8 : Int64) (v10 : Int32) (μ : Mu), k75 v8 v10 μ = some x → Sj l G (QI G n sh x) c_X7_open n sh 0 0 μ 75 [some (vr v0), none, some (vi v2), some (vi v3), some (vi v4), some (vl v5), none, some (vi v7), some (vl v8), none, some (vi v10)] []) (h : m_X7_open_b132 sh k43 k75 v0 v2 v3 v4 v5 v7 v10 s0 s1 μ = some x) : Sj l G (QI G n sh x) c_X7_open n sh 0 0 μ 132 [some (vr v0), none, some (vi v2), some (vi v3), some (vi v4), some (vl v5), none, some (vi v7), none, none, some (vi v10)] [vl s0, vl s1] := by
  unfold m_X7_open_b132 at h
  refine s_lmul (pc := 132) d_X7_open_132 ?_
  obtain ⟨w41, ew41, h⟩ := bd_1 h
  refine s_topJ ew41 ?_
  refine s_lstore (pc := 133) (lc' := [some (vr v0), none, some (vi v2), some (vi v3), some (vi v4), some (vl v5), none, some (vi v7), some (vl w41), none, some (vi v10)]) d_X7_open_133 (by decide) rfl ?_
  obtain ⟨w42, ew42, h⟩ := bd_1 h
  refine s_iinc (pc := 135) (v := w42) (lc' := [some (vr v0), none, some (vi v2), some (vi v3), some (vi v4), some (vl v5), none, some (vi v7), some (vl w41), none, some (vi w42)]) d_X7_open_135 rfl (by rw [ew42]; rfl) (by decide) rfl ?_
  refine s_goto (pc := 138) (tgt := 75) d_X7_open_138 (by decide) ?_
  exact hk75 _ _ _ h
set_option maxHeartbeats 4000000 in
set_option maxRecDepth 20000 in
theorem t_X7_open_b148 {l : Launch} {G : Gl} {n : Nat} {sh : Sh} {x : Int32 × Mu} {k43 : Int64 → Int32 → Mu → Option (Int32 × Mu)} {v0 : Nat} {v2 : Int32} {v3 : Int32} {v4 : Int32} {v5 : Int64} {v7 : Int32} {μ : Mu} (hk43 : ∀ (v5 : Int64) (v7 : Int32) (μ : Mu), k43 v5 v7 μ = some x → Sj l G (QI G n sh x) c_X7_open n sh 0 0 μ 43 [some (vr v0), none, some (vi v2), some (vi v3), some (vi v4), some (vl v5), none, some (vi v7), none, none, none] []) (h : m_X7_open_b148 sh k43 v0 v2 v3 v4 v5 v7 μ = some x) : Sj l G (QI G n sh x) c_X7_open n sh 0 0 μ 148 [some (vr v0), none, some (vi v2), some (vi v3), some (vi v4), some (vl v5), none, some (vi v7), none, none, none] [] := by
  unfold m_X7_open_b148 at h
  obtain ⟨w25, ew25, h⟩ := bd_1 h
  refine s_iinc (pc := 148) (v := w25) (lc' := [some (vr v0), none, some (vi v2), some (vi v3), some (vi v4), some (vl v5), none, some (vi w25), none, none, none]) d_X7_open_148 rfl (by rw [ew25]; rfl) (by decide) rfl ?_
  refine s_goto (pc := 151) (tgt := 43) d_X7_open_151 (by decide) ?_
  exact hk43 _ _ _ h
set_option maxHeartbeats 4000000 in
set_option maxRecDepth 20000 in
theorem t_X7_open_b141 {l : Launch} {G : Gl} {n : Nat} {sh : Sh} {x : Int32 × Mu} {k43 : Int64 → Int32 → Mu → Option (Int32 × Mu)} {v0 : Nat} {v2 : Int32} {v3 : Int32} {v4 : Int32} {v5 : Int64} {v7 : Int32} {v8 : Int64} {μ : Mu} (hk43 : ∀ (v5 : Int64) (v7 : Int32) (μ : Mu), k43 v5 v7 μ = some x → Sj l G (QI G n sh x) c_X7_open n sh 0 0 μ 43 [some (vr v0), none, some (vi v2), some (vi v3), some (vi v4), some (vl v5), none, some (vi v7), none, none, none] []) (h : m_X7_open_b141 sh k43 v0 v2 v3 v4 v5 v7 v8 μ = some x) : Sj l G (QI G n sh x) c_X7_open n sh 0 0 μ 141 [some (vr v0), none, some (vi v2), some (vi v3), some (vi v4), some (vl v5), none, some (vi v7), some (vl v8), none, none] [] := by
  unfold m_X7_open_b141 at h
  refine s_lload (pc := 141) d_X7_open_141 rfl ?_
  refine s_lload (pc := 143) d_X7_open_143 rfl ?_
  refine s_ladd (pc := 145) d_X7_open_145 ?_
  obtain ⟨w40, ew40, h⟩ := bd_1 h
  refine s_topJ ew40 ?_
  refine s_lstore (pc := 146) (lc' := [some (vr v0), none, some (vi v2), some (vi v3), some (vi v4), some (vl w40), none, some (vi v7), some (vl v8), none, none]) d_X7_open_146 (by decide) rfl ?_
  refine s_mask [true, true, true, true, true, true, true, true, false, true, true] rfl ?_
  exact t_X7_open_b148 hk43 h
set_option maxHeartbeats 4000000 in
set_option maxRecDepth 20000 in
theorem t_X7_open_b75 {l : Launch} {G : Gl} {n : Nat} {sh : Sh} {x : Int32 × Mu} {k43 : Int64 → Int32 → Mu → Option (Int32 × Mu)} {k75 : Int64 → Int32 → Mu → Option (Int32 × Mu)} {v0 : Nat} {v2 : Int32} {v3 : Int32} {v4 : Int32} {v5 : Int64} {v7 : Int32} {v8 : Int64} {v10 : Int32} {μ : Mu} (hk43 : ∀ (v5 : Int64) (v7 : Int32) (μ : Mu), k43 v5 v7 μ = some x → Sj l G (QI G n sh x) c_X7_open n sh 0 0 μ 43 [some (vr v0), none, some (vi v2), some (vi v3), some (vi v4), some (vl v5), none, some (vi v7), none, none, none] []) (hk75 : ∀ (v8 : Int64) (v10 : Int32) (μ : Mu), k75 v8 v10 μ = some x → Sj l G (QI G n sh x) c_X7_open n sh 0 0 μ 75 [some (vr v0), none, some (vi v2), some (vi v3), some (vi v4), some (vl v5), none, some (vi v7), some (vl v8), none, some (vi v10)] []) (h : m_X7_open_b75 sh k43 k75 v0 v2 v3 v4 v5 v7 v8 v10 μ = some x) : Sj l G (QI G n sh x) c_X7_open n sh 0 0 μ 75 [some (vr v0), none, some (vi v2), some (vi v3), some (vi v4), some (vl v5), none, some (vi v7), some (vl v8), none, some (vi v10)] [] := by
  unfold m_X7_open_b75 at h
  refine s_iload (pc := 75) d_X7_open_75 rfl ?_
  refine s_aload_n (pc := 77) d_X7_open_77 rfl rfl ?_
  obtain ⟨g26, h⟩ := gd_1 h
  refine s_getI (pc := 78) (k := 6) cl_7 d_X7_open_78 g26 (by decide) w_666 rfl ?_
  refine s_icmp_ge (pc := 81) (tgt := 141) d_X7_open_81 (by decide) (fun c27 => ?_) (fun c27 => ?_)
  · have h := it_t c27 h
    refine s_mask [true, true, true, true, true, true, true, true, true, true, false] rfl ?_
    exact t_X7_open_b141 hk43 h
  · have h := it_f c27 h
    refine s_lload (pc := 84) d_X7_open_84 rfl ?_
    refine s_iload (pc := 86) d_X7_open_86 rfl ?_
    refine s_iload (pc := 88) d_X7_open_88 rfl ?_
    obtain ⟨r28, μ29, er28, h⟩ := ca2_1 h
    refine s_callS (pc := 90) (as := [vi v4, vi v10]) (st := [vl v8]) (vo := [vi r28]) (t_X7_has er28) d_X7_open_90 y_X7_has w_903 w_904 ⟨by decide, by decide⟩ ⟨Nat.le_of_ble_eq_true rfl, Nat.le_of_ble_eq_true rfl⟩ (Nat.le_of_ble_eq_true rfl) rfl rfl rfl ?_
    refine s_as (kc' := 0) (js' := 0) (pc' := 93) (st' := [vi r28, vl v8]) ⟨rfl, rfl, rfl, rfl⟩ ?_
    refine s_if_ne (pc := 93) (tgt := 100) d_X7_open_93 (by decide) (fun c30 => ?_) (fun c30 => ?_)
    · have h := it_f c30 h
      refine s_iload (pc := 100) d_X7_open_100 rfl ?_
      refine s_iload (pc := 102) d_X7_open_102 rfl ?_
      obtain ⟨r31, μ32, er31, h⟩ := ca2_1 h
      refine s_callS (pc := 104) (as := [vi v7, vi v10]) (st := [vl v8]) (vo := [vi r31]) (t_X7_has er31) d_X7_open_104 y_X7_has w_903 w_904 ⟨by decide, by decide⟩ ⟨Nat.le_of_ble_eq_true rfl, Nat.le_of_ble_eq_true rfl⟩ (Nat.le_of_ble_eq_true rfl) rfl rfl rfl ?_
      refine s_as (kc' := 0) (js' := 0) (pc' := 107) (st' := [vi r31, vl v8]) ⟨rfl, rfl, rfl, rfl⟩ ?_
      refine s_if_eq (pc := 107) (tgt := 124) d_X7_open_107 (by decide) (fun c33 => ?_) (fun c33 => ?_)
      · have h := it_t c33 h
        refine s_aload_n (pc := 124) d_X7_open_124 rfl rfl ?_
        refine s_getR (pc := 125) (k := 9) cl_7 d_X7_open_125 g26 (by decide) w_669 (rt_arr _) ?_
        obtain ⟨a34, ea34, h⟩ := bd_1 h
        refine s_topR ea34 ?_
        refine s_iload (pc := 128) d_X7_open_128 rfl ?_
        obtain ⟨g35, h⟩ := gd_1 h
        refine s_iald (pc := 130) d_X7_open_130 g35 ?_
        obtain ⟨w36, ew36, h⟩ := bd_1 h
        refine s_topI ew36 ?_
        refine s_i2l (pc := 131) d_X7_open_131 ?_
        refine s_mask [true, true, true, true, true, true, true, true, false, true, true] rfl ?_
        exact t_X7_open_b132 hk43 hk75 h
      · have h := it_f c33 h
        refine s_bipush (pc := 110) (v := 10) d_X7_open_110 (by decide) ?_
        refine s_aload_n (pc := 112) d_X7_open_112 rfl rfl ?_
        refine s_getR (pc := 113) (k := 9) cl_7 d_X7_open_113 g26 (by decide) w_669 (rt_arr _) ?_
        obtain ⟨a37, ea37, h⟩ := bd_1 h
        refine s_topR ea37 ?_
        refine s_iload (pc := 116) d_X7_open_116 rfl ?_
        obtain ⟨g38, h⟩ := gd_1 h
        refine s_iald (pc := 118) d_X7_open_118 g38 ?_
        obtain ⟨w39, ew39, h⟩ := bd_1 h
        refine s_topI ew39 ?_
        refine s_isub (pc := 119) d_X7_open_119 ?_
        refine s_i2l (pc := 120) d_X7_open_120 ?_
        refine s_goto (pc := 121) (tgt := 132) d_X7_open_121 (by decide) ?_
        refine s_mask [true, true, true, true, true, true, true, true, false, true, true] rfl ?_
        exact t_X7_open_b132 hk43 hk75 h
    · have h := it_t c30 h
      refine s_lconst (pc := 96) (v := 1) d_X7_open_96 (by decide) ?_
      refine s_goto (pc := 97) (tgt := 132) d_X7_open_97 (by decide) ?_
      refine s_mask [true, true, true, true, true, true, true, true, false, true, true] rfl ?_
      exact t_X7_open_b132 hk43 hk75 h
set_option maxHeartbeats 4000000 in
set_option maxRecDepth 20000 in
theorem t_X7_open_h75 {l : Launch} {G : Gl} {n : Nat} {sh : Sh} {x : Int32 × Mu} {k43 : Int64 → Int32 → Mu → Option (Int32 × Mu)} {v0 : Nat} {v2 : Int32} {v3 : Int32} {v4 : Int32} {v5 : Int64} {v7 : Int32} (hk43 : ∀ (v5 : Int64) (v7 : Int32) (μ : Mu), k43 v5 v7 μ = some x → Sj l G (QI G n sh x) c_X7_open n sh 0 0 μ 43 [some (vr v0), none, some (vi v2), some (vi v3), some (vi v4), some (vl v5), none, some (vi v7), none, none, none] []) : ∀ (f : Nat) (v8 : Int64) (v10 : Int32) (μ : Mu), m_X7_open_h75 sh k43 v0 v2 v3 v4 v5 v7 f v8 v10 μ = some x → Sj l G (QI G n sh x) c_X7_open n sh 0 0 μ 75 [some (vr v0), none, some (vi v2), some (vi v3), some (vi v4), some (vl v5), none, some (vi v7), some (vl v8), none, some (vi v10)] [] := by
  intro f
  induction f with
  | zero =>
    intro v8 v10 μ h
    cases h
  | succ f ih =>
    intro v8 v10 μ h
    exact t_X7_open_b75 hk43 ih h
set_option maxHeartbeats 4000000 in
set_option maxRecDepth 20000 in
theorem t_X7_open_b154 {l : Launch} {G : Gl} {n : Nat} {sh : Sh} {x : Int32 × Mu} {v3 : Int32} {v4 : Int32} {v5 : Int64} {μ : Mu} (h : m_X7_open_b154 sh v3 v4 v5 μ = some x) : Sj l G (QI G n sh x) c_X7_open n sh 0 0 μ 154 [none, none, none, some (vi v3), some (vi v4), some (vl v5), none, none, none, none, none] [] := by
  unfold m_X7_open_b154 at h
  refine s_ldc2 (pc := 154) (v := 10) d_X7_open_154 w_868 ?_
  refine s_iload (pc := 157) d_X7_open_157 rfl ?_
  obtain ⟨r16, μ17, er16, h⟩ := ca2_1 h
  refine s_callS (pc := 159) (as := [vi v4]) (st := [vl 10]) (vo := [vi r16]) (t_X7_many er16) d_X7_open_159 y_X7_many w_843 w_844 ⟨by decide, by decide⟩ ⟨Nat.le_of_ble_eq_true rfl, Nat.le_of_ble_eq_true rfl⟩ (Nat.le_of_ble_eq_true rfl) rfl rfl rfl ?_
  refine s_as (kc' := 0) (js' := 0) (pc' := 162) (st' := [vi r16, vl 10]) ⟨rfl, rfl, rfl, rfl⟩ ?_
  obtain ⟨r18, μ19, er18, h⟩ := ca2_1 h
  refine s_callS (pc := 162) (as := [vl 10, vi r16]) (st := []) (vo := [vl r18]) (t_X7_power er18) d_X7_open_162 y_X7_power w_962 w_963 ⟨by decide, by decide⟩ ⟨Nat.le_of_ble_eq_true rfl, Nat.le_of_ble_eq_true rfl⟩ (Nat.le_of_ble_eq_true rfl) rfl rfl rfl ?_
  refine s_as (kc' := 0) (js' := 0) (pc' := 165) (st' := [vl r18]) ⟨rfl, rfl, rfl, rfl⟩ ?_
  refine s_lstore (pc := 165) (lc' := [none, none, none, some (vi v3), some (vi v4), some (vl v5), none, some (vl r18), none, none, none]) d_X7_open_165 (by decide) rfl ?_
  refine s_lload (pc := 167) d_X7_open_167 rfl ?_
  refine s_lload (pc := 169) d_X7_open_169 rfl ?_
  obtain ⟨r20, μ21, er20, h⟩ := ca2_1 h
  refine s_callS (pc := 171) (as := [vl v5, vl r18]) (st := []) (vo := [vl r20]) (t_X7_divisor er20) d_X7_open_171 y_X7_divisor w_966 w_967 ⟨by decide, by decide⟩ ⟨Nat.le_of_ble_eq_true rfl, Nat.le_of_ble_eq_true rfl⟩ (Nat.le_of_ble_eq_true rfl) rfl rfl rfl ?_
  refine s_as (kc' := 0) (js' := 0) (pc' := 174) (st' := [vl r20]) ⟨rfl, rfl, rfl, rfl⟩ ?_
  refine s_lstore (pc := 174) (lc' := [none, none, none, some (vi v3), some (vi v4), some (vl v5), none, some (vl r18), none, some (vl r20), none]) d_X7_open_174 (by decide) rfl ?_
  refine s_iload_n (pc := 176) d_X7_open_176 rfl rfl ?_
  refine s_if_eq (pc := 177) (tgt := 188) d_X7_open_177 (by decide) (fun c22 => ?_) (fun c22 => ?_)
  · have h := it_t c22 h
    refine s_lload (pc := 188) d_X7_open_188 rfl ?_
    refine s_lload (pc := 190) d_X7_open_190 rfl ?_
    obtain ⟨g23, h⟩ := gd_1 h
    refine s_ldiv (pc := 192) d_X7_open_192 (nzJ_eq g23) ?_
    refine s_l2i (pc := 193) d_X7_open_193 ?_
    obtain rfl := Option.some.inj h
    exact s_iret (pc := 194) d_X7_open_194 rfl
  · have h := it_f c22 h
    refine s_lload (pc := 180) d_X7_open_180 rfl ?_
    refine s_lload (pc := 182) d_X7_open_182 rfl ?_
    obtain ⟨g24, h⟩ := gd_1 h
    refine s_ldiv (pc := 184) d_X7_open_184 (nzJ_eq g24) ?_
    refine s_goto (pc := 185) (tgt := 193) d_X7_open_185 (by decide) ?_
    refine s_l2i (pc := 193) d_X7_open_193 ?_
    obtain rfl := Option.some.inj h
    exact s_iret (pc := 194) d_X7_open_194 rfl
set_option maxHeartbeats 4000000 in
set_option maxRecDepth 20000 in
theorem t_X7_open_b43 {l : Launch} {G : Gl} {n : Nat} {sh : Sh} {x : Int32 × Mu} {k43 : Int64 → Int32 → Mu → Option (Int32 × Mu)} {v0 : Nat} {v2 : Int32} {v3 : Int32} {v4 : Int32} {v5 : Int64} {v7 : Int32} {μ : Mu} (hk43 : ∀ (v5 : Int64) (v7 : Int32) (μ : Mu), k43 v5 v7 μ = some x → Sj l G (QI G n sh x) c_X7_open n sh 0 0 μ 43 [some (vr v0), none, some (vi v2), some (vi v3), some (vi v4), some (vl v5), none, some (vi v7), none, none, none] []) (h : m_X7_open_b43 sh k43 v0 v2 v3 v4 v5 v7 μ = some x) : Sj l G (QI G n sh x) c_X7_open n sh 0 0 μ 43 [some (vr v0), none, some (vi v2), some (vi v3), some (vi v4), some (vl v5), none, some (vi v7), none, none, none] [] := by
  unfold m_X7_open_b43 at h
  refine s_iload (pc := 43) d_X7_open_43 rfl ?_
  refine s_bipush (pc := 45) (v := 32) d_X7_open_45 (by decide) ?_
  refine s_icmp_ge (pc := 47) (tgt := 154) d_X7_open_47 (by decide) (fun c11 => ?_) (fun c11 => ?_)
  · have h := it_t c11 h
    refine s_mask [false, true, false, true, true, true, true, false, true, true, true] rfl ?_
    exact t_X7_open_b154 h
  · have h := it_f c11 h
    refine s_iload (pc := 50) d_X7_open_50 rfl ?_
    refine s_iload (pc := 52) d_X7_open_52 rfl ?_
    refine s_iconst (pc := 54) (v := (-1)) d_X7_open_54 (by decide) ?_
    refine s_ixor (pc := 55) d_X7_open_55 ?_
    refine s_iand (pc := 56) d_X7_open_56 ?_
    refine s_if_ne (pc := 57) (tgt := 148) d_X7_open_57 (by decide) (fun c12 => ?_) (fun c12 => ?_)
    · have h := it_f c12 h
      exact t_X7_open_b148 hk43 h
    · have h := it_t c12 h
      refine s_iload (pc := 60) d_X7_open_60 rfl ?_
      obtain ⟨r13, μ14, er13, h⟩ := ca2_1 h
      refine s_callS (pc := 62) (as := [vi v7]) (st := []) (vo := [vi r13]) (t_X7_many er13) d_X7_open_62 y_X7_many w_843 w_844 ⟨by decide, by decide⟩ ⟨Nat.le_of_ble_eq_true rfl, Nat.le_of_ble_eq_true rfl⟩ (Nat.le_of_ble_eq_true rfl) rfl rfl rfl ?_
      refine s_as (kc' := 0) (js' := 0) (pc' := 65) (st' := [vi r13]) ⟨rfl, rfl, rfl, rfl⟩ ?_
      refine s_iload_n (pc := 65) d_X7_open_65 rfl rfl ?_
      refine s_icmp_lt (pc := 66) (tgt := 148) d_X7_open_66 (by decide) (fun c15 => ?_) (fun c15 => ?_)
      · have h := it_t c15 h
        exact t_X7_open_b148 hk43 h
      · have h := it_f c15 h
        refine s_lconst (pc := 69) (v := 1) d_X7_open_69 (by decide) ?_
        refine s_lstore (pc := 70) (lc' := [some (vr v0), none, some (vi v2), some (vi v3), some (vi v4), some (vl v5), none, some (vi v7), some (vl 1), none, none]) d_X7_open_70 (by decide) rfl ?_
        refine s_iconst (pc := 72) (v := 0) d_X7_open_72 (by decide) ?_
        refine s_istore (pc := 73) (lc' := [some (vr v0), none, some (vi v2), some (vi v3), some (vi v4), some (vl v5), none, some (vi v7), some (vl 1), none, some (vi 0)]) d_X7_open_73 (by decide) rfl ?_
        exact t_X7_open_h75 hk43 FU _ _ _ h
set_option maxHeartbeats 4000000 in
set_option maxRecDepth 20000 in
theorem t_X7_open_h43 {l : Launch} {G : Gl} {n : Nat} {sh : Sh} {x : Int32 × Mu} {v0 : Nat} {v2 : Int32} {v3 : Int32} {v4 : Int32} : ∀ (f : Nat) (v5 : Int64) (v7 : Int32) (μ : Mu), m_X7_open_h43 sh v0 v2 v3 v4 f v5 v7 μ = some x → Sj l G (QI G n sh x) c_X7_open n sh 0 0 μ 43 [some (vr v0), none, some (vi v2), some (vi v3), some (vi v4), some (vl v5), none, some (vi v7), none, none, none] [] := by
  intro f
  induction f with
  | zero =>
    intro v5 v7 μ h
    cases h
  | succ f ih =>
    intro v5 v7 μ h
    exact t_X7_open_b43 ih h
set_option maxHeartbeats 4000000 in
set_option maxRecDepth 20000 in
theorem t_X7_open {l : Launch} {G : Gl} {n : Nat} {sh : Sh} {x : Int32 × Mu} {v0 : Nat} {v1 : Int32} {v2 : Int32} {v3 : Int32} {μ : Mu} (h : m_X7_open sh v0 v1 v2 v3 μ = some x) : Ct l G ⟨"StripsOfFourModel", "open", "(IIZ)I"⟩ prog_9_method_58_code 11 (some .int) { frames := 2, cells := 0, slots := 0, locals := 46 } n sh μ [vr v0, vi v1, vi v2, vi v3] (some (.int x.1)) n sh x.2 := by
  refine Ct.of (lc := [some (vr v0), some (vi v1), some (vi v2), some (vi v3), none, none, none, none, none, none, none]) (by decide +kernel) (Nat.le_of_ble_eq_true rfl) rfl ?_
  show Sj l G (QI G n sh x) c_X7_open n sh 0 0 μ 0 [some (vr v0), some (vi v1), some (vi v2), some (vi v3), none, none, none, none, none, none, none] []
  unfold m_X7_open at h
  refine s_aload_n (pc := 0) d_X7_open_0 rfl rfl ?_
  refine s_iconst (pc := 1) (v := 0) d_X7_open_1 (by decide) ?_
  obtain ⟨g1, h⟩ := gd_1 h
  refine s_putI (pc := 2) (k := 0) cl_7 d_X7_open_2 g1 (by decide) w_660 rfl rfl ?_
  obtain ⟨μ2, eμ2, h⟩ := bd_1 h
  refine s_mu eμ2 ?_
  refine s_aload_n (pc := 5) d_X7_open_5 rfl rfl ?_
  refine s_iload_n (pc := 6) d_X7_open_6 rfl rfl ?_
  obtain ⟨r3, μ4, er3, h⟩ := ca2_1 h
  refine s_callV (pc := 7) (as := [vi v1]) (st := []) (vo := [vi r3]) (t_X7_noBooth er3) cl_7 g1 d_X7_open_7 y_X7_noBooth w_797 w_799 w_s16 ⟨by decide, by decide⟩ ⟨Nat.le_of_ble_eq_true rfl, Nat.le_of_ble_eq_true rfl⟩ (Nat.le_of_ble_eq_true rfl) rfl rfl rfl ?_
  refine s_as (kc' := 0) (js' := 0) (pc' := 10) (st' := [vi r3]) ⟨rfl, rfl, rfl, rfl⟩ ?_
  refine s_if_eq (pc := 10) (tgt := 15) d_X7_open_10 (by decide) (fun c5 => ?_) (fun c5 => ?_)
  · have h := it_t c5 h
    refine s_iload_n (pc := 15) d_X7_open_15 rfl rfl ?_
    refine s_i2l (pc := 16) d_X7_open_16 ?_
    refine s_lconst (pc := 17) (v := 0) d_X7_open_17 (by decide) ?_
    refine s_ldc2 (pc := 18) (v := 5) d_X7_open_18 w_973 ?_
    obtain ⟨r6, μ7, er6, h⟩ := ca2_1 h
    refine s_callS (pc := 21) (as := [vl (v2.toInt64), vl 0, vl 5]) (st := []) (vo := [vi r6]) (t_X7_in er6) d_X7_open_21 y_X7_in w_754 w_755 ⟨by decide, by decide⟩ ⟨Nat.le_of_ble_eq_true rfl, Nat.le_of_ble_eq_true rfl⟩ (Nat.le_of_ble_eq_true rfl) rfl rfl rfl ?_
    refine s_as (kc' := 0) (js' := 0) (pc' := 24) (st' := [vi r6]) ⟨rfl, rfl, rfl, rfl⟩ ?_
    refine s_if_ne (pc := 24) (tgt := 30) d_X7_open_24 (by decide) (fun c8 => ?_) (fun c8 => ?_)
    · have h := it_f c8 h
      refine s_aload_n (pc := 30) d_X7_open_30 rfl rfl ?_
      refine s_iload_n (pc := 31) d_X7_open_31 rfl rfl ?_
      obtain ⟨r9, μ10, er9, h⟩ := ca2_1 h
      refine s_callV (pc := 32) (as := [vi v1]) (st := []) (vo := [vi r9]) (t_X7_inOf er9) cl_7 g1 d_X7_open_32 y_X7_inOf w_805 w_807 w_s18 ⟨by decide, by decide⟩ ⟨Nat.le_of_ble_eq_true rfl, Nat.le_of_ble_eq_true rfl⟩ (Nat.le_of_ble_eq_true rfl) rfl rfl rfl ?_
      refine s_as (kc' := 0) (js' := 0) (pc' := 35) (st' := [vi r9]) ⟨rfl, rfl, rfl, rfl⟩ ?_
      refine s_istore (pc := 35) (lc' := [some (vr v0), some (vi v1), some (vi v2), some (vi v3), some (vi r9), none, none, none, none, none, none]) d_X7_open_35 (by decide) rfl ?_
      refine s_lconst (pc := 37) (v := 0) d_X7_open_37 (by decide) ?_
      refine s_lstore (pc := 38) (lc' := [some (vr v0), some (vi v1), some (vi v2), some (vi v3), some (vi r9), some (vl 0), none, none, none, none, none]) d_X7_open_38 (by decide) rfl ?_
      refine s_iconst (pc := 40) (v := 0) d_X7_open_40 (by decide) ?_
      refine s_istore (pc := 41) (lc' := [some (vr v0), some (vi v1), some (vi v2), some (vi v3), some (vi r9), some (vl 0), none, some (vi 0), none, none, none]) d_X7_open_41 (by decide) rfl ?_
      refine s_mask [true, false, true, true, true, true, true, true, true, true, true] rfl ?_
      exact t_X7_open_h43 FU _ _ _ h
    · have h := it_t c8 h
      refine s_bipush (pc := 27) (v := (-2)) d_X7_open_27 (by decide) ?_
      obtain rfl := Option.some.inj h
      exact s_iret (pc := 29) d_X7_open_29 rfl
  · have h := it_f c5 h
    refine s_iconst (pc := 13) (v := (-1)) d_X7_open_13 (by decide) ?_
    obtain rfl := Option.some.inj h
    exact s_iret (pc := 14) d_X7_open_14 rfl
/-! StripsOfFourModel.fits -/
abbrev c_X7_fits : Cf := (prog_9_method_45_code, 6, "StripsOfFourModel", "fits", (some .boolean), { frames := 2, cells := 0, slots := 0, locals := 45 })
theorem d_X7_fits_0 : decode prog_9_method_45_code 0 = .ok (.iconst 1, 1) := by decide +kernel
theorem d_X7_fits_1 : decode prog_9_method_45_code 1 = .ok (.istore_n 3, 1) := by decide +kernel
theorem d_X7_fits_2 : decode prog_9_method_45_code 2 = .ok (.iconst 0, 1) := by decide +kernel
theorem d_X7_fits_3 : decode prog_9_method_45_code 3 = .ok (.istore 4, 2) := by decide +kernel
theorem d_X7_fits_5 : decode prog_9_method_45_code 5 = .ok (.iload 4, 2) := by decide +kernel
theorem d_X7_fits_7 : decode prog_9_method_45_code 7 = .ok (.iload_n 1, 1) := by decide +kernel
theorem d_X7_fits_8 : decode prog_9_method_45_code 8 = .ok (.if_icmp .ge 30, 3) := by decide +kernel
theorem d_X7_fits_11 : decode prog_9_method_45_code 11 = .ok (.iload_n 3, 1) := by decide +kernel
theorem d_X7_fits_12 : decode prog_9_method_45_code 12 = .ok (.ifCond .eq 18, 3) := by decide +kernel
theorem d_X7_fits_15 : decode prog_9_method_45_code 15 = .ok (.aload_n 0, 1) := by decide +kernel
theorem d_X7_fits_16 : decode prog_9_method_45_code 16 = .ok (.getfield 57, 3) := by decide +kernel
theorem d_X7_fits_19 : decode prog_9_method_45_code 19 = .ok (.iload 4, 2) := by decide +kernel
theorem d_X7_fits_21 : decode prog_9_method_45_code 21 = .ok (.iaload, 1) := by decide +kernel
theorem d_X7_fits_22 : decode prog_9_method_45_code 22 = .ok (.iload_n 2, 1) := by decide +kernel
theorem d_X7_fits_23 : decode prog_9_method_45_code 23 = .ok (.if_icmp .eq 7, 3) := by decide +kernel
theorem d_X7_fits_26 : decode prog_9_method_45_code 26 = .ok (.iconst 1, 1) := by decide +kernel
theorem d_X7_fits_27 : decode prog_9_method_45_code 27 = .ok (.goto 4, 3) := by decide +kernel
theorem d_X7_fits_30 : decode prog_9_method_45_code 30 = .ok (.iconst 0, 1) := by decide +kernel
theorem d_X7_fits_31 : decode prog_9_method_45_code 31 = .ok (.istore_n 3, 1) := by decide +kernel
theorem d_X7_fits_32 : decode prog_9_method_45_code 32 = .ok (.iinc 4 1, 3) := by decide +kernel
theorem d_X7_fits_35 : decode prog_9_method_45_code 35 = .ok (.goto (-30), 3) := by decide +kernel
theorem d_X7_fits_38 : decode prog_9_method_45_code 38 = .ok (.iload_n 1, 1) := by decide +kernel
theorem d_X7_fits_39 : decode prog_9_method_45_code 39 = .ok (.ifCond .le 59, 3) := by decide +kernel
theorem d_X7_fits_42 : decode prog_9_method_45_code 42 = .ok (.iload_n 3, 1) := by decide +kernel
theorem d_X7_fits_43 : decode prog_9_method_45_code 43 = .ok (.ifCond .eq 55, 3) := by decide +kernel
theorem d_X7_fits_46 : decode prog_9_method_45_code 46 = .ok (.aload_n 0, 1) := by decide +kernel
theorem d_X7_fits_47 : decode prog_9_method_45_code 47 = .ok (.aload_n 0, 1) := by decide +kernel
theorem d_X7_fits_48 : decode prog_9_method_45_code 48 = .ok (.getfield 57, 3) := by decide +kernel
theorem d_X7_fits_51 : decode prog_9_method_45_code 51 = .ok (.iload_n 1, 1) := by decide +kernel
theorem d_X7_fits_52 : decode prog_9_method_45_code 52 = .ok (.iconst 1, 1) := by decide +kernel
theorem d_X7_fits_53 : decode prog_9_method_45_code 53 = .ok (.isub, 1) := by decide +kernel
theorem d_X7_fits_54 : decode prog_9_method_45_code 54 = .ok (.iaload, 1) := by decide +kernel
theorem d_X7_fits_55 : decode prog_9_method_45_code 55 = .ok (.iconst 3, 1) := by decide +kernel
theorem d_X7_fits_56 : decode prog_9_method_45_code 56 = .ok (.iconst 2, 1) := by decide +kernel
theorem d_X7_fits_57 : decode prog_9_method_45_code 57 = .ok (.invokevirtual 141, 3) := by decide +kernel
theorem d_X7_fits_60 : decode prog_9_method_45_code 60 = .ok (.istore 4, 2) := by decide +kernel
theorem d_X7_fits_62 : decode prog_9_method_45_code 62 = .ok (.aload_n 0, 1) := by decide +kernel
theorem d_X7_fits_63 : decode prog_9_method_45_code 63 = .ok (.iload_n 2, 1) := by decide +kernel
theorem d_X7_fits_64 : decode prog_9_method_45_code 64 = .ok (.iconst 0, 1) := by decide +kernel
theorem d_X7_fits_65 : decode prog_9_method_45_code 65 = .ok (.iconst 2, 1) := by decide +kernel
theorem d_X7_fits_66 : decode prog_9_method_45_code 66 = .ok (.invokevirtual 141, 3) := by decide +kernel
theorem d_X7_fits_69 : decode prog_9_method_45_code 69 = .ok (.istore 5, 2) := by decide +kernel
theorem d_X7_fits_71 : decode prog_9_method_45_code 71 = .ok (.iload 4, 2) := by decide +kernel
theorem d_X7_fits_73 : decode prog_9_method_45_code 73 = .ok (.bipush (-9), 2) := by decide +kernel
theorem d_X7_fits_75 : decode prog_9_method_45_code 75 = .ok (.if_icmp .eq 17, 3) := by decide +kernel
theorem d_X7_fits_78 : decode prog_9_method_45_code 78 = .ok (.iload 5, 2) := by decide +kernel
theorem d_X7_fits_80 : decode prog_9_method_45_code 80 = .ok (.bipush (-9), 2) := by decide +kernel
theorem d_X7_fits_82 : decode prog_9_method_45_code 82 = .ok (.if_icmp .eq 10, 3) := by decide +kernel
theorem d_X7_fits_85 : decode prog_9_method_45_code 85 = .ok (.iload 4, 2) := by decide +kernel
theorem d_X7_fits_87 : decode prog_9_method_45_code 87 = .ok (.iload 5, 2) := by decide +kernel
theorem d_X7_fits_89 : decode prog_9_method_45_code 89 = .ok (.if_icmp .ne 7, 3) := by decide +kernel
theorem d_X7_fits_92 : decode prog_9_method_45_code 92 = .ok (.iconst 1, 1) := by decide +kernel
theorem d_X7_fits_93 : decode prog_9_method_45_code 93 = .ok (.goto 4, 3) := by decide +kernel
theorem d_X7_fits_96 : decode prog_9_method_45_code 96 = .ok (.iconst 0, 1) := by decide +kernel
theorem d_X7_fits_97 : decode prog_9_method_45_code 97 = .ok (.istore_n 3, 1) := by decide +kernel
theorem d_X7_fits_98 : decode prog_9_method_45_code 98 = .ok (.iload_n 3, 1) := by decide +kernel
theorem d_X7_fits_99 : decode prog_9_method_45_code 99 = .ok (.ireturn, 1) := by decide +kernel
def m_X7_fits_b31 (sh : Sh) (k5 : Int32 → Int32 → Mu → Option (Int32 × Mu)) (v0 : Nat) (v1 : Int32) (v2 : Int32) (v4 : Int32) (s0 : Int32) (μ : Mu) : Option (Int32 × Mu) :=
  bd (v4 + 1) fun w21 =>
  k5 s0 w21 μ
def m_X7_fits_b30 (sh : Sh) (k5 : Int32 → Int32 → Mu → Option (Int32 × Mu)) (v0 : Nat) (v1 : Int32) (v2 : Int32) (v4 : Int32) (μ : Mu) : Option (Int32 × Mu) :=
  m_X7_fits_b31 sh k5 v0 v1 v2 v4 0 μ
def m_X7_fits_b92 (sh : Sh) (μ : Mu) : Option (Int32 × Mu) :=
  some (1, μ)
def m_X7_fits_b38 (sh : Sh) (v0 : Nat) (v1 : Int32) (v2 : Int32) (v3 : Int32) (μ : Mu) : Option (Int32 × Mu) :=
  if v1 ≤ 0 then
    some (v3 &&& 1, μ)
  else
    if v3 = 0 then
      some (v3 &&& 1, μ)
    else
      gd (iz sh 7 v0) <|
      bd (gR μ v0 26) fun a11 =>
      gd (ix sh 8 a11 (v1 - 1)) <|
      bd (gI μ a11 (v1 - 1).toNatClampNeg) fun w13 =>
      ca2 (m_X7_lookOf sh v0 w13 3 2 μ) fun r14 μ15 =>
      ca2 (m_X7_lookOf sh v0 v2 0 2 μ15) fun r16 μ17 =>
      if r14 = (-9) then
        m_X7_fits_b92 sh μ17
      else
        if r16 = (-9) then
          m_X7_fits_b92 sh μ17
        else
          if r14 = r16 then
            m_X7_fits_b92 sh μ17
          else
            some (0, μ17)
def m_X7_fits_b5 (sh : Sh) (k5 : Int32 → Int32 → Mu → Option (Int32 × Mu)) (v0 : Nat) (v1 : Int32) (v2 : Int32) (v3 : Int32) (v4 : Int32) (μ : Mu) : Option (Int32 × Mu) :=
  if v1 ≤ v4 then
    m_X7_fits_b38 sh v0 v1 v2 v3 μ
  else
    if v3 = 0 then
      m_X7_fits_b30 sh k5 v0 v1 v2 v4 μ
    else
      gd (iz sh 7 v0) <|
      bd (gR μ v0 26) fun a4 =>
      gd (ix sh 8 a4 v4) <|
      bd (gI μ a4 v4.toNatClampNeg) fun w6 =>
      if w6 = v2 then
        m_X7_fits_b30 sh k5 v0 v1 v2 v4 μ
      else
        m_X7_fits_b31 sh k5 v0 v1 v2 v4 1 μ
def m_X7_fits_h5 (sh : Sh) (v0 : Nat) (v1 : Int32) (v2 : Int32) : Nat → Int32 → Int32 → Mu → Option (Int32 × Mu)
  | 0 => fun _ _ _ => none
  | f + 1 => fun v3 v4 μ => m_X7_fits_b5 sh (m_X7_fits_h5 sh v0 v1 v2 f) v0 v1 v2 v3 v4 μ
def m_X7_fits (sh : Sh) (v0 : Nat) (v1 : Int32) (v2 : Int32) (μ : Mu) : Option (Int32 × Mu) :=
  m_X7_fits_h5 sh v0 v1 v2 FU 1 0 μ
set_option maxHeartbeats 4000000 in
set_option maxRecDepth 20000 in
theorem t_X7_fits_b31 {l : Launch} {G : Gl} {n : Nat} {sh : Sh} {x : Int32 × Mu} {k5 : Int32 → Int32 → Mu → Option (Int32 × Mu)} {v0 : Nat} {v1 : Int32} {v2 : Int32} {v4 : Int32} {s0 : Int32} {μ : Mu} (hk5 : ∀ (v3 : Int32) (v4 : Int32) (μ : Mu), k5 v3 v4 μ = some x → Sj l G (QI G n sh x) c_X7_fits n sh 0 0 μ 5 [some (vr v0), some (vi v1), some (vi v2), some (vi v3), some (vi v4), none] []) (h : m_X7_fits_b31 sh k5 v0 v1 v2 v4 s0 μ = some x) : Sj l G (QI G n sh x) c_X7_fits n sh 0 0 μ 31 [some (vr v0), some (vi v1), some (vi v2), none, some (vi v4), none] [vi s0] := by
  unfold m_X7_fits_b31 at h
  refine s_istore_n (pc := 31) (lc' := [some (vr v0), some (vi v1), some (vi v2), some (vi s0), some (vi v4), none]) d_X7_fits_31 rfl (by decide) rfl ?_
  obtain ⟨w21, ew21, h⟩ := bd_1 h
  refine s_iinc (pc := 32) (v := w21) (lc' := [some (vr v0), some (vi v1), some (vi v2), some (vi s0), some (vi w21), none]) d_X7_fits_32 rfl (by rw [ew21]; rfl) (by decide) rfl ?_
  refine s_goto (pc := 35) (tgt := 5) d_X7_fits_35 (by decide) ?_
  exact hk5 _ _ _ h
set_option maxHeartbeats 4000000 in
set_option maxRecDepth 20000 in
theorem t_X7_fits_b30 {l : Launch} {G : Gl} {n : Nat} {sh : Sh} {x : Int32 × Mu} {k5 : Int32 → Int32 → Mu → Option (Int32 × Mu)} {v0 : Nat} {v1 : Int32} {v2 : Int32} {v4 : Int32} {μ : Mu} (hk5 : ∀ (v3 : Int32) (v4 : Int32) (μ : Mu), k5 v3 v4 μ = some x → Sj l G (QI G n sh x) c_X7_fits n sh 0 0 μ 5 [some (vr v0), some (vi v1), some (vi v2), some (vi v3), some (vi v4), none] []) (h : m_X7_fits_b30 sh k5 v0 v1 v2 v4 μ = some x) : Sj l G (QI G n sh x) c_X7_fits n sh 0 0 μ 30 [some (vr v0), some (vi v1), some (vi v2), none, some (vi v4), none] [] := by
  unfold m_X7_fits_b30 at h
  refine s_iconst (pc := 30) (v := 0) d_X7_fits_30 (by decide) ?_
  exact t_X7_fits_b31 hk5 h
set_option maxHeartbeats 4000000 in
set_option maxRecDepth 20000 in
theorem t_X7_fits_b92 {l : Launch} {G : Gl} {n : Nat} {sh : Sh} {x : Int32 × Mu} {μ : Mu} (h : m_X7_fits_b92 sh μ = some x) : Sj l G (QI G n sh x) c_X7_fits n sh 0 0 μ 92 [none, none, none, none, none, none] [] := by
  unfold m_X7_fits_b92 at h
  refine s_iconst (pc := 92) (v := 1) d_X7_fits_92 (by decide) ?_
  refine s_goto (pc := 93) (tgt := 97) d_X7_fits_93 (by decide) ?_
  refine s_istore_n (pc := 97) (lc' := [none, none, none, some (vi 1), none, none]) d_X7_fits_97 rfl (by decide) rfl ?_
  refine s_iload_n (pc := 98) d_X7_fits_98 rfl rfl ?_
  obtain rfl := Option.some.inj h
  exact s_zret0 (pc := 99) rfl d_X7_fits_99 rfl
set_option maxHeartbeats 4000000 in
set_option maxRecDepth 20000 in
theorem t_X7_fits_b38 {l : Launch} {G : Gl} {n : Nat} {sh : Sh} {x : Int32 × Mu} {v0 : Nat} {v1 : Int32} {v2 : Int32} {v3 : Int32} {μ : Mu} (h : m_X7_fits_b38 sh v0 v1 v2 v3 μ = some x) : Sj l G (QI G n sh x) c_X7_fits n sh 0 0 μ 38 [some (vr v0), some (vi v1), some (vi v2), some (vi v3), none, none] [] := by
  unfold m_X7_fits_b38 at h
  refine s_iload_n (pc := 38) d_X7_fits_38 rfl rfl ?_
  refine s_if_le (pc := 39) (tgt := 98) d_X7_fits_39 (by decide) (fun c8 => ?_) (fun c8 => ?_)
  · have h := it_t c8 h
    refine s_iload_n (pc := 98) d_X7_fits_98 rfl rfl ?_
    obtain rfl := Option.some.inj h
    exact s_zret (pc := 99) d_X7_fits_99 rfl
  · have h := it_f c8 h
    refine s_iload_n (pc := 42) d_X7_fits_42 rfl rfl ?_
    refine s_if_eq (pc := 43) (tgt := 98) d_X7_fits_43 (by decide) (fun c9 => ?_) (fun c9 => ?_)
    · have h := it_t c9 h
      refine s_iload_n (pc := 98) d_X7_fits_98 rfl rfl ?_
      obtain rfl := Option.some.inj h
      exact s_zret (pc := 99) d_X7_fits_99 rfl
    · have h := it_f c9 h
      refine s_aload_n (pc := 46) d_X7_fits_46 rfl rfl ?_
      refine s_aload_n (pc := 47) d_X7_fits_47 rfl rfl ?_
      obtain ⟨g10, h⟩ := gd_1 h
      refine s_getR (pc := 48) (k := 26) cl_7 d_X7_fits_48 g10 (by decide) w_686 (rt_arr _) ?_
      obtain ⟨a11, ea11, h⟩ := bd_1 h
      refine s_topR ea11 ?_
      refine s_iload_n (pc := 51) d_X7_fits_51 rfl rfl ?_
      refine s_iconst (pc := 52) (v := 1) d_X7_fits_52 (by decide) ?_
      refine s_isub (pc := 53) d_X7_fits_53 ?_
      obtain ⟨g12, h⟩ := gd_1 h
      refine s_iald (pc := 54) d_X7_fits_54 g12 ?_
      obtain ⟨w13, ew13, h⟩ := bd_1 h
      refine s_topI ew13 ?_
      refine s_iconst (pc := 55) (v := 3) d_X7_fits_55 (by decide) ?_
      refine s_iconst (pc := 56) (v := 2) d_X7_fits_56 (by decide) ?_
      obtain ⟨r14, μ15, er14, h⟩ := ca2_1 h
      refine s_callV (pc := 57) (as := [vi w13, vi 3, vi 2]) (st := []) (vo := [vi r14]) (t_X7_lookOf er14) cl_7 g10 d_X7_fits_57 y_X7_lookOf w_826 w_828 w_s21 ⟨by decide, by decide⟩ ⟨Nat.le_of_ble_eq_true rfl, Nat.le_of_ble_eq_true rfl⟩ (Nat.le_of_ble_eq_true rfl) rfl rfl rfl ?_
      refine s_as (kc' := 0) (js' := 0) (pc' := 60) (st' := [vi r14]) ⟨rfl, rfl, rfl, rfl⟩ ?_
      refine s_istore (pc := 60) (lc' := [some (vr v0), some (vi v1), some (vi v2), some (vi v3), some (vi r14), none]) d_X7_fits_60 (by decide) rfl ?_
      refine s_aload_n (pc := 62) d_X7_fits_62 rfl rfl ?_
      refine s_iload_n (pc := 63) d_X7_fits_63 rfl rfl ?_
      refine s_iconst (pc := 64) (v := 0) d_X7_fits_64 (by decide) ?_
      refine s_iconst (pc := 65) (v := 2) d_X7_fits_65 (by decide) ?_
      obtain ⟨r16, μ17, er16, h⟩ := ca2_1 h
      refine s_callV (pc := 66) (as := [vi v2, vi 0, vi 2]) (st := []) (vo := [vi r16]) (t_X7_lookOf er16) cl_7 g10 d_X7_fits_66 y_X7_lookOf w_826 w_828 w_s21 ⟨by decide, by decide⟩ ⟨Nat.le_of_ble_eq_true rfl, Nat.le_of_ble_eq_true rfl⟩ (Nat.le_of_ble_eq_true rfl) rfl rfl rfl ?_
      refine s_as (kc' := 0) (js' := 0) (pc' := 69) (st' := [vi r16]) ⟨rfl, rfl, rfl, rfl⟩ ?_
      refine s_istore (pc := 69) (lc' := [some (vr v0), some (vi v1), some (vi v2), some (vi v3), some (vi r14), some (vi r16)]) d_X7_fits_69 (by decide) rfl ?_
      refine s_iload (pc := 71) d_X7_fits_71 rfl ?_
      refine s_bipush (pc := 73) (v := (-9)) d_X7_fits_73 (by decide) ?_
      refine s_icmp_eq (pc := 75) (tgt := 92) d_X7_fits_75 (by decide) (fun c18 => ?_) (fun c18 => ?_)
      · have h := it_t c18 h
        refine s_mask [false, false, false, false, false, false] rfl ?_
        exact t_X7_fits_b92 h
      · have h := it_f c18 h
        refine s_iload (pc := 78) d_X7_fits_78 rfl ?_
        refine s_bipush (pc := 80) (v := (-9)) d_X7_fits_80 (by decide) ?_
        refine s_icmp_eq (pc := 82) (tgt := 92) d_X7_fits_82 (by decide) (fun c19 => ?_) (fun c19 => ?_)
        · have h := it_t c19 h
          refine s_mask [false, false, false, false, false, false] rfl ?_
          exact t_X7_fits_b92 h
        · have h := it_f c19 h
          refine s_iload (pc := 85) d_X7_fits_85 rfl ?_
          refine s_iload (pc := 87) d_X7_fits_87 rfl ?_
          refine s_icmp_ne (pc := 89) (tgt := 96) d_X7_fits_89 (by decide) (fun c20 => ?_) (fun c20 => ?_)
          · have h := it_f c20 h
            refine s_iconst (pc := 96) (v := 0) d_X7_fits_96 (by decide) ?_
            refine s_istore_n (pc := 97) (lc' := [some (vr v0), some (vi v1), some (vi v2), some (vi 0), some (vi r14), some (vi r16)]) d_X7_fits_97 rfl (by decide) rfl ?_
            refine s_iload_n (pc := 98) d_X7_fits_98 rfl rfl ?_
            obtain rfl := Option.some.inj h
            exact s_zret0 (pc := 99) rfl d_X7_fits_99 rfl
          · have h := it_t c20 h
            refine s_mask [false, false, false, false, false, false] rfl ?_
            exact t_X7_fits_b92 h
set_option maxHeartbeats 4000000 in
set_option maxRecDepth 20000 in
theorem t_X7_fits_b5 {l : Launch} {G : Gl} {n : Nat} {sh : Sh} {x : Int32 × Mu} {k5 : Int32 → Int32 → Mu → Option (Int32 × Mu)} {v0 : Nat} {v1 : Int32} {v2 : Int32} {v3 : Int32} {v4 : Int32} {μ : Mu} (hk5 : ∀ (v3 : Int32) (v4 : Int32) (μ : Mu), k5 v3 v4 μ = some x → Sj l G (QI G n sh x) c_X7_fits n sh 0 0 μ 5 [some (vr v0), some (vi v1), some (vi v2), some (vi v3), some (vi v4), none] []) (h : m_X7_fits_b5 sh k5 v0 v1 v2 v3 v4 μ = some x) : Sj l G (QI G n sh x) c_X7_fits n sh 0 0 μ 5 [some (vr v0), some (vi v1), some (vi v2), some (vi v3), some (vi v4), none] [] := by
  unfold m_X7_fits_b5 at h
  refine s_iload (pc := 5) d_X7_fits_5 rfl ?_
  refine s_iload_n (pc := 7) d_X7_fits_7 rfl rfl ?_
  refine s_icmp_ge (pc := 8) (tgt := 38) d_X7_fits_8 (by decide) (fun c1 => ?_) (fun c1 => ?_)
  · have h := it_t c1 h
    refine s_mask [true, true, true, true, false, true] rfl ?_
    exact t_X7_fits_b38 h
  · have h := it_f c1 h
    refine s_iload_n (pc := 11) d_X7_fits_11 rfl rfl ?_
    refine s_if_eq (pc := 12) (tgt := 30) d_X7_fits_12 (by decide) (fun c2 => ?_) (fun c2 => ?_)
    · have h := it_t c2 h
      refine s_mask [true, true, true, false, true, true] rfl ?_
      exact t_X7_fits_b30 hk5 h
    · have h := it_f c2 h
      refine s_aload_n (pc := 15) d_X7_fits_15 rfl rfl ?_
      obtain ⟨g3, h⟩ := gd_1 h
      refine s_getR (pc := 16) (k := 26) cl_7 d_X7_fits_16 g3 (by decide) w_686 (rt_arr _) ?_
      obtain ⟨a4, ea4, h⟩ := bd_1 h
      refine s_topR ea4 ?_
      refine s_iload (pc := 19) d_X7_fits_19 rfl ?_
      obtain ⟨g5, h⟩ := gd_1 h
      refine s_iald (pc := 21) d_X7_fits_21 g5 ?_
      obtain ⟨w6, ew6, h⟩ := bd_1 h
      refine s_topI ew6 ?_
      refine s_iload_n (pc := 22) d_X7_fits_22 rfl rfl ?_
      refine s_icmp_eq (pc := 23) (tgt := 30) d_X7_fits_23 (by decide) (fun c7 => ?_) (fun c7 => ?_)
      · have h := it_t c7 h
        refine s_mask [true, true, true, false, true, true] rfl ?_
        exact t_X7_fits_b30 hk5 h
      · have h := it_f c7 h
        refine s_iconst (pc := 26) (v := 1) d_X7_fits_26 (by decide) ?_
        refine s_goto (pc := 27) (tgt := 31) d_X7_fits_27 (by decide) ?_
        refine s_mask [true, true, true, false, true, true] rfl ?_
        exact t_X7_fits_b31 hk5 h
set_option maxHeartbeats 4000000 in
set_option maxRecDepth 20000 in
theorem t_X7_fits_h5 {l : Launch} {G : Gl} {n : Nat} {sh : Sh} {x : Int32 × Mu} {v0 : Nat} {v1 : Int32} {v2 : Int32} : ∀ (f : Nat) (v3 : Int32) (v4 : Int32) (μ : Mu), m_X7_fits_h5 sh v0 v1 v2 f v3 v4 μ = some x → Sj l G (QI G n sh x) c_X7_fits n sh 0 0 μ 5 [some (vr v0), some (vi v1), some (vi v2), some (vi v3), some (vi v4), none] [] := by
  intro f
  induction f with
  | zero =>
    intro v3 v4 μ h
    cases h
  | succ f ih =>
    intro v3 v4 μ h
    exact t_X7_fits_b5 ih h
set_option maxHeartbeats 4000000 in
set_option maxRecDepth 20000 in
theorem t_X7_fits {l : Launch} {G : Gl} {n : Nat} {sh : Sh} {x : Int32 × Mu} {v0 : Nat} {v1 : Int32} {v2 : Int32} {μ : Mu} (h : m_X7_fits sh v0 v1 v2 μ = some x) : Ct l G ⟨"StripsOfFourModel", "fits", "(II)Z"⟩ prog_9_method_45_code 6 (some .boolean) { frames := 2, cells := 0, slots := 0, locals := 45 } n sh μ [vr v0, vi v1, vi v2] (some (.int x.1)) n sh x.2 := by
  refine Ct.of (lc := [some (vr v0), some (vi v1), some (vi v2), none, none, none]) (by decide +kernel) (Nat.le_of_ble_eq_true rfl) rfl ?_
  show Sj l G (QI G n sh x) c_X7_fits n sh 0 0 μ 0 [some (vr v0), some (vi v1), some (vi v2), none, none, none] []
  unfold m_X7_fits at h
  refine s_iconst (pc := 0) (v := 1) d_X7_fits_0 (by decide) ?_
  refine s_istore_n (pc := 1) (lc' := [some (vr v0), some (vi v1), some (vi v2), some (vi 1), none, none]) d_X7_fits_1 rfl (by decide) rfl ?_
  refine s_iconst (pc := 2) (v := 0) d_X7_fits_2 (by decide) ?_
  refine s_istore (pc := 3) (lc' := [some (vr v0), some (vi v1), some (vi v2), some (vi 1), some (vi 0), none]) d_X7_fits_3 (by decide) rfl ?_
  exact t_X7_fits_h5 FU _ _ _ h
/-! StripsOfFourModel.layOrders -/
abbrev c_X7_layOrders : Cf := (prog_9_method_44_code, 5, "StripsOfFourModel", "layOrders", none, { frames := 3, cells := 0, slots := 0, locals := 70 })
theorem d_X7_layOrders_0 : decode prog_9_method_44_code 0 = .ok (.aload_n 0, 1) := by decide +kernel
theorem d_X7_layOrders_1 : decode prog_9_method_44_code 1 = .ok (.getfield 31, 3) := by decide +kernel
theorem d_X7_layOrders_4 : decode prog_9_method_44_code 4 = .ok (.sipush 202, 3) := by decide +kernel
theorem d_X7_layOrders_7 : decode prog_9_method_44_code 7 = .ok (.iaload, 1) := by decide +kernel
theorem d_X7_layOrders_8 : decode prog_9_method_44_code 8 = .ok (.istore_n 1, 1) := by decide +kernel
theorem d_X7_layOrders_9 : decode prog_9_method_44_code 9 = .ok (.aload_n 0, 1) := by decide +kernel
theorem d_X7_layOrders_10 : decode prog_9_method_44_code 10 = .ok (.iconst 0, 1) := by decide +kernel
theorem d_X7_layOrders_11 : decode prog_9_method_44_code 11 = .ok (.putfield 184, 3) := by decide +kernel
theorem d_X7_layOrders_14 : decode prog_9_method_44_code 14 = .ok (.iconst 0, 1) := by decide +kernel
theorem d_X7_layOrders_15 : decode prog_9_method_44_code 15 = .ok (.istore_n 2, 1) := by decide +kernel
theorem d_X7_layOrders_16 : decode prog_9_method_44_code 16 = .ok (.iload_n 2, 1) := by decide +kernel
theorem d_X7_layOrders_17 : decode prog_9_method_44_code 17 = .ok (.bipush 6, 2) := by decide +kernel
theorem d_X7_layOrders_19 : decode prog_9_method_44_code 19 = .ok (.if_icmp .ge 16, 3) := by decide +kernel
theorem d_X7_layOrders_22 : decode prog_9_method_44_code 22 = .ok (.aload_n 0, 1) := by decide +kernel
theorem d_X7_layOrders_23 : decode prog_9_method_44_code 23 = .ok (.getfield 60, 3) := by decide +kernel
theorem d_X7_layOrders_26 : decode prog_9_method_44_code 26 = .ok (.iload_n 2, 1) := by decide +kernel
theorem d_X7_layOrders_27 : decode prog_9_method_44_code 27 = .ok (.iconst 0, 1) := by decide +kernel
theorem d_X7_layOrders_28 : decode prog_9_method_44_code 28 = .ok (.iastore, 1) := by decide +kernel
theorem d_X7_layOrders_29 : decode prog_9_method_44_code 29 = .ok (.iinc 2 1, 3) := by decide +kernel
theorem d_X7_layOrders_32 : decode prog_9_method_44_code 32 = .ok (.goto (-16), 3) := by decide +kernel
theorem d_X7_layOrders_35 : decode prog_9_method_44_code 35 = .ok (.iload_n 1, 1) := by decide +kernel
theorem d_X7_layOrders_36 : decode prog_9_method_44_code 36 = .ok (.ifCond .ne 9, 3) := by decide +kernel
theorem d_X7_layOrders_39 : decode prog_9_method_44_code 39 = .ok (.aload_n 0, 1) := by decide +kernel
theorem d_X7_layOrders_40 : decode prog_9_method_44_code 40 = .ok (.iconst 1, 1) := by decide +kernel
theorem d_X7_layOrders_41 : decode prog_9_method_44_code 41 = .ok (.putfield 184, 3) := by decide +kernel
theorem d_X7_layOrders_44 : decode prog_9_method_44_code 44 = .ok (.return_, 1) := by decide +kernel
theorem d_X7_layOrders_45 : decode prog_9_method_44_code 45 = .ok (.iconst 0, 1) := by decide +kernel
theorem d_X7_layOrders_46 : decode prog_9_method_44_code 46 = .ok (.istore_n 2, 1) := by decide +kernel
theorem d_X7_layOrders_47 : decode prog_9_method_44_code 47 = .ok (.aload_n 0, 1) := by decide +kernel
theorem d_X7_layOrders_48 : decode prog_9_method_44_code 48 = .ok (.getfield 57, 3) := by decide +kernel
theorem d_X7_layOrders_51 : decode prog_9_method_44_code 51 = .ok (.iconst 0, 1) := by decide +kernel
theorem d_X7_layOrders_52 : decode prog_9_method_44_code 52 = .ok (.bipush (-9), 2) := by decide +kernel
theorem d_X7_layOrders_54 : decode prog_9_method_44_code 54 = .ok (.iastore, 1) := by decide +kernel
theorem d_X7_layOrders_55 : decode prog_9_method_44_code 55 = .ok (.iload_n 2, 1) := by decide +kernel
theorem d_X7_layOrders_56 : decode prog_9_method_44_code 56 = .ok (.ifCond .lt 133, 3) := by decide +kernel
theorem d_X7_layOrders_59 : decode prog_9_method_44_code 59 = .ok (.aload_n 0, 1) := by decide +kernel
theorem d_X7_layOrders_60 : decode prog_9_method_44_code 60 = .ok (.getfield 57, 3) := by decide +kernel
theorem d_X7_layOrders_63 : decode prog_9_method_44_code 63 = .ok (.iload_n 2, 1) := by decide +kernel
theorem d_X7_layOrders_64 : decode prog_9_method_44_code 64 = .ok (.iaload, 1) := by decide +kernel
theorem d_X7_layOrders_65 : decode prog_9_method_44_code 65 = .ok (.bipush (-9), 2) := by decide +kernel
theorem d_X7_layOrders_67 : decode prog_9_method_44_code 67 = .ok (.if_icmp .ne 7, 3) := by decide +kernel
theorem d_X7_layOrders_70 : decode prog_9_method_44_code 70 = .ok (.iconst 0, 1) := by decide +kernel
theorem d_X7_layOrders_71 : decode prog_9_method_44_code 71 = .ok (.goto 11, 3) := by decide +kernel
theorem d_X7_layOrders_74 : decode prog_9_method_44_code 74 = .ok (.aload_n 0, 1) := by decide +kernel
theorem d_X7_layOrders_75 : decode prog_9_method_44_code 75 = .ok (.getfield 57, 3) := by decide +kernel
theorem d_X7_layOrders_78 : decode prog_9_method_44_code 78 = .ok (.iload_n 2, 1) := by decide +kernel
theorem d_X7_layOrders_79 : decode prog_9_method_44_code 79 = .ok (.iaload, 1) := by decide +kernel
theorem d_X7_layOrders_80 : decode prog_9_method_44_code 80 = .ok (.iconst 1, 1) := by decide +kernel
theorem d_X7_layOrders_81 : decode prog_9_method_44_code 81 = .ok (.iadd, 1) := by decide +kernel
theorem d_X7_layOrders_82 : decode prog_9_method_44_code 82 = .ok (.istore_n 3, 1) := by decide +kernel
theorem d_X7_layOrders_83 : decode prog_9_method_44_code 83 = .ok (.iload_n 3, 1) := by decide +kernel
theorem d_X7_layOrders_84 : decode prog_9_method_44_code 84 = .ok (.iload_n 1, 1) := by decide +kernel
theorem d_X7_layOrders_85 : decode prog_9_method_44_code 85 = .ok (.if_icmp .ge 18, 3) := by decide +kernel
theorem d_X7_layOrders_88 : decode prog_9_method_44_code 88 = .ok (.aload_n 0, 1) := by decide +kernel
theorem d_X7_layOrders_89 : decode prog_9_method_44_code 89 = .ok (.iload_n 2, 1) := by decide +kernel
theorem d_X7_layOrders_90 : decode prog_9_method_44_code 90 = .ok (.iload_n 3, 1) := by decide +kernel
theorem d_X7_layOrders_91 : decode prog_9_method_44_code 91 = .ok (.invokevirtual 187, 3) := by decide +kernel
theorem d_X7_layOrders_94 : decode prog_9_method_44_code 94 = .ok (.ifCond .ne 9, 3) := by decide +kernel
theorem d_X7_layOrders_97 : decode prog_9_method_44_code 97 = .ok (.iinc 3 1, 3) := by decide +kernel
theorem d_X7_layOrders_100 : decode prog_9_method_44_code 100 = .ok (.goto (-17), 3) := by decide +kernel
theorem d_X7_layOrders_103 : decode prog_9_method_44_code 103 = .ok (.iload_n 3, 1) := by decide +kernel
theorem d_X7_layOrders_104 : decode prog_9_method_44_code 104 = .ok (.iload_n 1, 1) := by decide +kernel
theorem d_X7_layOrders_105 : decode prog_9_method_44_code 105 = .ok (.if_icmp .ne 9, 3) := by decide +kernel
theorem d_X7_layOrders_108 : decode prog_9_method_44_code 108 = .ok (.iinc 2 (-1), 3) := by decide +kernel
theorem d_X7_layOrders_111 : decode prog_9_method_44_code 111 = .ok (.goto 75, 3) := by decide +kernel
theorem d_X7_layOrders_114 : decode prog_9_method_44_code 114 = .ok (.aload_n 0, 1) := by decide +kernel
theorem d_X7_layOrders_115 : decode prog_9_method_44_code 115 = .ok (.getfield 57, 3) := by decide +kernel
theorem d_X7_layOrders_118 : decode prog_9_method_44_code 118 = .ok (.iload_n 2, 1) := by decide +kernel
theorem d_X7_layOrders_119 : decode prog_9_method_44_code 119 = .ok (.iload_n 3, 1) := by decide +kernel
theorem d_X7_layOrders_120 : decode prog_9_method_44_code 120 = .ok (.iastore, 1) := by decide +kernel
theorem d_X7_layOrders_121 : decode prog_9_method_44_code 121 = .ok (.iload_n 2, 1) := by decide +kernel
theorem d_X7_layOrders_122 : decode prog_9_method_44_code 122 = .ok (.iload_n 1, 1) := by decide +kernel
theorem d_X7_layOrders_123 : decode prog_9_method_44_code 123 = .ok (.iconst 1, 1) := by decide +kernel
theorem d_X7_layOrders_124 : decode prog_9_method_44_code 124 = .ok (.isub, 1) := by decide +kernel
theorem d_X7_layOrders_125 : decode prog_9_method_44_code 125 = .ok (.if_icmp .ne 50, 3) := by decide +kernel
theorem d_X7_layOrders_128 : decode prog_9_method_44_code 128 = .ok (.aload_n 0, 1) := by decide +kernel
theorem d_X7_layOrders_129 : decode prog_9_method_44_code 129 = .ok (.dup, 1) := by decide +kernel
theorem d_X7_layOrders_130 : decode prog_9_method_44_code 130 = .ok (.getfield 184, 3) := by decide +kernel
theorem d_X7_layOrders_133 : decode prog_9_method_44_code 133 = .ok (.iconst 1, 1) := by decide +kernel
theorem d_X7_layOrders_134 : decode prog_9_method_44_code 134 = .ok (.iadd, 1) := by decide +kernel
theorem d_X7_layOrders_135 : decode prog_9_method_44_code 135 = .ok (.putfield 184, 3) := by decide +kernel
theorem d_X7_layOrders_138 : decode prog_9_method_44_code 138 = .ok (.iconst 0, 1) := by decide +kernel
theorem d_X7_layOrders_139 : decode prog_9_method_44_code 139 = .ok (.istore 4, 2) := by decide +kernel
theorem d_X7_layOrders_141 : decode prog_9_method_44_code 141 = .ok (.iload 4, 2) := by decide +kernel
theorem d_X7_layOrders_143 : decode prog_9_method_44_code 143 = .ok (.iload_n 1, 1) := by decide +kernel
theorem d_X7_layOrders_144 : decode prog_9_method_44_code 144 = .ok (.if_icmp .ge 28, 3) := by decide +kernel
theorem d_X7_layOrders_147 : decode prog_9_method_44_code 147 = .ok (.aload_n 0, 1) := by decide +kernel
theorem d_X7_layOrders_148 : decode prog_9_method_44_code 148 = .ok (.getfield 60, 3) := by decide +kernel
theorem d_X7_layOrders_151 : decode prog_9_method_44_code 151 = .ok (.aload_n 0, 1) := by decide +kernel
theorem d_X7_layOrders_152 : decode prog_9_method_44_code 152 = .ok (.getfield 57, 3) := by decide +kernel
theorem d_X7_layOrders_155 : decode prog_9_method_44_code 155 = .ok (.iload 4, 2) := by decide +kernel
theorem d_X7_layOrders_157 : decode prog_9_method_44_code 157 = .ok (.iaload, 1) := by decide +kernel
theorem d_X7_layOrders_158 : decode prog_9_method_44_code 158 = .ok (.dup2, 1) := by decide +kernel
theorem d_X7_layOrders_159 : decode prog_9_method_44_code 159 = .ok (.iaload, 1) := by decide +kernel
theorem d_X7_layOrders_160 : decode prog_9_method_44_code 160 = .ok (.iconst 1, 1) := by decide +kernel
theorem d_X7_layOrders_161 : decode prog_9_method_44_code 161 = .ok (.iload 4, 2) := by decide +kernel
theorem d_X7_layOrders_163 : decode prog_9_method_44_code 163 = .ok (.ishl, 1) := by decide +kernel
theorem d_X7_layOrders_164 : decode prog_9_method_44_code 164 = .ok (.ior, 1) := by decide +kernel
theorem d_X7_layOrders_165 : decode prog_9_method_44_code 165 = .ok (.iastore, 1) := by decide +kernel
theorem d_X7_layOrders_166 : decode prog_9_method_44_code 166 = .ok (.iinc 4 1, 3) := by decide +kernel
theorem d_X7_layOrders_169 : decode prog_9_method_44_code 169 = .ok (.goto (-28), 3) := by decide +kernel
theorem d_X7_layOrders_172 : decode prog_9_method_44_code 172 = .ok (.goto 14, 3) := by decide +kernel
theorem d_X7_layOrders_175 : decode prog_9_method_44_code 175 = .ok (.iinc 2 1, 3) := by decide +kernel
theorem d_X7_layOrders_178 : decode prog_9_method_44_code 178 = .ok (.aload_n 0, 1) := by decide +kernel
theorem d_X7_layOrders_179 : decode prog_9_method_44_code 179 = .ok (.getfield 57, 3) := by decide +kernel
theorem d_X7_layOrders_182 : decode prog_9_method_44_code 182 = .ok (.iload_n 2, 1) := by decide +kernel
theorem d_X7_layOrders_183 : decode prog_9_method_44_code 183 = .ok (.bipush (-9), 2) := by decide +kernel
theorem d_X7_layOrders_185 : decode prog_9_method_44_code 185 = .ok (.iastore, 1) := by decide +kernel
theorem d_X7_layOrders_186 : decode prog_9_method_44_code 186 = .ok (.goto (-131), 3) := by decide +kernel
theorem d_X7_layOrders_189 : decode prog_9_method_44_code 189 = .ok (.return_, 1) := by decide +kernel
def m_X7_layOrders_b186 (sh : Sh) (k55 : Int32 → Mu → Option Mu) (v0 : Nat) (v1 : Int32) (v2 : Int32) (μ : Mu) : Option Mu :=
  k55 v2 μ
def m_X7_layOrders_b172 (sh : Sh) (k55 : Int32 → Mu → Option Mu) (v0 : Nat) (v1 : Int32) (v2 : Int32) (μ : Mu) : Option Mu :=
  m_X7_layOrders_b186 sh k55 v0 v1 v2 μ
def m_X7_layOrders_b141 (sh : Sh) (k55 : Int32 → Mu → Option Mu) (k141 : Int32 → Mu → Option Mu) (v0 : Nat) (v1 : Int32) (v2 : Int32) (v4 : Int32) (μ : Mu) : Option Mu :=
  if v1 ≤ v4 then
    m_X7_layOrders_b172 sh k55 v0 v1 v2 μ
  else
    gd (iz sh 7 v0) <|
    bd (gR μ v0 28) fun a48 =>
    bd (gR μ v0 26) fun a49 =>
    gd (ix sh 8 a49 v4) <|
    bd (gI μ a49 v4.toNatClampNeg) fun w51 =>
    gd (ix sh 8 a48 w51) <|
    bd (gI μ a48 w51.toNatClampNeg) fun w53 =>
    bd (sI μ a48 w51.toNatClampNeg (w53 ||| (1 <<< (v4 &&& 31)))) fun μ54 =>
    bd (v4 + 1) fun w55 =>
    k141 w55 μ54
def m_X7_layOrders_h141 (sh : Sh) (k55 : Int32 → Mu → Option Mu) (v0 : Nat) (v1 : Int32) (v2 : Int32) : Nat → Int32 → Mu → Option Mu
  | 0 => fun _ _ => none
  | f + 1 => fun v4 μ => m_X7_layOrders_b141 sh k55 (m_X7_layOrders_h141 sh k55 v0 v1 v2 f) v0 v1 v2 v4 μ
def m_X7_layOrders_b103 (sh : Sh) (k55 : Int32 → Mu → Option Mu) (v0 : Nat) (v1 : Int32) (v2 : Int32) (v3 : Int32) (μ : Mu) : Option Mu :=
  if v3 = v1 then
    bd (v2 + (-1)) fun w45 =>
    m_X7_layOrders_b186 sh k55 v0 v1 w45 μ
  else
    gd (iz sh 7 v0) <|
    bd (gR μ v0 26) fun a36 =>
    gd (ix sh 8 a36 v2) <|
    bd (sI μ a36 v2.toNatClampNeg v3) fun μ38 =>
    if v2 = (v1 - 1) then
      bd (sI μ38 v0 27 ((gI μ38 v0 27) + 1)) fun μ44 =>
      m_X7_layOrders_h141 sh k55 v0 v1 v2 FU 0 μ44
    else
      bd (v2 + 1) fun w40 =>
      bd (gR μ38 v0 26) fun a41 =>
      gd (ix sh 8 a41 w40) <|
      bd (sI μ38 a41 w40.toNatClampNeg (-9)) fun μ43 =>
      m_X7_layOrders_b186 sh k55 v0 v1 w40 μ43
def m_X7_layOrders_b83 (sh : Sh) (k55 : Int32 → Mu → Option Mu) (k83 : Int32 → Mu → Option Mu) (v0 : Nat) (v1 : Int32) (v2 : Int32) (v3 : Int32) (μ : Mu) : Option Mu :=
  if v1 ≤ v3 then
    m_X7_layOrders_b103 sh k55 v0 v1 v2 v3 μ
  else
    gd (iz sh 7 v0) <|
    ca2 (m_X7_fits sh v0 v2 v3 μ) fun r30 μ31 =>
    if r30 = 0 then
      bd (v3 + 1) fun w33 =>
      k83 w33 μ31
    else
      m_X7_layOrders_b103 sh k55 v0 v1 v2 v3 μ31
def m_X7_layOrders_h83 (sh : Sh) (k55 : Int32 → Mu → Option Mu) (v0 : Nat) (v1 : Int32) (v2 : Int32) : Nat → Int32 → Mu → Option Mu
  | 0 => fun _ _ => none
  | f + 1 => fun v3 μ => m_X7_layOrders_b83 sh k55 (m_X7_layOrders_h83 sh k55 v0 v1 v2 f) v0 v1 v2 v3 μ
def m_X7_layOrders_b82 (sh : Sh) (k55 : Int32 → Mu → Option Mu) (v0 : Nat) (v1 : Int32) (v2 : Int32) (s0 : Int32) (μ : Mu) : Option Mu :=
  m_X7_layOrders_h83 sh k55 v0 v1 v2 FU s0 μ
def m_X7_layOrders_b55 (sh : Sh) (k55 : Int32 → Mu → Option Mu) (v0 : Nat) (v1 : Int32) (v2 : Int32) (μ : Mu) : Option Mu :=
  if v2 < 0 then
    some μ
  else
    gd (iz sh 7 v0) <|
    bd (gR μ v0 26) fun a21 =>
    gd (ix sh 8 a21 v2) <|
    bd (gI μ a21 v2.toNatClampNeg) fun w23 =>
    if w23 = (-9) then
      m_X7_layOrders_b82 sh k55 v0 v1 v2 0 μ
    else
      bd (gR μ v0 26) fun a25 =>
      gd (ix sh 8 a25 v2) <|
      bd (gI μ a25 v2.toNatClampNeg) fun w27 =>
      m_X7_layOrders_b82 sh k55 v0 v1 v2 (w27 + 1) μ
def m_X7_layOrders_h55 (sh : Sh) (v0 : Nat) (v1 : Int32) : Nat → Int32 → Mu → Option Mu
  | 0 => fun _ _ => none
  | f + 1 => fun v2 μ => m_X7_layOrders_b55 sh (m_X7_layOrders_h55 sh v0 v1 f) v0 v1 v2 μ
def m_X7_layOrders_b35 (sh : Sh) (v0 : Nat) (v1 : Int32) (μ : Mu) : Option Mu :=
  if v1 = 0 then
    gd (iz sh 7 v0) <|
    bd (sI μ v0 27 1) fun μ18 =>
    some μ18
  else
    gd (iz sh 7 v0) <|
    bd (gR μ v0 26) fun a14 =>
    gd (ix sh 8 a14 0) <|
    bd (sI μ a14 (0 : Int32).toNatClampNeg (-9)) fun μ16 =>
    m_X7_layOrders_h55 sh v0 v1 FU 0 μ16
def m_X7_layOrders_b16 (sh : Sh) (k16 : Int32 → Mu → Option Mu) (v0 : Nat) (v1 : Int32) (v2 : Int32) (μ : Mu) : Option Mu :=
  if 6 ≤ v2 then
    m_X7_layOrders_b35 sh v0 v1 μ
  else
    gd (iz sh 7 v0) <|
    bd (gR μ v0 28) fun a8 =>
    gd (ix sh 8 a8 v2) <|
    bd (sI μ a8 v2.toNatClampNeg 0) fun μ10 =>
    bd (v2 + 1) fun w11 =>
    k16 w11 μ10
def m_X7_layOrders_h16 (sh : Sh) (v0 : Nat) (v1 : Int32) : Nat → Int32 → Mu → Option Mu
  | 0 => fun _ _ => none
  | f + 1 => fun v2 μ => m_X7_layOrders_b16 sh (m_X7_layOrders_h16 sh v0 v1 f) v0 v1 v2 μ
def m_X7_layOrders (sh : Sh) (v0 : Nat) (μ : Mu) : Option Mu :=
  gd (iz sh 7 v0) <|
  bd (gR μ v0 16) fun a2 =>
  gd (ix sh 8 a2 202) <|
  bd (gI μ a2 (202 : Int32).toNatClampNeg) fun w4 =>
  bd (sI μ v0 27 0) fun μ5 =>
  m_X7_layOrders_h16 sh v0 w4 FU 0 μ5
set_option maxHeartbeats 4000000 in
set_option maxRecDepth 20000 in
theorem t_X7_layOrders_b186 {l : Launch} {G : Gl} {n : Nat} {sh : Sh} {x : Mu} {k55 : Int32 → Mu → Option Mu} {v0 : Nat} {v1 : Int32} {v2 : Int32} {μ : Mu} (hk55 : ∀ (v2 : Int32) (μ : Mu), k55 v2 μ = some x → Sj l G (QV G n sh x) c_X7_layOrders n sh 0 0 μ 55 [some (vr v0), some (vi v1), some (vi v2), none, none] []) (h : m_X7_layOrders_b186 sh k55 v0 v1 v2 μ = some x) : Sj l G (QV G n sh x) c_X7_layOrders n sh 0 0 μ 186 [some (vr v0), some (vi v1), some (vi v2), none, none] [] := by
  unfold m_X7_layOrders_b186 at h
  refine s_goto (pc := 186) (tgt := 55) d_X7_layOrders_186 (by decide) ?_
  exact hk55 _ _ h
set_option maxHeartbeats 4000000 in
set_option maxRecDepth 20000 in
theorem t_X7_layOrders_b172 {l : Launch} {G : Gl} {n : Nat} {sh : Sh} {x : Mu} {k55 : Int32 → Mu → Option Mu} {v0 : Nat} {v1 : Int32} {v2 : Int32} {μ : Mu} (hk55 : ∀ (v2 : Int32) (μ : Mu), k55 v2 μ = some x → Sj l G (QV G n sh x) c_X7_layOrders n sh 0 0 μ 55 [some (vr v0), some (vi v1), some (vi v2), none, none] []) (h : m_X7_layOrders_b172 sh k55 v0 v1 v2 μ = some x) : Sj l G (QV G n sh x) c_X7_layOrders n sh 0 0 μ 172 [some (vr v0), some (vi v1), some (vi v2), none, none] [] := by
  unfold m_X7_layOrders_b172 at h
  refine s_goto (pc := 172) (tgt := 186) d_X7_layOrders_172 (by decide) ?_
  exact t_X7_layOrders_b186 hk55 h
set_option maxHeartbeats 4000000 in
set_option maxRecDepth 20000 in
theorem t_X7_layOrders_b141 {l : Launch} {G : Gl} {n : Nat} {sh : Sh} {x : Mu} {k55 : Int32 → Mu → Option Mu} {k141 : Int32 → Mu → Option Mu} {v0 : Nat} {v1 : Int32} {v2 : Int32} {v4 : Int32} {μ : Mu} (hk55 : ∀ (v2 : Int32) (μ : Mu), k55 v2 μ = some x → Sj l G (QV G n sh x) c_X7_layOrders n sh 0 0 μ 55 [some (vr v0), some (vi v1), some (vi v2), none, none] []) (hk141 : ∀ (v4 : Int32) (μ : Mu), k141 v4 μ = some x → Sj l G (QV G n sh x) c_X7_layOrders n sh 0 0 μ 141 [some (vr v0), some (vi v1), some (vi v2), none, some (vi v4)] []) (h : m_X7_layOrders_b141 sh k55 k141 v0 v1 v2 v4 μ = some x) : Sj l G (QV G n sh x) c_X7_layOrders n sh 0 0 μ 141 [some (vr v0), some (vi v1), some (vi v2), none, some (vi v4)] [] := by
  unfold m_X7_layOrders_b141 at h
  refine s_iload (pc := 141) d_X7_layOrders_141 rfl ?_
  refine s_iload_n (pc := 143) d_X7_layOrders_143 rfl rfl ?_
  refine s_icmp_ge (pc := 144) (tgt := 172) d_X7_layOrders_144 (by decide) (fun c46 => ?_) (fun c46 => ?_)
  · have h := it_t c46 h
    refine s_mask [true, true, true, true, false] rfl ?_
    exact t_X7_layOrders_b172 hk55 h
  · have h := it_f c46 h
    refine s_aload_n (pc := 147) d_X7_layOrders_147 rfl rfl ?_
    obtain ⟨g47, h⟩ := gd_1 h
    refine s_getR (pc := 148) (k := 28) cl_7 d_X7_layOrders_148 g47 (by decide) w_688 (rt_arr _) ?_
    obtain ⟨a48, ea48, h⟩ := bd_1 h
    refine s_topR ea48 ?_
    refine s_aload_n (pc := 151) d_X7_layOrders_151 rfl rfl ?_
    refine s_getR (pc := 152) (k := 26) cl_7 d_X7_layOrders_152 g47 (by decide) w_686 (rt_arr _) ?_
    obtain ⟨a49, ea49, h⟩ := bd_1 h
    refine s_topR ea49 ?_
    refine s_iload (pc := 155) d_X7_layOrders_155 rfl ?_
    obtain ⟨g50, h⟩ := gd_1 h
    refine s_iald (pc := 157) d_X7_layOrders_157 g50 ?_
    obtain ⟨w51, ew51, h⟩ := bd_1 h
    refine s_topI ew51 ?_
    refine s_dup2 (pc := 158) d_X7_layOrders_158 rfl rfl ?_
    obtain ⟨g52, h⟩ := gd_1 h
    refine s_iald (pc := 159) d_X7_layOrders_159 g52 ?_
    obtain ⟨w53, ew53, h⟩ := bd_1 h
    refine s_topI ew53 ?_
    refine s_iconst (pc := 160) (v := 1) d_X7_layOrders_160 (by decide) ?_
    refine s_iload (pc := 161) d_X7_layOrders_161 rfl ?_
    refine s_ishl (pc := 163) d_X7_layOrders_163 ?_
    refine s_ior (pc := 164) d_X7_layOrders_164 ?_
    refine s_iast (pc := 165) d_X7_layOrders_165 g52 ?_
    obtain ⟨μ54, eμ54, h⟩ := bd_1 h
    refine s_mu eμ54 ?_
    obtain ⟨w55, ew55, h⟩ := bd_1 h
    refine s_iinc (pc := 166) (v := w55) (lc' := [some (vr v0), some (vi v1), some (vi v2), none, some (vi w55)]) d_X7_layOrders_166 rfl (by rw [ew55]; rfl) (by decide) rfl ?_
    refine s_goto (pc := 169) (tgt := 141) d_X7_layOrders_169 (by decide) ?_
    exact hk141 _ _ h
set_option maxHeartbeats 4000000 in
set_option maxRecDepth 20000 in
theorem t_X7_layOrders_h141 {l : Launch} {G : Gl} {n : Nat} {sh : Sh} {x : Mu} {k55 : Int32 → Mu → Option Mu} {v0 : Nat} {v1 : Int32} {v2 : Int32} (hk55 : ∀ (v2 : Int32) (μ : Mu), k55 v2 μ = some x → Sj l G (QV G n sh x) c_X7_layOrders n sh 0 0 μ 55 [some (vr v0), some (vi v1), some (vi v2), none, none] []) : ∀ (f : Nat) (v4 : Int32) (μ : Mu), m_X7_layOrders_h141 sh k55 v0 v1 v2 f v4 μ = some x → Sj l G (QV G n sh x) c_X7_layOrders n sh 0 0 μ 141 [some (vr v0), some (vi v1), some (vi v2), none, some (vi v4)] [] := by
  intro f
  induction f with
  | zero =>
    intro v4 μ h
    cases h
  | succ f ih =>
    intro v4 μ h
    exact t_X7_layOrders_b141 hk55 ih h
set_option maxHeartbeats 4000000 in
set_option maxRecDepth 20000 in
theorem t_X7_layOrders_b103 {l : Launch} {G : Gl} {n : Nat} {sh : Sh} {x : Mu} {k55 : Int32 → Mu → Option Mu} {v0 : Nat} {v1 : Int32} {v2 : Int32} {v3 : Int32} {μ : Mu} (hk55 : ∀ (v2 : Int32) (μ : Mu), k55 v2 μ = some x → Sj l G (QV G n sh x) c_X7_layOrders n sh 0 0 μ 55 [some (vr v0), some (vi v1), some (vi v2), none, none] []) (h : m_X7_layOrders_b103 sh k55 v0 v1 v2 v3 μ = some x) : Sj l G (QV G n sh x) c_X7_layOrders n sh 0 0 μ 103 [some (vr v0), some (vi v1), some (vi v2), some (vi v3), none] [] := by
  unfold m_X7_layOrders_b103 at h
  refine s_iload_n (pc := 103) d_X7_layOrders_103 rfl rfl ?_
  refine s_iload_n (pc := 104) d_X7_layOrders_104 rfl rfl ?_
  refine s_icmp_ne (pc := 105) (tgt := 114) d_X7_layOrders_105 (by decide) (fun c34 => ?_) (fun c34 => ?_)
  · have h := it_f c34 h
    refine s_aload_n (pc := 114) d_X7_layOrders_114 rfl rfl ?_
    obtain ⟨g35, h⟩ := gd_1 h
    refine s_getR (pc := 115) (k := 26) cl_7 d_X7_layOrders_115 g35 (by decide) w_686 (rt_arr _) ?_
    obtain ⟨a36, ea36, h⟩ := bd_1 h
    refine s_topR ea36 ?_
    refine s_iload_n (pc := 118) d_X7_layOrders_118 rfl rfl ?_
    refine s_iload_n (pc := 119) d_X7_layOrders_119 rfl rfl ?_
    obtain ⟨g37, h⟩ := gd_1 h
    refine s_iast (pc := 120) d_X7_layOrders_120 g37 ?_
    obtain ⟨μ38, eμ38, h⟩ := bd_1 h
    refine s_mu eμ38 ?_
    refine s_iload_n (pc := 121) d_X7_layOrders_121 rfl rfl ?_
    refine s_iload_n (pc := 122) d_X7_layOrders_122 rfl rfl ?_
    refine s_iconst (pc := 123) (v := 1) d_X7_layOrders_123 (by decide) ?_
    refine s_isub (pc := 124) d_X7_layOrders_124 ?_
    refine s_icmp_ne (pc := 125) (tgt := 175) d_X7_layOrders_125 (by decide) (fun c39 => ?_) (fun c39 => ?_)
    · have h := it_f c39 h
      obtain ⟨w40, ew40, h⟩ := bd_1 h
      refine s_iinc (pc := 175) (v := w40) (lc' := [some (vr v0), some (vi v1), some (vi w40), some (vi v3), none]) d_X7_layOrders_175 rfl (by rw [ew40]; rfl) (by decide) rfl ?_
      refine s_aload_n (pc := 178) d_X7_layOrders_178 rfl rfl ?_
      refine s_getR (pc := 179) (k := 26) cl_7 d_X7_layOrders_179 g35 (by decide) w_686 (rt_arr _) ?_
      obtain ⟨a41, ea41, h⟩ := bd_1 h
      refine s_topR ea41 ?_
      refine s_iload_n (pc := 182) d_X7_layOrders_182 rfl rfl ?_
      refine s_bipush (pc := 183) (v := (-9)) d_X7_layOrders_183 (by decide) ?_
      obtain ⟨g42, h⟩ := gd_1 h
      refine s_iast (pc := 185) d_X7_layOrders_185 g42 ?_
      obtain ⟨μ43, eμ43, h⟩ := bd_1 h
      refine s_mu eμ43 ?_
      refine s_mask [true, true, true, false, true] rfl ?_
      exact t_X7_layOrders_b186 hk55 h
    · have h := it_t c39 h
      refine s_aload_n (pc := 128) d_X7_layOrders_128 rfl rfl ?_
      refine s_dup (pc := 129) d_X7_layOrders_129 rfl ?_
      refine s_getI (pc := 130) (k := 27) cl_7 d_X7_layOrders_130 g35 (by decide) w_687 rfl ?_
      refine s_iconst (pc := 133) (v := 1) d_X7_layOrders_133 (by decide) ?_
      refine s_iadd (pc := 134) d_X7_layOrders_134 ?_
      refine s_putI (pc := 135) (k := 27) cl_7 d_X7_layOrders_135 g35 (by decide) w_687 rfl rfl ?_
      obtain ⟨μ44, eμ44, h⟩ := bd_1 h
      refine s_mu eμ44 ?_
      refine s_iconst (pc := 138) (v := 0) d_X7_layOrders_138 (by decide) ?_
      refine s_istore (pc := 139) (lc' := [some (vr v0), some (vi v1), some (vi v2), some (vi v3), some (vi 0)]) d_X7_layOrders_139 (by decide) rfl ?_
      refine s_mask [true, true, true, false, true] rfl ?_
      exact t_X7_layOrders_h141 hk55 FU _ _ h
  · have h := it_t c34 h
    obtain ⟨w45, ew45, h⟩ := bd_1 h
    refine s_iinc (pc := 108) (v := w45) (lc' := [some (vr v0), some (vi v1), some (vi w45), some (vi v3), none]) d_X7_layOrders_108 rfl (by rw [ew45]; rfl) (by decide) rfl ?_
    refine s_goto (pc := 111) (tgt := 186) d_X7_layOrders_111 (by decide) ?_
    refine s_mask [true, true, true, false, true] rfl ?_
    exact t_X7_layOrders_b186 hk55 h
set_option maxHeartbeats 4000000 in
set_option maxRecDepth 20000 in
theorem t_X7_layOrders_b83 {l : Launch} {G : Gl} {n : Nat} {sh : Sh} {x : Mu} {k55 : Int32 → Mu → Option Mu} {k83 : Int32 → Mu → Option Mu} {v0 : Nat} {v1 : Int32} {v2 : Int32} {v3 : Int32} {μ : Mu} (hk55 : ∀ (v2 : Int32) (μ : Mu), k55 v2 μ = some x → Sj l G (QV G n sh x) c_X7_layOrders n sh 0 0 μ 55 [some (vr v0), some (vi v1), some (vi v2), none, none] []) (hk83 : ∀ (v3 : Int32) (μ : Mu), k83 v3 μ = some x → Sj l G (QV G n sh x) c_X7_layOrders n sh 0 0 μ 83 [some (vr v0), some (vi v1), some (vi v2), some (vi v3), none] []) (h : m_X7_layOrders_b83 sh k55 k83 v0 v1 v2 v3 μ = some x) : Sj l G (QV G n sh x) c_X7_layOrders n sh 0 0 μ 83 [some (vr v0), some (vi v1), some (vi v2), some (vi v3), none] [] := by
  unfold m_X7_layOrders_b83 at h
  refine s_iload_n (pc := 83) d_X7_layOrders_83 rfl rfl ?_
  refine s_iload_n (pc := 84) d_X7_layOrders_84 rfl rfl ?_
  refine s_icmp_ge (pc := 85) (tgt := 103) d_X7_layOrders_85 (by decide) (fun c28 => ?_) (fun c28 => ?_)
  · have h := it_t c28 h
    exact t_X7_layOrders_b103 hk55 h
  · have h := it_f c28 h
    refine s_aload_n (pc := 88) d_X7_layOrders_88 rfl rfl ?_
    refine s_iload_n (pc := 89) d_X7_layOrders_89 rfl rfl ?_
    refine s_iload_n (pc := 90) d_X7_layOrders_90 rfl rfl ?_
    obtain ⟨g29, h⟩ := gd_1 h
    obtain ⟨r30, μ31, er30, h⟩ := ca2_1 h
    refine s_callV (pc := 91) (as := [vi v2, vi v3]) (st := []) (vo := [vi r30]) (t_X7_fits er30) cl_7 g29 d_X7_layOrders_91 y_X7_fits w_918 w_920 w_s26 ⟨by decide, by decide⟩ ⟨Nat.le_of_ble_eq_true rfl, Nat.le_of_ble_eq_true rfl⟩ (Nat.le_of_ble_eq_true rfl) rfl rfl rfl ?_
    refine s_as (kc' := 0) (js' := 0) (pc' := 94) (st' := [vi r30]) ⟨rfl, rfl, rfl, rfl⟩ ?_
    refine s_if_ne (pc := 94) (tgt := 103) d_X7_layOrders_94 (by decide) (fun c32 => ?_) (fun c32 => ?_)
    · have h := it_f c32 h
      exact t_X7_layOrders_b103 hk55 h
    · have h := it_t c32 h
      obtain ⟨w33, ew33, h⟩ := bd_1 h
      refine s_iinc (pc := 97) (v := w33) (lc' := [some (vr v0), some (vi v1), some (vi v2), some (vi w33), none]) d_X7_layOrders_97 rfl (by rw [ew33]; rfl) (by decide) rfl ?_
      refine s_goto (pc := 100) (tgt := 83) d_X7_layOrders_100 (by decide) ?_
      exact hk83 _ _ h
set_option maxHeartbeats 4000000 in
set_option maxRecDepth 20000 in
theorem t_X7_layOrders_h83 {l : Launch} {G : Gl} {n : Nat} {sh : Sh} {x : Mu} {k55 : Int32 → Mu → Option Mu} {v0 : Nat} {v1 : Int32} {v2 : Int32} (hk55 : ∀ (v2 : Int32) (μ : Mu), k55 v2 μ = some x → Sj l G (QV G n sh x) c_X7_layOrders n sh 0 0 μ 55 [some (vr v0), some (vi v1), some (vi v2), none, none] []) : ∀ (f : Nat) (v3 : Int32) (μ : Mu), m_X7_layOrders_h83 sh k55 v0 v1 v2 f v3 μ = some x → Sj l G (QV G n sh x) c_X7_layOrders n sh 0 0 μ 83 [some (vr v0), some (vi v1), some (vi v2), some (vi v3), none] [] := by
  intro f
  induction f with
  | zero =>
    intro v3 μ h
    cases h
  | succ f ih =>
    intro v3 μ h
    exact t_X7_layOrders_b83 hk55 ih h
set_option maxHeartbeats 4000000 in
set_option maxRecDepth 20000 in
theorem t_X7_layOrders_b82 {l : Launch} {G : Gl} {n : Nat} {sh : Sh} {x : Mu} {k55 : Int32 → Mu → Option Mu} {v0 : Nat} {v1 : Int32} {v2 : Int32} {s0 : Int32} {μ : Mu} (hk55 : ∀ (v2 : Int32) (μ : Mu), k55 v2 μ = some x → Sj l G (QV G n sh x) c_X7_layOrders n sh 0 0 μ 55 [some (vr v0), some (vi v1), some (vi v2), none, none] []) (h : m_X7_layOrders_b82 sh k55 v0 v1 v2 s0 μ = some x) : Sj l G (QV G n sh x) c_X7_layOrders n sh 0 0 μ 82 [some (vr v0), some (vi v1), some (vi v2), none, none] [vi s0] := by
  unfold m_X7_layOrders_b82 at h
  refine s_istore_n (pc := 82) (lc' := [some (vr v0), some (vi v1), some (vi v2), some (vi s0), none]) d_X7_layOrders_82 rfl (by decide) rfl ?_
  exact t_X7_layOrders_h83 hk55 FU _ _ h
set_option maxHeartbeats 4000000 in
set_option maxRecDepth 20000 in
theorem t_X7_layOrders_b55 {l : Launch} {G : Gl} {n : Nat} {sh : Sh} {x : Mu} {k55 : Int32 → Mu → Option Mu} {v0 : Nat} {v1 : Int32} {v2 : Int32} {μ : Mu} (hk55 : ∀ (v2 : Int32) (μ : Mu), k55 v2 μ = some x → Sj l G (QV G n sh x) c_X7_layOrders n sh 0 0 μ 55 [some (vr v0), some (vi v1), some (vi v2), none, none] []) (h : m_X7_layOrders_b55 sh k55 v0 v1 v2 μ = some x) : Sj l G (QV G n sh x) c_X7_layOrders n sh 0 0 μ 55 [some (vr v0), some (vi v1), some (vi v2), none, none] [] := by
  unfold m_X7_layOrders_b55 at h
  refine s_iload_n (pc := 55) d_X7_layOrders_55 rfl rfl ?_
  refine s_if_lt (pc := 56) (tgt := 189) d_X7_layOrders_56 (by decide) (fun c19 => ?_) (fun c19 => ?_)
  · have h := it_t c19 h
    obtain rfl := Option.some.inj h
    exact s_vret (pc := 189) d_X7_layOrders_189 rfl
  · have h := it_f c19 h
    refine s_aload_n (pc := 59) d_X7_layOrders_59 rfl rfl ?_
    obtain ⟨g20, h⟩ := gd_1 h
    refine s_getR (pc := 60) (k := 26) cl_7 d_X7_layOrders_60 g20 (by decide) w_686 (rt_arr _) ?_
    obtain ⟨a21, ea21, h⟩ := bd_1 h
    refine s_topR ea21 ?_
    refine s_iload_n (pc := 63) d_X7_layOrders_63 rfl rfl ?_
    obtain ⟨g22, h⟩ := gd_1 h
    refine s_iald (pc := 64) d_X7_layOrders_64 g22 ?_
    obtain ⟨w23, ew23, h⟩ := bd_1 h
    refine s_topI ew23 ?_
    refine s_bipush (pc := 65) (v := (-9)) d_X7_layOrders_65 (by decide) ?_
    refine s_icmp_ne (pc := 67) (tgt := 74) d_X7_layOrders_67 (by decide) (fun c24 => ?_) (fun c24 => ?_)
    · have h := it_f c24 h
      refine s_aload_n (pc := 74) d_X7_layOrders_74 rfl rfl ?_
      refine s_getR (pc := 75) (k := 26) cl_7 d_X7_layOrders_75 g20 (by decide) w_686 (rt_arr _) ?_
      obtain ⟨a25, ea25, h⟩ := bd_1 h
      refine s_topR ea25 ?_
      refine s_iload_n (pc := 78) d_X7_layOrders_78 rfl rfl ?_
      obtain ⟨g26, h⟩ := gd_1 h
      refine s_iald (pc := 79) d_X7_layOrders_79 g26 ?_
      obtain ⟨w27, ew27, h⟩ := bd_1 h
      refine s_topI ew27 ?_
      refine s_iconst (pc := 80) (v := 1) d_X7_layOrders_80 (by decide) ?_
      refine s_iadd (pc := 81) d_X7_layOrders_81 ?_
      exact t_X7_layOrders_b82 hk55 h
    · have h := it_t c24 h
      refine s_iconst (pc := 70) (v := 0) d_X7_layOrders_70 (by decide) ?_
      refine s_goto (pc := 71) (tgt := 82) d_X7_layOrders_71 (by decide) ?_
      exact t_X7_layOrders_b82 hk55 h
set_option maxHeartbeats 4000000 in
set_option maxRecDepth 20000 in
theorem t_X7_layOrders_h55 {l : Launch} {G : Gl} {n : Nat} {sh : Sh} {x : Mu} {v0 : Nat} {v1 : Int32} : ∀ (f : Nat) (v2 : Int32) (μ : Mu), m_X7_layOrders_h55 sh v0 v1 f v2 μ = some x → Sj l G (QV G n sh x) c_X7_layOrders n sh 0 0 μ 55 [some (vr v0), some (vi v1), some (vi v2), none, none] [] := by
  intro f
  induction f with
  | zero =>
    intro v2 μ h
    cases h
  | succ f ih =>
    intro v2 μ h
    exact t_X7_layOrders_b55 ih h
set_option maxHeartbeats 4000000 in
set_option maxRecDepth 20000 in
theorem t_X7_layOrders_b35 {l : Launch} {G : Gl} {n : Nat} {sh : Sh} {x : Mu} {v0 : Nat} {v1 : Int32} {μ : Mu} (h : m_X7_layOrders_b35 sh v0 v1 μ = some x) : Sj l G (QV G n sh x) c_X7_layOrders n sh 0 0 μ 35 [some (vr v0), some (vi v1), none, none, none] [] := by
  unfold m_X7_layOrders_b35 at h
  refine s_iload_n (pc := 35) d_X7_layOrders_35 rfl rfl ?_
  refine s_if_ne (pc := 36) (tgt := 45) d_X7_layOrders_36 (by decide) (fun c12 => ?_) (fun c12 => ?_)
  · have h := it_f c12 h
    refine s_iconst (pc := 45) (v := 0) d_X7_layOrders_45 (by decide) ?_
    refine s_istore_n (pc := 46) (lc' := [some (vr v0), some (vi v1), some (vi 0), none, none]) d_X7_layOrders_46 rfl (by decide) rfl ?_
    refine s_aload_n (pc := 47) d_X7_layOrders_47 rfl rfl ?_
    obtain ⟨g13, h⟩ := gd_1 h
    refine s_getR (pc := 48) (k := 26) cl_7 d_X7_layOrders_48 g13 (by decide) w_686 (rt_arr _) ?_
    obtain ⟨a14, ea14, h⟩ := bd_1 h
    refine s_topR ea14 ?_
    refine s_iconst (pc := 51) (v := 0) d_X7_layOrders_51 (by decide) ?_
    refine s_bipush (pc := 52) (v := (-9)) d_X7_layOrders_52 (by decide) ?_
    obtain ⟨g15, h⟩ := gd_1 h
    refine s_iast (pc := 54) d_X7_layOrders_54 g15 ?_
    obtain ⟨μ16, eμ16, h⟩ := bd_1 h
    refine s_mu eμ16 ?_
    exact t_X7_layOrders_h55 FU _ _ h
  · have h := it_t c12 h
    refine s_aload_n (pc := 39) d_X7_layOrders_39 rfl rfl ?_
    refine s_iconst (pc := 40) (v := 1) d_X7_layOrders_40 (by decide) ?_
    obtain ⟨g17, h⟩ := gd_1 h
    refine s_putI (pc := 41) (k := 27) cl_7 d_X7_layOrders_41 g17 (by decide) w_687 rfl rfl ?_
    obtain ⟨μ18, eμ18, h⟩ := bd_1 h
    refine s_mu eμ18 ?_
    obtain rfl := Option.some.inj h
    exact s_vret (pc := 44) d_X7_layOrders_44 rfl
set_option maxHeartbeats 4000000 in
set_option maxRecDepth 20000 in
theorem t_X7_layOrders_b16 {l : Launch} {G : Gl} {n : Nat} {sh : Sh} {x : Mu} {k16 : Int32 → Mu → Option Mu} {v0 : Nat} {v1 : Int32} {v2 : Int32} {μ : Mu} (hk16 : ∀ (v2 : Int32) (μ : Mu), k16 v2 μ = some x → Sj l G (QV G n sh x) c_X7_layOrders n sh 0 0 μ 16 [some (vr v0), some (vi v1), some (vi v2), none, none] []) (h : m_X7_layOrders_b16 sh k16 v0 v1 v2 μ = some x) : Sj l G (QV G n sh x) c_X7_layOrders n sh 0 0 μ 16 [some (vr v0), some (vi v1), some (vi v2), none, none] [] := by
  unfold m_X7_layOrders_b16 at h
  refine s_iload_n (pc := 16) d_X7_layOrders_16 rfl rfl ?_
  refine s_bipush (pc := 17) (v := 6) d_X7_layOrders_17 (by decide) ?_
  refine s_icmp_ge (pc := 19) (tgt := 35) d_X7_layOrders_19 (by decide) (fun c6 => ?_) (fun c6 => ?_)
  · have h := it_t c6 h
    refine s_mask [true, true, false, true, true] rfl ?_
    exact t_X7_layOrders_b35 h
  · have h := it_f c6 h
    refine s_aload_n (pc := 22) d_X7_layOrders_22 rfl rfl ?_
    obtain ⟨g7, h⟩ := gd_1 h
    refine s_getR (pc := 23) (k := 28) cl_7 d_X7_layOrders_23 g7 (by decide) w_688 (rt_arr _) ?_
    obtain ⟨a8, ea8, h⟩ := bd_1 h
    refine s_topR ea8 ?_
    refine s_iload_n (pc := 26) d_X7_layOrders_26 rfl rfl ?_
    refine s_iconst (pc := 27) (v := 0) d_X7_layOrders_27 (by decide) ?_
    obtain ⟨g9, h⟩ := gd_1 h
    refine s_iast (pc := 28) d_X7_layOrders_28 g9 ?_
    obtain ⟨μ10, eμ10, h⟩ := bd_1 h
    refine s_mu eμ10 ?_
    obtain ⟨w11, ew11, h⟩ := bd_1 h
    refine s_iinc (pc := 29) (v := w11) (lc' := [some (vr v0), some (vi v1), some (vi w11), none, none]) d_X7_layOrders_29 rfl (by rw [ew11]; rfl) (by decide) rfl ?_
    refine s_goto (pc := 32) (tgt := 16) d_X7_layOrders_32 (by decide) ?_
    exact hk16 _ _ h
set_option maxHeartbeats 4000000 in
set_option maxRecDepth 20000 in
theorem t_X7_layOrders_h16 {l : Launch} {G : Gl} {n : Nat} {sh : Sh} {x : Mu} {v0 : Nat} {v1 : Int32} : ∀ (f : Nat) (v2 : Int32) (μ : Mu), m_X7_layOrders_h16 sh v0 v1 f v2 μ = some x → Sj l G (QV G n sh x) c_X7_layOrders n sh 0 0 μ 16 [some (vr v0), some (vi v1), some (vi v2), none, none] [] := by
  intro f
  induction f with
  | zero =>
    intro v2 μ h
    cases h
  | succ f ih =>
    intro v2 μ h
    exact t_X7_layOrders_b16 ih h
set_option maxHeartbeats 4000000 in
set_option maxRecDepth 20000 in
theorem t_X7_layOrders {l : Launch} {G : Gl} {n : Nat} {sh : Sh} {x : Mu} {v0 : Nat} {μ : Mu} (h : m_X7_layOrders sh v0 μ = some x) : Ct l G ⟨"StripsOfFourModel", "layOrders", "()V"⟩ prog_9_method_44_code 5 none { frames := 3, cells := 0, slots := 0, locals := 70 } n sh μ [vr v0] none n sh x := by
  refine Ct.of (lc := [some (vr v0), none, none, none, none]) (by decide +kernel) (Nat.le_of_ble_eq_true rfl) rfl ?_
  show Sj l G (QV G n sh x) c_X7_layOrders n sh 0 0 μ 0 [some (vr v0), none, none, none, none] []
  unfold m_X7_layOrders at h
  refine s_aload_n (pc := 0) d_X7_layOrders_0 rfl rfl ?_
  obtain ⟨g1, h⟩ := gd_1 h
  refine s_getR (pc := 1) (k := 16) cl_7 d_X7_layOrders_1 g1 (by decide) w_676 (rt_arr _) ?_
  obtain ⟨a2, ea2, h⟩ := bd_1 h
  refine s_topR ea2 ?_
  refine s_sipush (pc := 4) (v := 202) d_X7_layOrders_4 (by decide) ?_
  obtain ⟨g3, h⟩ := gd_1 h
  refine s_iald (pc := 7) d_X7_layOrders_7 g3 ?_
  obtain ⟨w4, ew4, h⟩ := bd_1 h
  refine s_topI ew4 ?_
  refine s_istore_n (pc := 8) (lc' := [some (vr v0), some (vi w4), none, none, none]) d_X7_layOrders_8 rfl (by decide) rfl ?_
  refine s_aload_n (pc := 9) d_X7_layOrders_9 rfl rfl ?_
  refine s_iconst (pc := 10) (v := 0) d_X7_layOrders_10 (by decide) ?_
  refine s_putI (pc := 11) (k := 27) cl_7 d_X7_layOrders_11 g1 (by decide) w_687 rfl rfl ?_
  obtain ⟨μ5, eμ5, h⟩ := bd_1 h
  refine s_mu eμ5 ?_
  refine s_iconst (pc := 14) (v := 0) d_X7_layOrders_14 (by decide) ?_
  refine s_istore_n (pc := 15) (lc' := [some (vr v0), some (vi w4), some (vi 0), none, none]) d_X7_layOrders_15 rfl (by decide) rfl ?_
  exact t_X7_layOrders_h16 FU _ _ h
